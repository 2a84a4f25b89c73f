section
-- ===== PART A: goes FIRST, ahead of the names: the tables' words, and 'selects' of the private methods out of them =====
/-- a private method of a class that the tables say can be made, by its rows of tables_1 -/
def lw_okq (q : MethodName × Nat) : Prop := (q.1.cls ≠ "java/lang/invoke/MethodHandle" ∧ q.1.cls ≠ "java/lang/invoke/VarHandle") ∧ Cond.instantiable q.1.cls q.2 ∈ tables_1 ∧ Cond.privateMethod q.1 ∈ tables_1 ∧ Cond.instanceMethod q.1 ∈ tables_1
theorem lw_p0 : lw_okq (⟨"PieceTexts", "isText", "(I)Z"⟩, 4) := ⟨⟨by decide +kernel, by decide +kernel⟩, List.mem_of_getElem? (i := 17) (by decide +kernel), List.mem_of_getElem? (i := 55) (by decide +kernel), List.mem_of_getElem? (i := 56) (by decide +kernel)⟩
theorem lw_p1 : lw_okq (⟨"PieceTexts", "rootOf", "(I)LPieceTexts$Piece;"⟩, 4) := ⟨⟨by decide +kernel, by decide +kernel⟩, List.mem_of_getElem? (i := 17) (by decide +kernel), List.mem_of_getElem? (i := 59) (by decide +kernel), List.mem_of_getElem? (i := 60) (by decide +kernel)⟩
theorem lw_p2 : lw_okq (⟨"PieceTexts", "charactersInAll", "()I"⟩, 4) := ⟨⟨by decide +kernel, by decide +kernel⟩, List.mem_of_getElem? (i := 17) (by decide +kernel), List.mem_of_getElem? (i := 70) (by decide +kernel), List.mem_of_getElem? (i := 71) (by decide +kernel)⟩
theorem lw_p3 : lw_okq (⟨"PieceTexts", "piecesInAll", "()I"⟩, 4) := ⟨⟨by decide +kernel, by decide +kernel⟩, List.mem_of_getElem? (i := 17) (by decide +kernel), List.mem_of_getElem? (i := 74) (by decide +kernel), List.mem_of_getElem? (i := 75) (by decide +kernel)⟩
theorem lw_p4 : lw_okq (⟨"PieceTexts", "allShallow", "()Z"⟩, 4) := ⟨⟨by decide +kernel, by decide +kernel⟩, List.mem_of_getElem? (i := 17) (by decide +kernel), List.mem_of_getElem? (i := 81) (by decide +kernel), List.mem_of_getElem? (i := 82) (by decide +kernel)⟩
theorem lw_p5 : lw_okq (⟨"java/lang/Throwable", "fillInStackTrace", "(I)Ljava/lang/Throwable;"⟩, 6) := ⟨⟨by decide +kernel, by decide +kernel⟩, List.mem_of_getElem? (i := 143) (by decide +kernel), List.mem_of_getElem? (i := 141) (by decide +kernel), List.mem_of_getElem? (i := 142) (by decide +kernel)⟩
theorem lw_p6 : lw_okq (⟨"PieceTexts", "append", "(B)V"⟩, 4) := ⟨⟨by decide +kernel, by decide +kernel⟩, List.mem_of_getElem? (i := 17) (by decide +kernel), List.mem_of_getElem? (i := 188) (by decide +kernel), List.mem_of_getElem? (i := 189) (by decide +kernel)⟩
theorem lw_p7 : lw_okq (⟨"PieceTexts", "demandEdge", "(II)V"⟩, 4) := ⟨⟨by decide +kernel, by decide +kernel⟩, List.mem_of_getElem? (i := 17) (by decide +kernel), List.mem_of_getElem? (i := 200) (by decide +kernel), List.mem_of_getElem? (i := 201) (by decide +kernel)⟩
theorem lw_p8 : lw_okq (⟨"PieceTexts", "demandText", "(I)V"⟩, 4) := ⟨⟨by decide +kernel, by decide +kernel⟩, List.mem_of_getElem? (i := 17) (by decide +kernel), List.mem_of_getElem? (i := 204) (by decide +kernel), List.mem_of_getElem? (i := 205) (by decide +kernel)⟩
theorem lw_p9 : lw_okq (⟨"PieceTexts", "demandRoom", "(II)V"⟩, 4) := ⟨⟨by decide +kernel, by decide +kernel⟩, List.mem_of_getElem? (i := 17) (by decide +kernel), List.mem_of_getElem? (i := 260) (by decide +kernel), List.mem_of_getElem? (i := 261) (by decide +kernel)⟩
theorem lw_p10 : lw_okq (⟨"PieceTexts$Trees", "part", "(LPieceTexts$Piece;I)LPieceTexts$Halves;"⟩, 1) := ⟨⟨by decide +kernel, by decide +kernel⟩, List.mem_of_getElem? (i := 27) (by decide +kernel), List.mem_of_getElem? (i := 266) (by decide +kernel), List.mem_of_getElem? (i := 267) (by decide +kernel)⟩
theorem lw_p11 : lw_okq (⟨"PieceTexts$Trees", "partInto", "(LPieceTexts$Halves;LPieceTexts$Piece;II)V"⟩, 1) := ⟨⟨by decide +kernel, by decide +kernel⟩, List.mem_of_getElem? (i := 27) (by decide +kernel), List.mem_of_getElem? (i := 285) (by decide +kernel), List.mem_of_getElem? (i := 286) (by decide +kernel)⟩
theorem lw_p12 : lw_okq (⟨"PieceTexts$Trees", "take", "(III)LPieceTexts$Piece;"⟩, 1) := ⟨⟨by decide +kernel, by decide +kernel⟩, List.mem_of_getElem? (i := 27) (by decide +kernel), List.mem_of_getElem? (i := 309) (by decide +kernel), List.mem_of_getElem? (i := 310) (by decide +kernel)⟩
theorem lw_p13 : lw_okq (⟨"PieceTexts$Trees", "meet", "(LPieceTexts$Piece;LPieceTexts$Piece;)LPieceTexts$Piece;"⟩, 1) := ⟨⟨by decide +kernel, by decide +kernel⟩, List.mem_of_getElem? (i := 27) (by decide +kernel), List.mem_of_getElem? (i := 364) (by decide +kernel), List.mem_of_getElem? (i := 365) (by decide +kernel)⟩
theorem lw_p14 : lw_okq (⟨"PieceTexts$Trees", "giveBack", "(LPieceTexts$Piece;)V"⟩, 1) := ⟨⟨by decide +kernel, by decide +kernel⟩, List.mem_of_getElem? (i := 27) (by decide +kernel), List.mem_of_getElem? (i := 377) (by decide +kernel), List.mem_of_getElem? (i := 378) (by decide +kernel)⟩
theorem lw_p15 : lw_okq (⟨"PieceTexts", "become", "(ILPieceTexts$Piece;)I"⟩, 4) := ⟨⟨by decide +kernel, by decide +kernel⟩, List.mem_of_getElem? (i := 17) (by decide +kernel), List.mem_of_getElem? (i := 384) (by decide +kernel), List.mem_of_getElem? (i := 385) (by decide +kernel)⟩
def lw_privs_1 : List (MethodName × Nat) := [(⟨"PieceTexts", "isText", "(I)Z"⟩, 4), (⟨"PieceTexts", "rootOf", "(I)LPieceTexts$Piece;"⟩, 4), (⟨"PieceTexts", "charactersInAll", "()I"⟩, 4), (⟨"PieceTexts", "piecesInAll", "()I"⟩, 4), (⟨"PieceTexts", "allShallow", "()Z"⟩, 4), (⟨"java/lang/Throwable", "fillInStackTrace", "(I)Ljava/lang/Throwable;"⟩, 6), (⟨"PieceTexts", "append", "(B)V"⟩, 4), (⟨"PieceTexts", "demandEdge", "(II)V"⟩, 4), (⟨"PieceTexts", "demandText", "(I)V"⟩, 4), (⟨"PieceTexts", "demandRoom", "(II)V"⟩, 4), (⟨"PieceTexts$Trees", "part", "(LPieceTexts$Piece;I)LPieceTexts$Halves;"⟩, 1), (⟨"PieceTexts$Trees", "partInto", "(LPieceTexts$Halves;LPieceTexts$Piece;II)V"⟩, 1), (⟨"PieceTexts$Trees", "take", "(III)LPieceTexts$Piece;"⟩, 1), (⟨"PieceTexts$Trees", "meet", "(LPieceTexts$Piece;LPieceTexts$Piece;)LPieceTexts$Piece;"⟩, 1), (⟨"PieceTexts$Trees", "giveBack", "(LPieceTexts$Piece;)V"⟩, 1), (⟨"PieceTexts", "become", "(ILPieceTexts$Piece;)I"⟩, 4)]
theorem lw_r1 : ∀ q ∈ lw_privs_1, lw_okq q := List.forall_mem_cons.mpr ⟨lw_p0, List.forall_mem_cons.mpr ⟨lw_p1, List.forall_mem_cons.mpr ⟨lw_p2, List.forall_mem_cons.mpr ⟨lw_p3, List.forall_mem_cons.mpr ⟨lw_p4, List.forall_mem_cons.mpr ⟨lw_p5, List.forall_mem_cons.mpr ⟨lw_p6, List.forall_mem_cons.mpr ⟨lw_p7, List.forall_mem_cons.mpr ⟨lw_p8, List.forall_mem_cons.mpr ⟨lw_p9, List.forall_mem_cons.mpr ⟨lw_p10, List.forall_mem_cons.mpr ⟨lw_p11, List.forall_mem_cons.mpr ⟨lw_p12, List.forall_mem_cons.mpr ⟨lw_p13, List.forall_mem_cons.mpr ⟨lw_p14, List.forall_mem_cons.mpr ⟨lw_p15, fun _ h => absurd h List.not_mem_nil⟩⟩⟩⟩⟩⟩⟩⟩⟩⟩⟩⟩⟩⟩⟩⟩
theorem lw_p16 : lw_okq (⟨"PieceTexts", "demandRange", "(III)V"⟩, 4) := ⟨⟨by decide +kernel, by decide +kernel⟩, List.mem_of_getElem? (i := 17) (by decide +kernel), List.mem_of_getElem? (i := 395) (by decide +kernel), List.mem_of_getElem? (i := 396) (by decide +kernel)⟩
theorem lw_p17 : lw_okq (⟨"PieceTexts", "demandFree", "(II)V"⟩, 4) := ⟨⟨by decide +kernel, by decide +kernel⟩, List.mem_of_getElem? (i := 17) (by decide +kernel), List.mem_of_getElem? (i := 400) (by decide +kernel), List.mem_of_getElem? (i := 401) (by decide +kernel)⟩
theorem lw_p18 : lw_okq (⟨"PieceTexts$Trees", "twin", "(LPieceTexts$Piece;III)LPieceTexts$Piece;"⟩, 1) := ⟨⟨by decide +kernel, by decide +kernel⟩, List.mem_of_getElem? (i := 27) (by decide +kernel), List.mem_of_getElem? (i := 429) (by decide +kernel), List.mem_of_getElem? (i := 430) (by decide +kernel)⟩
theorem lw_p19 : lw_okq (⟨"PieceTexts$Trees", "retag", "(LPieceTexts$Piece;III)LPieceTexts$Piece;"⟩, 1) := ⟨⟨by decide +kernel, by decide +kernel⟩, List.mem_of_getElem? (i := 27) (by decide +kernel), List.mem_of_getElem? (i := 454) (by decide +kernel), List.mem_of_getElem? (i := 455) (by decide +kernel)⟩
theorem lw_p20 : lw_okq (⟨"PieceTexts$Trees", "giveBackAll", "(LPieceTexts$Piece;I)V"⟩, 1) := ⟨⟨by decide +kernel, by decide +kernel⟩, List.mem_of_getElem? (i := 27) (by decide +kernel), List.mem_of_getElem? (i := 468) (by decide +kernel), List.mem_of_getElem? (i := 469) (by decide +kernel)⟩
theorem lw_p21 : lw_okq (⟨"PieceTexts", "byteAt", "(I)I"⟩, 4) := ⟨⟨by decide +kernel, by decide +kernel⟩, List.mem_of_getElem? (i := 17) (by decide +kernel), List.mem_of_getElem? (i := 481) (by decide +kernel), List.mem_of_getElem? (i := 482) (by decide +kernel)⟩
theorem lw_p22 : lw_okq (⟨"PieceTexts$Reader", "nextSource", "()I"⟩, 4) := ⟨⟨by decide +kernel, by decide +kernel⟩, List.mem_of_getElem? (i := 506) (by decide +kernel), List.mem_of_getElem? (i := 528) (by decide +kernel), List.mem_of_getElem? (i := 529) (by decide +kernel)⟩
theorem lw_p23 : lw_okq (⟨"PieceTextsModel", "raise", "(I)I"⟩, 8) := ⟨⟨by decide +kernel, by decide +kernel⟩, List.mem_of_getElem? (i := 540) (by decide +kernel), List.mem_of_getElem? (i := 581) (by decide +kernel), List.mem_of_getElem? (i := 582) (by decide +kernel)⟩
theorem lw_p24 : lw_okq (⟨"PieceTextsModel", "isPlace", "(II)Z"⟩, 8) := ⟨⟨by decide +kernel, by decide +kernel⟩, List.mem_of_getElem? (i := 540) (by decide +kernel), List.mem_of_getElem? (i := 589) (by decide +kernel), List.mem_of_getElem? (i := 590) (by decide +kernel)⟩
theorem lw_p25 : lw_okq (⟨"PieceTextsModel", "size", "(I)I"⟩, 8) := ⟨⟨by decide +kernel, by decide +kernel⟩, List.mem_of_getElem? (i := 540) (by decide +kernel), List.mem_of_getElem? (i := 596) (by decide +kernel), List.mem_of_getElem? (i := 597) (by decide +kernel)⟩
theorem lw_p26 : lw_okq (⟨"PieceTextsModel", "insert", "(III)V"⟩, 8) := ⟨⟨by decide +kernel, by decide +kernel⟩, List.mem_of_getElem? (i := 540) (by decide +kernel), List.mem_of_getElem? (i := 600) (by decide +kernel), List.mem_of_getElem? (i := 601) (by decide +kernel)⟩
theorem lw_p27 : lw_okq (⟨"PieceTextsModel", "allPieces", "()I"⟩, 8) := ⟨⟨by decide +kernel, by decide +kernel⟩, List.mem_of_getElem? (i := 540) (by decide +kernel), List.mem_of_getElem? (i := 604) (by decide +kernel), List.mem_of_getElem? (i := 605) (by decide +kernel)⟩
theorem lw_p28 : lw_okq (⟨"PieceTextsModel", "pieces", "(I)I"⟩, 8) := ⟨⟨by decide +kernel, by decide +kernel⟩, List.mem_of_getElem? (i := 540) (by decide +kernel), List.mem_of_getElem? (i := 608) (by decide +kernel), List.mem_of_getElem? (i := 609) (by decide +kernel)⟩
theorem lw_p29 : lw_okq (⟨"PieceTextsModel", "parts", "(II)Z"⟩, 8) := ⟨⟨by decide +kernel, by decide +kernel⟩, List.mem_of_getElem? (i := 540) (by decide +kernel), List.mem_of_getElem? (i := 612) (by decide +kernel), List.mem_of_getElem? (i := 613) (by decide +kernel)⟩
theorem lw_p30 : lw_okq (⟨"PieceTextsModel", "remove", "(III)V"⟩, 8) := ⟨⟨by decide +kernel, by decide +kernel⟩, List.mem_of_getElem? (i := 540) (by decide +kernel), List.mem_of_getElem? (i := 616) (by decide +kernel), List.mem_of_getElem? (i := 617) (by decide +kernel)⟩
theorem lw_p31 : lw_okq (⟨"PieceTextsModel", "isRange", "(III)Z"⟩, 8) := ⟨⟨by decide +kernel, by decide +kernel⟩, List.mem_of_getElem? (i := 540) (by decide +kernel), List.mem_of_getElem? (i := 624) (by decide +kernel), List.mem_of_getElem? (i := 625) (by decide +kernel)⟩
def lw_privs_2 : List (MethodName × Nat) := [(⟨"PieceTexts", "demandRange", "(III)V"⟩, 4), (⟨"PieceTexts", "demandFree", "(II)V"⟩, 4), (⟨"PieceTexts$Trees", "twin", "(LPieceTexts$Piece;III)LPieceTexts$Piece;"⟩, 1), (⟨"PieceTexts$Trees", "retag", "(LPieceTexts$Piece;III)LPieceTexts$Piece;"⟩, 1), (⟨"PieceTexts$Trees", "giveBackAll", "(LPieceTexts$Piece;I)V"⟩, 1), (⟨"PieceTexts", "byteAt", "(I)I"⟩, 4), (⟨"PieceTexts$Reader", "nextSource", "()I"⟩, 4), (⟨"PieceTextsModel", "raise", "(I)I"⟩, 8), (⟨"PieceTextsModel", "isPlace", "(II)Z"⟩, 8), (⟨"PieceTextsModel", "size", "(I)I"⟩, 8), (⟨"PieceTextsModel", "insert", "(III)V"⟩, 8), (⟨"PieceTextsModel", "allPieces", "()I"⟩, 8), (⟨"PieceTextsModel", "pieces", "(I)I"⟩, 8), (⟨"PieceTextsModel", "parts", "(II)Z"⟩, 8), (⟨"PieceTextsModel", "remove", "(III)V"⟩, 8), (⟨"PieceTextsModel", "isRange", "(III)Z"⟩, 8)]
theorem lw_r2 : ∀ q ∈ lw_privs_2, lw_okq q := List.forall_mem_cons.mpr ⟨lw_p16, List.forall_mem_cons.mpr ⟨lw_p17, List.forall_mem_cons.mpr ⟨lw_p18, List.forall_mem_cons.mpr ⟨lw_p19, List.forall_mem_cons.mpr ⟨lw_p20, List.forall_mem_cons.mpr ⟨lw_p21, List.forall_mem_cons.mpr ⟨lw_p22, List.forall_mem_cons.mpr ⟨lw_p23, List.forall_mem_cons.mpr ⟨lw_p24, List.forall_mem_cons.mpr ⟨lw_p25, List.forall_mem_cons.mpr ⟨lw_p26, List.forall_mem_cons.mpr ⟨lw_p27, List.forall_mem_cons.mpr ⟨lw_p28, List.forall_mem_cons.mpr ⟨lw_p29, List.forall_mem_cons.mpr ⟨lw_p30, List.forall_mem_cons.mpr ⟨lw_p31, fun _ h => absurd h List.not_mem_nil⟩⟩⟩⟩⟩⟩⟩⟩⟩⟩⟩⟩⟩⟩⟩⟩
theorem lw_p32 : lw_okq (⟨"PieceTextsModel", "keep", "(III)V"⟩, 8) := ⟨⟨by decide +kernel, by decide +kernel⟩, List.mem_of_getElem? (i := 540) (by decide +kernel), List.mem_of_getElem? (i := 628) (by decide +kernel), List.mem_of_getElem? (i := 629) (by decide +kernel)⟩
def lw_privs_3 : List (MethodName × Nat) := [(⟨"PieceTextsModel", "keep", "(III)V"⟩, 8)]
theorem lw_r3 : ∀ q ∈ lw_privs_3, lw_okq q := List.forall_mem_cons.mpr ⟨lw_p32, fun _ h => absurd h List.not_mem_nil⟩
def lw_privs : List (MethodName × Nat) := lw_privs_1 ++ (lw_privs_2 ++ (lw_privs_3))
def lw_tbl : List Cond := k2_sels lw_privs ++ tables_1
theorem lw_privs_ok : ∀ q ∈ lw_privs, lw_okq q := by
  show ∀ q ∈ lw_privs_1 ++ (lw_privs_2 ++ (lw_privs_3)), lw_okq q
  exact List.forall_mem_append.mpr ⟨lw_r1, List.forall_mem_append.mpr ⟨lw_r2, lw_r3⟩⟩
end
section
def TX_0 : u_T := fun k => match k with
  | 0 => ("PieceTexts", "buffer", "[B", true)
  | 1 => ("PieceTexts", "filled", "I", false)
  | 2 => ("PieceTexts", "roots", "[LPieceTexts$Piece;", true)
  | _ => ("PieceTexts", "trees", "LPieceTexts$Trees;", true)
def tyX_0 : Nat → FieldType := fun k => match k with
  | 0 => .array (.byte)
  | 1 => .int
  | 2 => .array (.object "PieceTexts$Piece")
  | _ => .object "PieceTexts$Trees"
def TX_1 : u_T := fun k => match k with
  | 0 => ("PieceTexts$Halves", "left", "LPieceTexts$Piece;", false)
  | _ => ("PieceTexts$Halves", "right", "LPieceTexts$Piece;", false)
def tyX_1 : Nat → FieldType := fun k => match k with
  | 0 => .object "PieceTexts$Piece"
  | _ => .object "PieceTexts$Piece"
def TX_2 : u_T := fun k => match k with
  | 0 => ("PieceTexts$Piece", "source", "I", false)
  | 1 => ("PieceTexts$Piece", "size", "I", false)
  | 2 => ("PieceTexts$Piece", "tag", "I", false)
  | 3 => ("PieceTexts$Piece", "left", "LPieceTexts$Piece;", false)
  | 4 => ("PieceTexts$Piece", "right", "LPieceTexts$Piece;", false)
  | 5 => ("PieceTexts$Piece", "height", "I", false)
  | 6 => ("PieceTexts$Piece", "pieces", "I", false)
  | _ => ("PieceTexts$Piece", "characters", "I", false)
def tyX_2 : Nat → FieldType := fun k => match k with
  | 0 => .int
  | 1 => .int
  | 2 => .int
  | 3 => .object "PieceTexts$Piece"
  | 4 => .object "PieceTexts$Piece"
  | 5 => .int
  | 6 => .int
  | _ => .int
def TX_3 : u_T := fun k => match k with
  | 0 => ("PieceTexts$Reader", "root", "LPieceTexts$Piece;", true)
  | 1 => ("PieceTexts$Reader", "order", "I", false)
  | 2 => ("PieceTexts$Reader", "current", "LPieceTexts$Piece;", false)
  | _ => ("PieceTexts$Reader", "offset", "I", false)
def tyX_3 : Nat → FieldType := fun k => match k with
  | 0 => .object "PieceTexts$Piece"
  | 1 => .int
  | 2 => .object "PieceTexts$Piece"
  | _ => .int
def TX_4 : u_T := fun k => match k with
  | _ => ("PieceTexts$Trees", "spare", "LPieceTexts$Piece;", false)
def tyX_4 : Nat → FieldType := fun k => match k with
  | _ => .object "PieceTexts$Piece"
def TX_5 : u_T := fun k => match k with
  | 0 => ("PieceTextsModel", "code", "I", false)
  | 1 => ("PieceTextsModel", "bytes", "I", false)
  | 2 => ("PieceTextsModel", "buffer", "[I", true)
  | 3 => ("PieceTextsModel", "begin", "[I", true)
  | 4 => ("PieceTextsModel", "source", "[I", true)
  | 5 => ("PieceTextsModel", "mark", "[I", true)
  | 6 => ("PieceTextsModel", "keptSource", "[I", true)
  | _ => ("PieceTextsModel", "keptMark", "[I", true)
def tyX_5 : Nat → FieldType := fun k => match k with
  | 0 => .int
  | 1 => .int
  | 2 => .array (.int)
  | 3 => .array (.int)
  | 4 => .array (.int)
  | 5 => .array (.int)
  | 6 => .array (.int)
  | _ => .array (.int)
abbrev xCl : List vw_C := [("PieceTexts", TX_0, 4), ("PieceTexts$Halves", TX_1, 2), ("PieceTexts$Piece", TX_2, 8), ("PieceTexts$Reader", TX_3, 4), ("PieceTexts$Trees", TX_4, 1), ("PieceTextsModel", TX_5, 8)]
def xAT : List FieldType := [.byte, .long, .object "PieceTexts$Piece", .int]
def xE : Nat → String
  | 0 => "java/lang/IllegalArgumentException"
  | 1 => "java/lang/IllegalStateException"
  | _ => "java/lang/IndexOutOfBoundsException"
section VXE
variable {p : Program} {l : Launch} {e : Env} {R : Room} {s : State} {m : MethodId} {args : Array Value} {below : List Frame} {meth : Method} {c : Code} {H : Heap} {locs : List Loc} {cells slots : Nat} {Q : State → Prop}
theorem vx_frame {U : State} {k n : Nat} (h : s.sameButNew ({ U with vm := s.vm } : State) locs k n) : s.heap.size ≤ U.heap.size ∧ ∀ q : Nat, q < s.heap.size → (∀ z ∈ locs, z.base ≠ q) → U.heap[q]? = s.heap[q]? := by
  obtain ⟨-, h2, -, -, -, h6⟩ := h
  refine ⟨h2, fun q hq hz => ?_⟩
  obtain ⟨c9, e1, e2, e3, e4⟩ := h6 q _ (Array.getElem?_eq_getElem hq)
  have hs : c9.slots = (s.heap[q]).slots := Array.ext_getElem? fun i => e4 i fun hm => hz _ hm rfl
  have h9 : c9 = s.heap[q] := by
    rw [hs] at e2
    exact e2
  have e5 : U.heap[q]? = some c9 := e1
  rw [e5, h9, Array.getElem?_eq_getElem hq]
/-- the words of a throw but the four that speak of the heap -/
def vx_no (w : Cond) : Bool := decide (w ≠ .isRef (.static Bundle.tN "UNASSIGNED_STACK" Bundle.steD)) && decide (w ≠ .isRef (.static Bundle.tN "SUPPRESSED_SENTINEL" Bundle.listD)) && decide (w ≠ .laysStatic Bundle.tN "UNASSIGNED_STACK" Bundle.steD) && decide (w ≠ .laysStatic Bundle.tN "SUPPRESSED_SENTINEL" Bundle.listD)
def vx_at0 (own : String) (ic : Nat) (X : String) (names : List String) : List Cond := (Bundle.ownAtoms0 own ic X names).filter vx_no
def vx_atS (own : String) (ic : Nat) (X : String) (names : List String) : List Cond := (Bundle.ownAtoms own ic X names).filter vx_no
/-- a word that the tables alone decide, or a good one -/
def vx_ot (w : Cond) : Bool := w.onTables || goodWord w
theorem vx_ot_at {args a' : Array Value} {s U : State} {w : Cond} (hW : s.WarmedH U.vm) (hvm : s.vm = U.vm) (hg : vx_ot w = true) (h : w.before args s = true) : w.before a' U = true := by
  simp only [vx_ot, Bool.or_eq_true] at hg
  rcases hg with hg | hg
  · exact va_tabs hg hvm h
  · exact word_at hW (good_of_word hg) h
/-- a list's words: the good ones out of the method's own list, the others by premises of their own -/
theorem vx_hat {args : Array Value} {s : State} {L B : List Cond} (h1 : ∀ w ∈ L.filter goodWord, w.before args s = true) (h2 : ∀ w ∈ L.filter (fun w => !goodWord w), w ∈ B) (h3 : ∀ w ∈ B, w.before args s = true) : ∀ w ∈ L, w.before args s = true := by
  intro w hw
  by_cases g : goodWord w = true
  · exact h1 w (List.mem_filter.mpr ⟨hw, g⟩)
  · refine h3 w (h2 w (List.mem_filter.mpr ⟨hw, ?_⟩))
    show (!goodWord w) = true
    cases hgw : goodWord w
    · rfl
    · exact absurd hgw g
theorem vx_c {args : Array Value} {s : State} {w : Cond} {B : List Cond} (h : w.before args s = true) (t : ∀ w ∈ B, w.before args s = true) : ∀ w' ∈ w :: B, w'.before args s = true := fun w' h' => (List.mem_cons.mp h').elim (fun e => by rw [e]; exact h) (t w')
theorem vx_n {args : Array Value} {s : State} : ∀ w ∈ ([] : List Cond), w.before args s = true := fun _ h => nomatch h
theorem vx_own {args : Array Value} {s : State} {L : List Cond} (h1 : ∀ w ∈ L.filter vx_no, w.before args s = true)
    (hU : (Cond.isRef (.static Bundle.tN "UNASSIGNED_STACK" Bundle.steD)).before args s = true) (hN : (Cond.isRef (.static Bundle.tN "SUPPRESSED_SENTINEL" Bundle.listD)).before args s = true)
    (lU : (Cond.laysStatic Bundle.tN "UNASSIGNED_STACK" Bundle.steD).before args s = true) (lN : (Cond.laysStatic Bundle.tN "SUPPRESSED_SENTINEL" Bundle.listD).before args s = true) : ∀ w ∈ L, w.before args s = true := by
  intro w hw
  by_cases e1 : w = .isRef (.static Bundle.tN "UNASSIGNED_STACK" Bundle.steD)
  · rw [e1]; exact hU
  · by_cases e2 : w = .isRef (.static Bundle.tN "SUPPRESSED_SENTINEL" Bundle.listD)
    · rw [e2]; exact hN
    · by_cases e3 : w = .laysStatic Bundle.tN "UNASSIGNED_STACK" Bundle.steD
      · rw [e3]; exact lU
      · by_cases e4 : w = .laysStatic Bundle.tN "SUPPRESSED_SENTINEL" Bundle.listD
        · rw [e4]; exact lN
        · exact h1 w (List.mem_filter.mpr ⟨hw, by unfold vx_no; rw [decide_eq_true e1, decide_eq_true e2, decide_eq_true e3, decide_eq_true e4]; rfl⟩)
/-- where a static field lies, its class's statics cell in H -/
def vx_L (C n d : String) (A : Nat → Prop) (U : State) (H : Heap) : Prop := ∃ (c : ClassId) (k : Class) (i : Nat) (f : Field) (a : Nat) (cell : Cell), U.vm.findClass C = some c ∧ U.fieldFound? C n d = some (c, k, i, f) ∧ f.isStatic = true ∧ k.statics = some a ∧ H[a]? = some cell ∧ cell.vm.isStatics = true ∧ cell.cls = c ∧ f.slot < cell.slots.size ∧ k.staticTypes[f.slot]? = some f.type ∧ ¬ A a
theorem vx_L.moved {C n d : String} {A : Nat → Prop} {u U : State} {H : Heap} (hvm : u.vm.Alike U.vm) (h : vx_L C n d A u H) : vx_L C n d A U H := by
  obtain ⟨c, k, i, f, a, cell, h1, h2, h3, h4, h5, h6, h7, h8, h9, h10⟩ := h
  obtain ⟨k', hi', he⟩ := State.fieldFound?_setVm hvm h2
  exact ⟨c, k', i, f, a, cell, by rw [hvm.findClass]; exact h1, hi', h3, by rw [he]; exact h4, h5, h6, h7, h8, by rw [he]; exact h9, h10⟩
theorem vx_L.kept {C n d : String} {A : Nat → Prop} {U : State} {H H1 : Heap} (h : vx_L C n d A U H) (hq : ∀ a : Nat, a < H.size → ¬ A a → H1[a]? = H[a]?) : vx_L C n d A U H1 := by
  obtain ⟨c, k, i, f, a, cell, h1, h2, h3, h4, h5, h6, h7, h8, h9, h10⟩ := h
  exact ⟨c, k, i, f, a, cell, h1, h2, h3, h4, by rw [hq a (Array.getElem?_eq_some_iff.mp h5).1 h10]; exact h5, h6, h7, h8, h9, h10⟩
theorem vx_L.narrow {C n d : String} {A B : Nat → Prop} {U : State} {H : Heap} (h : vx_L C n d A U H) (hAB : ∀ q, B q → A q) : vx_L C n d B U H := by
  obtain ⟨c, k, i, f, a, cell, h1, h2, h3, h4, h5, h6, h7, h8, h9, h10⟩ := h
  exact ⟨c, k, i, f, a, cell, h1, h2, h3, h4, h5, h6, h7, h8, h9, fun z => h10 (hAB _ z)⟩
theorem vx_L.word {C n d : String} {A : Nat → Prop} {s : State} {args : Array Value} (h : vx_L C n d A s s.heap) : (Cond.laysStatic C n d).before args s = true := by
  obtain ⟨c, k, i, f, a, cell, h1, h2, h3, h4, h5, h6, h7, h8, h9, -⟩ := h
  show (Cond.laysStatic C n d).holds args s none s [] = true
  exact Cond.laysStatic_of h1 h2 h3 h4 h5 h6 h7 h8 h9
/-- .. and what it holds: null or some reference -/
def vx_Zq (C n d : String) (A : Nat → Prop) (U : State) (H : Heap) : Prop := va_Zq C n d A U H ∧ vx_L C n d A U H
theorem vx_Zq.moved {C n d : String} {A : Nat → Prop} {u U : State} {H : Heap} (hvm : u.vm.Alike U.vm) (h : vx_Zq C n d A u H) : vx_Zq C n d A U H := ⟨va_Zq.moved hvm h.1, vx_L.moved hvm h.2⟩
theorem vx_Zq.kept {C n d : String} {A : Nat → Prop} {U : State} {H H1 : Heap} (h : vx_Zq C n d A U H) (hq : ∀ a : Nat, a < H.size → ¬ A a → H1[a]? = H[a]?) : vx_Zq C n d A U H1 := ⟨va_Zq.kept h.1 hq, vx_L.kept h.2 hq⟩
theorem vx_Zq.narrow {C n d : String} {A B : Nat → Prop} {U : State} {H : Heap} (h : vx_Zq C n d A U H) (hAB : ∀ q, B q → A q) : vx_Zq C n d B U H := ⟨va_Zq.narrow h.1 hAB, vx_L.narrow h.2 hAB⟩
theorem vx_Zqof {args : Array Value} {s : State} {C n d : String} {A : Nat → Prop} (hl : (Cond.laysStatic C n d).before args s = true) (hini : (Cond.initialized C).before args s = true) (h : (Cond.isRef (.static C n d)).before args s = true) (hA : ∀ a : Nat, a < s.heap.size → ¬ A a) : vx_Zq C n d A s s.heap := by
  refine ⟨va_Zqof hl hini h hA, ?_⟩
  obtain ⟨c, k, i, f, a, cell, h1, h2, h3, h4, h5, h6, h7, h8, h9⟩ := Cond.laysStatic_spec hl
  exact ⟨c, k, i, f, a, cell, h1, h2, h3, h4, h5, h6, h7, h8, h9, hA a (Array.getElem?_eq_some_iff.mp h5).1⟩
theorem vx_isRef {C n d : String} {v : Value} {A : Nat → Prop} {s : State} {args : Array Value} (h : va_Z C n d v A s s.heap) (hv : v.isRef = true) : (Cond.isRef (.static C n d)).before args s = true := by
  obtain ⟨cf, kf, fi, f, a, cell, h1, h2, h3, h4, h5, h6, h7, -⟩ := h
  have he : (Term.static C n d).eval args s none [] s = some v := by
    simp [Term.eval, State.fieldNamed?, h1, h2, h4, h5, h6, h7]
  simp only [Cond.before, Cond.holds, Cond.value, he]
  cases v <;> simp_all [Value.isRef]
theorem vx_isRefq {C n d : String} {A : Nat → Prop} {s : State} {args : Array Value} (h : va_Zq C n d A s s.heap) : (Cond.isRef (.static C n d)).before args s = true := by
  rcases h with h | ⟨t, h⟩
  · exact vx_isRef h rfl
  · exact vx_isRef h rfl
/-- the same frame, seen from here: as if the method were called anew in this heap -/
theorem vx_rebase {T : State} (X : Stand p l e R s m args below meth c T locs cells slots) {R' : Room} (hf : R'.frames ≤ R.frames) (hl : R'.locals ≤ R.locals) (hc : cells + R'.cells ≤ R.cells) (hs : slots + R'.slots ≤ R.slots) :
    Stand p l e R' ((T.setVm s.vm).setFrames (.invoking m args :: below)) m args below meth c T [] 0 0 := by
  have htop : (T.setVm s.vm).topJava?.isSome := X.here.top
  have hF : ((T.setVm s.vm).setFrames (.invoking m args :: below)).frames = .invoking m args :: below := State.frames_setFrames _ (State.cur_lt_of_top htop)
  obtain ⟨g₀, hg0⟩ := Option.isSome_iff_exists.mp htop
  obtain ⟨r, hr⟩ := State.topJava?_eq_some.mp hg0
  have hl9 : e.platform.stackLimits (T.setVm s.vm).me = e.platform.stackLimits s.me := X.limits
  have hb9 : (T.setVm s.vm).me.stackBytes = s.me.stackBytes := X.bytes
  refine ⟨X.admits, X.cas, X.clock, hF, ?_, X.hears, X.method, X.code, X.here, X.tail, X.warmed, ?_, ?_, ?_⟩
  · have h := X.room
    have hU : ((T.setVm s.vm).setFrames (.invoking m args :: below)).localsInUse = s.localsInUse := by
      rw [State.localsInUse_invoking hF (meth := meth) (c := c) X.method X.code, State.localsInUse_invoking X.frames X.method X.code]
    simp only [State.hasRoom, Bool.and_eq_true, decide_eq_true_eq] at h ⊢
    obtain ⟨⟨⟨⟨h1, h2, h3, h4, h5, h6⟩, h7⟩, h8⟩, h9⟩ := h
    rw [X.frames, List.length_cons] at h2 h3
    have q1 := X.heapSize
    have q2 := X.used
    simp only [hF, hU, List.length_cons, State.stackLimits_setFrames, State.stackBytes_setFrames, hl9, hb9]
    refine ⟨⟨⟨⟨by omega, by omega, by omega, by omega, by omega, h6⟩, ?_⟩, ?_⟩, X.book⟩
    · show T.heap.size + R'.cells ≤ e.platform.maxCells
      omega
    · show T.slotsUsed + R'.slots ≤ e.platform.maxSlots
      omega
  · rw [State.stackLimits_setFrames]; rfl
  · rw [State.stackBytes_setFrames]; rfl
  · refine ⟨?_, Nat.le_refl _, Nat.le_refl _, ?_, ?_, fun a c9 h9 => ⟨c9, h9, rfl, rfl, fun _ _ => rfl⟩⟩
    · obtain ⟨t, ht, -⟩ := State.frames_cons hr
      show T.setVm s.vm = { ((T.setVm s.vm).setFrames (.invoking m args :: below)).setFrames (T.setVm s.vm).frames with heap := T.heap, slotsUsed := T.slotsUsed }
      rw [State.setFrames_setFrames, State.setFrames_self ht]
      rfl
    · show T.slotsUsed = T.slotsUsed + ((T.heap.toList.drop T.heap.size).map (·.slots.size)).sum
      rw [List.drop_eq_nil_of_le (Nat.le_of_eq Array.length_toList)]
      rfl
    · show ((T.heap.toList.drop T.heap.size).map (·.slots.size)).sum ≤ 0
      rw [List.drop_eq_nil_of_le (Nat.le_of_eq Array.length_toList)]
      exact Nat.le_refl _
end VXE
end
section
/-! THE STATE OF A RUN: the cells that are known, the heap's size, the slots made so far, the most cells, the most slots. An object is its class's number and its fields, an array its type's number, its length and what it holds. -/
abbrev xO : Type := (Nat × vp_A) ⊕ (Nat × List Value)
abbrev xS : Type := (Nat → Option xO) × Nat × Nat × Nat × Nat
abbrev xD : Type := va_G × (Nat → ClassId) × Nat × Nat × (Nat → Int32)
/-- a method: its name, its bytes, its locals, its answer's type, its handlers -/
abbrev xM : Type := MethodName × ByteArray × Nat × Option FieldType × List (Nat × Nat × Nat × Nat)
/-- a value: an int, a long, a reference -/
abbrev xV : Type := Int32 ⊕ Int64 ⊕ Option Nat
def xval : xV → Value
  | .inl x => .int x
  | .inr (.inl x) => .long x
  | .inr (.inr x) => va_rf x
def xtwo : xV → Bool
  | .inr (.inl _) => true
  | _ => false
theorem xval_cat (v : xV) : ((xval v).category == 2) = xtwo v := by
  match v with
  | .inl x => rfl
  | .inr (.inl x) => rfl
  | .inr (.inr none) => rfl
  | .inr (.inr (some a)) => rfl
def xlv (ls : List (Nat × xV)) : List (Nat × Value) := ls.map fun q => (q.1, xval q.2)
theorem xlv_at {ls : List (Nat × xV)} {j i : Nat} {v : xV} (h : ls[j]? = some (i, v)) : (xlv ls)[j]? = some (i, xval v) := by
  rw [xlv, List.getElem?_map, h]
  rfl
def xst1 (ls : List (Nat × xV)) (i : Nat) (v : xV) : List (Nat × xV) := (i, v) :: ls.filter (fun q => !(q.1 == i) && !(q.1 + 1 == i && xtwo q.2))
def xst2 (ls : List (Nat × xV)) (i : Nat) (v : xV) : List (Nat × xV) := (i, v) :: ls.filter (fun q => !(q.1 == i) && (!(q.1 == i + 1) && !(q.1 + 1 == i && xtwo q.2)))
theorem xlv_st1 (ls : List (Nat × xV)) (i : Nat) (v : xV) : (i, xval v) :: (xlv ls).filter (fun q => !(q.1 == i) && !(q.1 + 1 == i && q.2.category == 2)) = xlv (xst1 ls i v) := by
  simp only [xlv, xst1, List.map_cons, List.filter_map, Function.comp_def, xval_cat]
theorem xlv_st2 (ls : List (Nat × xV)) (i : Nat) (v : xV) : (i, xval v) :: (xlv ls).filter (fun q => !(q.1 == i) && (!(q.1 == i + 1) && !(q.1 + 1 == i && q.2.category == 2))) = xlv (xst2 ls i v) := by
  simp only [xlv, xst2, List.map_cons, List.filter_map, Function.comp_def, xval_cat]
def xargs : Nat → List xV → List (Nat × xV)
  | _, [] => []
  | i, v :: vs => (i, v) :: xargs (if xtwo v = true then i + 2 else i + 1) vs
theorem xlv_args (vs : List xV) : ∀ i : Nat, lv_args i (vs.map xval) = xlv (xargs i vs) := by
  induction vs with
  | nil => intro i; rfl
  | cons v vs ih =>
    intro i
    have h : ((xval v).category = 2) = (xtwo v = true) := by rw [← xval_cat]; simp
    simp only [List.map_cons, lv_args, xargs, xlv, List.map_cons]
    rw [ih]
    simp only [h, xlv]
/-- an end: what is returned, or the number of the class that is thrown; and the state -/
abbrev xRes : Type := (Option Value ⊕ Nat) × xS
def x_at (D : xD) (a : Nat) (o : xO) (H : Heap) : Prop := match o with
  | .inl z => H[a]? = some (vp_cell (D.2.1 z.1) z.2)
  | .inr z => ∃ q : vw_C, xCl[z.1]? = some q ∧ t_OB a (D.1.1 z.1) q.2.2 (D.1.2 z.1) H (vp_V z.2)
theorem x_at.kept {D : xD} {a : Nat} {o : xO} {H H1 : Heap} (h : x_at D a o H) (hq : H1[a]? = H[a]?) : x_at D a o H1 := by
  cases o with
  | inl z => exact hq.trans h
  | inr z =>
    obtain ⟨q, h1, h2⟩ := h
    exact ⟨q, h1, h2.kept hq⟩
theorem x_at.lt {D : xD} {a : Nat} {o : xO} {H : Heap} (h : x_at D a o H) : a < H.size := by
  cases o with
  | inl z => exact (Array.getElem?_eq_some_iff.mp h).1
  | inr z =>
    obtain ⟨q, h1, cell, h2, -⟩ := h
    exact (Array.getElem?_eq_some_iff.mp h2).1
def xR (D : xD) (S : xS) (H : Heap) : Prop := H.size = S.2.1 ∧ (∀ (a : Nat) (o : xO), S.1 a = some o → x_at D a o H) ∧ S.2.1 ≤ S.2.2.2.1 ∧ S.2.2.1 ≤ S.2.2.2.2
def xset (S : xS) (a : Nat) (o : xO) : xS := (va_up S.1 a (some o), S.2)
def xpush (S : xS) (o : xO) (n : Nat) : xS := (va_up S.1 S.2.1 (some o), S.2.1 + 1, S.2.2.1 + n, S.2.2.2)
def xskip (S : xS) (n : Nat) : xS := (S.1, S.2.1 + 1, S.2.2.1 + n, S.2.2.2)
theorem xR.set {D : xD} {S : xS} {a : Nat} {o : xO} {H H1 : Heap} (h : xR D S H) (he : x_at D a o H1) (hz : H1.size = H.size) (oq : ∀ q : Nat, q ≠ a → H1[q]? = H[q]?) : xR D (xset S a o) H1 := by
  refine ⟨hz.trans h.1, fun q x hq => ?_, h.2.2⟩
  by_cases e : q = a
  · subst e
    rw [show (xset S q o).1 q = some o from va_up_self ..] at hq
    cases hq
    exact he
  · rw [show (xset S a o).1 q = S.1 q from va_up_ne _ _ e] at hq
    exact (h.2.1 q x hq).kept (oq q e)
theorem xR.push {D : xD} {S : xS} {o : xO} {H H1 : Heap} (n : Nat) (hlim : S.2.1 + 1 ≤ S.2.2.2.1 ∧ S.2.2.1 + n ≤ S.2.2.2.2) (h : xR D S H) (he : x_at D H.size o H1) (hz : H1.size = H.size + 1) (oq : ∀ q : Nat, q < H.size → H1[q]? = H[q]?) : xR D (xpush S o n) H1 := by
  refine ⟨hz.trans (by rw [h.1]; rfl), fun q x hq => ?_, hlim⟩
  by_cases e : q = S.2.1
  · subst e
    rw [show (xpush S o n).1 S.2.1 = some o from va_up_self ..] at hq
    cases hq
    rw [← h.1]
    exact he
  · rw [show (xpush S o n).1 q = S.1 q from va_up_ne _ _ e] at hq
    exact (h.2.1 q x hq).kept (oq q (h.2.1 q x hq).lt)
theorem xR.skip {D : xD} {S : xS} {H H1 : Heap} (n : Nat) (hlim : S.2.1 + 1 ≤ S.2.2.2.1 ∧ S.2.2.1 + n ≤ S.2.2.2.2) (h : xR D S H) (hz : H1.size = H.size + 1) (oq : ∀ q : Nat, q < H.size → H1[q]? = H[q]?) : xR D (xskip S n) H1 :=
  ⟨hz.trans (by rw [h.1]; rfl), fun q x hq => (h.2.1 q x hq).kept (oq q (h.2.1 q x hq).lt), hlim⟩
def xK (D : xD) (U : State) : Prop := va_K D.1 xCl [] U ∧ (∀ (i : Nat) (ty : FieldType), xAT[i]? = some ty → ArrOfT U (D.2.1 i) ty ∧ va_RA U (D.2.1 i) ty) ∧ ∀ i j : Nat, i < 3 → j < 3 → i ≠ j → va_Nc (xE i) (xE j) U
theorem xK.moved {D : xD} {u U : State} (hvm : u.vm.Alike U.vm) (h : xK D u) : xK D U := ⟨va_K.moved hvm h.1, fun i ty hi => ⟨arrOfT_moved hvm (h.2.1 i ty hi).1, (h.2.1 i ty hi).2.moved hvm⟩, fun i j hi hj hij => (h.2.2 i j hi hj hij).moved hvm⟩
/-- the two statics of Throwable that a throw reads -/
def xZ (A : Nat → Prop) (U : State) (H : Heap) : Prop := vx_Zq Bundle.tN "UNASSIGNED_STACK" Bundle.steD A U H ∧ vx_Zq Bundle.tN "SUPPRESSED_SENTINEL" Bundle.listD A U H
theorem xZ.moved {A : Nat → Prop} {u U : State} {H : Heap} (hvm : u.vm.Alike U.vm) (h : xZ A u H) : xZ A U H := ⟨vx_Zq.moved hvm h.1, vx_Zq.moved hvm h.2⟩
theorem xZ.kept {A : Nat → Prop} {U : State} {H H1 : Heap} (h : xZ A U H) (hq : ∀ a : Nat, a < H.size → ¬ A a → H1[a]? = H[a]?) : xZ A U H1 := ⟨h.1.kept hq, h.2.kept hq⟩
theorem xZ.narrow {A B : Nat → Prop} {U : State} {H : Heap} (h : xZ A U H) (hAB : ∀ q, B q → A q) : xZ B U H := ⟨h.1.narrow hAB, h.2.narrow hAB⟩
/-- words that stay true while the tables warm -/
def xGood : Cond → Bool
  | .methodLinkNest .. => true
  | .fieldLinkNest .. => true
  | .castable .. => true
  | .stringRef .. => true
  | .declares .. => true
  | .arrayOver (.object _) => true
  | w => goodWord w
theorem x_word {args a' : Array Value} {s U : State} (hW : s.WarmedH U.vm) {w : Cond} (hg : xGood w = true) (h : w.before args s = true) : w.before a' U = true := by
  by_cases ho : ∃ C, w = .arrayOver (.object C)
  · obtain ⟨C, rfl⟩ := ho
    exact va_AO.use (va_AO.moved hW.alike (va_AO.of h))
  cases w
  case declares a => exact va_Nw.use rfl (va_Nw.warmD hW (va_Nw.of rfl h))
  case arrayOver t =>
    cases t
    case object C => exact absurd ⟨C, rfl⟩ ho
    all_goals exact word_at hW (good_of_word hg) h
  case methodLinkNest a i x h' => exact va_Nw.use rfl (va_Nw.warmM hW (va_Nw.of rfl h))
  case fieldLinkNest a i b n dd h' => exact va_Nw.use rfl (va_Nw.warmF hW (va_Nw.of rfl h))
  case castable a b => exact va_Nw.use rfl (va_Nw.warmC hW (va_Nw.of rfl h))
  case stringRef a b c =>
    have h1 := Cond.stringRef_warmed hW h
    simp only [Cond.before, Cond.holds, Cond.value, State.names, State.poolOf?, State.resolvedAt?, State.vm_setVm] at h1 ⊢
    exact h1
  all_goals exact word_at hW (good_of_word hg) h
def xT : List Cond := lw_tbl.filter xGood
theorem xT_in {w : Cond} (h : w ∈ lw_tbl) (hg : xGood w = true) : w ∈ xT := List.mem_filter.mpr ⟨h, hg⟩
theorem xT_good {w : Cond} (h : w ∈ xT) : xGood w = true := (List.mem_filter.mp h).2
def xL : Nat := 64
def xA (S : xS) : Nat → Prop := fun q => S.1 q ≠ none ∨ S.2.1 ≤ q
/-- what a walk stands on -/
def xC (M : xM) (D : xD) (d : Nat) (S0 : xS) (p : Program) (l : Launch) (R : Room) (s : State) (m : MethodId) (args : Array Value) (meth : Method) (c : Code) (A : Nat → Prop) : Prop :=
  (p.tables.exec = Jvm.exec ∧ c.code = M.2.1 ∧ c.maxLocals = M.2.2.1 ∧ meth.sig.returnType = M.2.2.2.1 ∧ s.vm.findClass M.1.cls = some m.cls ∧ meth.name = M.1.name ∧ (∀ w ∈ xT, w.before args s = true) ∧ meth.locks = false ∧ c.exceptionTable.toList.map (fun h => (h.startPc, h.endPc, h.handlerPc, h.catchType)) = M.2.2.2.2) ∧
  (xK D s ∧ s.heap.size = S0.2.1 ∧ (∀ q : Nat, s.heap.size ≤ q → A q) ∧ d ≤ R.frames ∧ xL * d ≤ R.locals ∧ S0.2.2.2.1 ≤ S0.2.1 + R.cells ∧ S0.2.2.2.2 ≤ S0.2.2.1 + R.slots ∧ (M.1.name = "law" → va_X D.2.2.1 D.2.2.2.1 D.2.2.2.2 s s.heap ∧ D.2.2.1 < s.heap.size ∧ ¬ A D.2.2.1) ∧ l.stackTraces = false ∧ xZ A s s.heap)
def xX (M : xM) (D : xD) (d : Nat) (S0 : xS) (ls : List (Nat × xV)) (S : xS) (p : Program) (l : Launch) (R : Room) (s : State) (m : MethodId) (args : Array Value) (meth : Method) (c : Code) (A : Nat → Prop) (H : Heap) (locs : List Loc) (k n : Nat) (lsA : Array Slot) : Prop :=
  xC M D d S0 p l R s m args meth c A ∧ xR D S H ∧ va_S A s.heap H locs ∧ (∀ q : Nat, S.1 q ≠ none → A q) ∧ S.2.2.2 = S0.2.2.2 ∧ S0.2.1 + k = S.2.1 ∧ S0.2.2.1 + n = S.2.2.1 ∧ lv_has lsA M.2.2.1 (xlv ls)
def x_out (o' : Option Value ⊕ Nat) (o : Outcome) (t : State) : Prop := match o' with
  | .inl v => o = .returned v
  | .inr e => ∃ (a : Addr) (cell : Cell), o = .threw a ∧ t.heap[a]? = some cell ∧ cell.vm = .none ∧ t.vm.findClass (xE e) = some cell.cls
/-- the end of a method that began in S0 -/
def xEnd (D : xD) (S0 : xS) (r : xRes) (A : Nat → Prop) (s : State) (o : Outcome) (t : State) : Prop :=
  x_out r.1 o t ∧ xR D r.2 t.heap ∧ s.WarmedH t.vm ∧ (∃ (L : List Loc) (k n : Nat), s.sameButNew ({ t with vm := s.vm } : State) L k n ∧ S0.2.1 + k = r.2.2.1 ∧ S0.2.2.1 + n = r.2.2.2.1 ∧ ∀ q ∈ L, A q.base) ∧ (∀ q : Nat, r.2.1 q ≠ none → A q) ∧ va_F A s t ∧ r.2.2.2.2 = S0.2.2.2
def xQ (D : xD) (S0 : xS) (r : xRes) (below : List Frame) (s : State) (A : Nat → Prop) : State → Prop := fun t => ∃ o, t.status = .running ∧ Ended t below o ∧ xEnd D S0 r A s o t
/-- FROM HERE the method that began in S0 comes to the end r -/
def V (M : xM) (D : xD) (d : Nat) (S0 : xS) (r : xRes) (pc : Nat) (ls : List (Nat × xV)) (st : List Value) (S : xS) : Prop :=
  ∀ (p : Program) (l : Launch) (e : Env) (R : Room) (s : State) (m : MethodId) (args : Array Value) (below : List Frame) (meth : Method) (c : Code) (A : Nat → Prop) (H : Heap) (locs : List Loc) (k n : Nat) (lsA : Array Slot),
    xX M D d S0 ls S p l R s m args meth c A H locs k n lsA → W p l e R s m args below meth c H locs k n (xQ D S0 r below s A) (F0 m pc lsA st)
theorem W.mono {p : Program} {l : Launch} {e : Env} {R : Room} {s : State} {m : MethodId} {args : Array Value} {below : List Frame} {meth : Method} {c : Code} {H : Heap} {locs : List Loc} {k n : Nat} {Q Q' : State → Prop} {g : JFrame} (h : ∀ t, Q t → Q' t) (w : W p l e R s m args below meth c H locs k n Q g) : W p l e R s m args below meth c H locs k n Q' g := by
  intro T hT X
  obtain ⟨t, a, b⟩ := w T hT X
  exact ⟨t, a, h t b⟩

def xcase {α : Type} (x : Option Nat) (a : α) (f : Nat → α) : α := match x with
  | none => a
  | some q => f q
theorem xcase_none {α : Type} (a : α) (f : Nat → α) : xcase none a f = a := rfl
theorem xlv_sub {lsA : Array Slot} {nL : Nat} {ls lv' : List (Nat × xV)} (h : lv_has lsA nL (xlv ls)) (js : List Nat) (hl : js.filterMap (fun j => ls[j]?) = lv') : lv_has lsA nL (xlv lv') := by
  subst hl
  refine ⟨h.1, h.2.1, fun q hq => ?_⟩
  obtain ⟨y, hy, rfl⟩ := List.mem_map.mp hq
  obtain ⟨j, -, hj⟩ := List.mem_filterMap.mp hy
  exact h.2.2 _ (List.mem_map.mpr ⟨y, List.mem_of_getElem? hj, rfl⟩)
theorem xcase_some {α : Type} (q : Nat) (a : α) (f : Nat → α) : xcase (some q) a f = f q := rfl
section XROWS
variable {M : xM} {D : xD} {d : Nat} {S0 : xS} {r : xRes} {pc : Nat} {ls : List (Nat × xV)} {st : List Value} {S : xS}
theorem x_iconst {i : Int} {v : Int32} (hd : decode M.2.1 pc = .ok (.iconst i, 1)) (hv : Int32.ofInt i = v) (kk : V M D d S0 r (pc + 1) ls (.int v :: st) S) : V M D d S0 r pc ls st S :=
  fun p l e R s m args below meth c A H locs k n lsA X => lv_iconst X.1.1.1 X.1.1.2.1 hd hv (kk p l e R s m args below meth c A H locs k n lsA X)
theorem x_bipush {i : Int} {v : Int32} (hd : decode M.2.1 pc = .ok (.bipush i, 2)) (hv : (Int8.ofInt i).toInt32 = v) (kk : V M D d S0 r (pc + 2) ls (.int v :: st) S) : V M D d S0 r pc ls st S :=
  fun p l e R s m args below meth c A H locs k n lsA X => lv_bipush X.1.1.1 X.1.1.2.1 hd hv (kk p l e R s m args below meth c A H locs k n lsA X)
theorem x_sipush {i : Int} {v : Int32} (hd : decode M.2.1 pc = .ok (.sipush i, 3)) (hv : (Int16.ofInt i).toInt32 = v) (kk : V M D d S0 r (pc + 3) ls (.int v :: st) S) : V M D d S0 r pc ls st S :=
  fun p l e R s m args below meth c A H locs k n lsA X => lv_sipush X.1.1.1 X.1.1.2.1 hd hv (kk p l e R s m args below meth c A H locs k n lsA X)
theorem x_lconst {i : Fin 2} {v : Int64} (hd : decode M.2.1 pc = .ok (.lconst i, 1)) (hv : Int64.ofNat (i : Nat) = v) (kk : V M D d S0 r (pc + 1) ls (.long v :: st) S) : V M D d S0 r pc ls st S :=
  fun p l e R s m args below meth c A H locs k n lsA X => lv_lconst X.1.1.1 X.1.1.2.1 hd hv (kk p l e R s m args below meth c A H locs k n lsA X)
theorem x_null (hd : decode M.2.1 pc = .ok (.aconst_null, 1)) (kk : V M D d S0 r (pc + 1) ls (va_rf none :: st) S) : V M D d S0 r pc ls st S :=
  fun p l e R s m args below meth c A H locs k n lsA X => lv_null X.1.1.1 X.1.1.2.1 hd (kk p l e R s m args below meth c A H locs k n lsA X)
theorem x_ldc {i : Nat} {v : Int32} (hd : decode M.2.1 pc = .ok (.ldc i, 2)) (hw : Cond.constant M.1.cls i v ∈ xT) (kk : V M D d S0 r (pc + 2) ls (.int v :: st) S) : V M D d S0 r pc ls st S :=
  fun p l e R s m args below meth c A H locs k n lsA X => lv_ldc X.1.1.1 X.1.1.2.1 X.1.1.2.2.2.2.1 (X.1.1.2.2.2.2.2.2.1 _ hw) hd (kk p l e R s m args below meth c A H locs k n lsA X)
theorem x_ldc2 {i : Nat} {v : Int64} (hd : decode M.2.1 pc = .ok (.ldc2_w i, 3)) (hw : Cond.constantLong M.1.cls i v ∈ xT) (kk : V M D d S0 r (pc + 3) ls (.long v :: st) S) : V M D d S0 r pc ls st S :=
  fun p l e R s m args below meth c A H locs k n lsA X => lv_ldc2 X.1.1.1 X.1.1.2.1 X.1.1.2.2.2.2.1 (X.1.1.2.2.2.2.2.2.1 _ hw) hd (kk p l e R s m args below meth c A H locs k n lsA X)
theorem x_iload_n {f : Fin 4} {i : Nat} {x : Int32} (j : Nat) (hd : decode M.2.1 pc = .ok (.iload_n f, 1)) (hi : (f : Nat) = i) (hj : ls[j]? = some (i, (.inl x))) (kk : V M D d S0 r (pc + 1) ls (.int x :: st) S) : V M D d S0 r pc ls st S :=
  fun p l e R s m args below meth c A H locs k n lsA X => lv_iload_n X.1.1.1 X.1.1.2.1 hd hi (lv_at X.2.2.2.2.2.2.2 j (xlv_at hj)) (kk p l e R s m args below meth c A H locs k n lsA X)
theorem x_iload {i : Nat} {x : Int32} (j : Nat) (hd : decode M.2.1 pc = .ok (.iload i, 2)) (hj : ls[j]? = some (i, (.inl x))) (kk : V M D d S0 r (pc + 2) ls (.int x :: st) S) : V M D d S0 r pc ls st S :=
  fun p l e R s m args below meth c A H locs k n lsA X => lv_iload X.1.1.1 X.1.1.2.1 hd (lv_at X.2.2.2.2.2.2.2 j (xlv_at hj)) (kk p l e R s m args below meth c A H locs k n lsA X)
theorem x_lload_n {f : Fin 4} {i : Nat} {x : Int64} (j : Nat) (hd : decode M.2.1 pc = .ok (.lload_n f, 1)) (hi : (f : Nat) = i) (hj : ls[j]? = some (i, (.inr (.inl x)))) (kk : V M D d S0 r (pc + 1) ls (.long x :: st) S) : V M D d S0 r pc ls st S :=
  fun p l e R s m args below meth c A H locs k n lsA X => lv_lload_n X.1.1.1 X.1.1.2.1 hd hi (lv_at X.2.2.2.2.2.2.2 j (xlv_at hj)) (kk p l e R s m args below meth c A H locs k n lsA X)
theorem x_lload {i : Nat} {x : Int64} (j : Nat) (hd : decode M.2.1 pc = .ok (.lload i, 2)) (hj : ls[j]? = some (i, (.inr (.inl x)))) (kk : V M D d S0 r (pc + 2) ls (.long x :: st) S) : V M D d S0 r pc ls st S :=
  fun p l e R s m args below meth c A H locs k n lsA X => lv_lload X.1.1.1 X.1.1.2.1 hd (lv_at X.2.2.2.2.2.2.2 j (xlv_at hj)) (kk p l e R s m args below meth c A H locs k n lsA X)
theorem x_aload_n {f : Fin 4} {i : Nat} {x : Option Nat} (j : Nat) (hd : decode M.2.1 pc = .ok (.aload_n f, 1)) (hi : (f : Nat) = i) (hj : ls[j]? = some (i, (.inr (.inr x)))) (kk : V M D d S0 r (pc + 1) ls (va_rf x :: st) S) : V M D d S0 r pc ls st S := by
  cases x with
  | none => exact fun p l e R s m args below meth c A H locs k n lsA X => lv_aload_nN X.1.1.1 X.1.1.2.1 hd hi (lv_at X.2.2.2.2.2.2.2 j (xlv_at hj)) (kk p l e R s m args below meth c A H locs k n lsA X)
  | some a => exact fun p l e R s m args below meth c A H locs k n lsA X => lv_aload_n X.1.1.1 X.1.1.2.1 hd hi (lv_at X.2.2.2.2.2.2.2 j (xlv_at hj)) (kk p l e R s m args below meth c A H locs k n lsA X)
theorem x_aload {i : Nat} {x : Option Nat} (j : Nat) (hd : decode M.2.1 pc = .ok (.aload i, 2)) (hj : ls[j]? = some (i, (.inr (.inr x)))) (kk : V M D d S0 r (pc + 2) ls (va_rf x :: st) S) : V M D d S0 r pc ls st S := by
  cases x with
  | none => exact fun p l e R s m args below meth c A H locs k n lsA X => lv_aloadN X.1.1.1 X.1.1.2.1 hd (lv_at X.2.2.2.2.2.2.2 j (xlv_at hj)) (kk p l e R s m args below meth c A H locs k n lsA X)
  | some a => exact fun p l e R s m args below meth c A H locs k n lsA X => lv_aload X.1.1.1 X.1.1.2.1 hd (lv_at X.2.2.2.2.2.2.2 j (xlv_at hj)) (kk p l e R s m args below meth c A H locs k n lsA X)
theorem x_istore_n {f : Fin 4} {i : Nat} {x : Int32} {lv' : List (Nat × xV)} (hd : decode M.2.1 pc = .ok (.istore_n f, 1)) (hi : (f : Nat) = i) (hn : i < M.2.2.1) (hl : xst1 ls i (.inl x) = lv') (kk : V M D d S0 r (pc + 1) lv' st S) : V M D d S0 r pc ls (.int x :: st) S := by
  subst hl
  exact fun p l e R s m args below meth c A H locs k n lsA X => lv_istore_n X.1.1.1 X.1.1.2.1 hd hi X.2.2.2.2.2.2.2 hn (xlv_st1 ls i (.inl x)) (fun ls' h => kk p l e R s m args below meth c A H locs k n ls' ⟨X.1, X.2.1, X.2.2.1, X.2.2.2.1, X.2.2.2.2.1, X.2.2.2.2.2.1, X.2.2.2.2.2.2.1, h⟩)
theorem x_istore {i : Nat} {x : Int32} {lv' : List (Nat × xV)} (hd : decode M.2.1 pc = .ok (.istore i, 2)) (hn : i < M.2.2.1) (hl : xst1 ls i (.inl x) = lv') (kk : V M D d S0 r (pc + 2) lv' st S) : V M D d S0 r pc ls (.int x :: st) S := by
  subst hl
  exact fun p l e R s m args below meth c A H locs k n lsA X => lv_istore X.1.1.1 X.1.1.2.1 hd X.2.2.2.2.2.2.2 hn (xlv_st1 ls i (.inl x)) (fun ls' h => kk p l e R s m args below meth c A H locs k n ls' ⟨X.1, X.2.1, X.2.2.1, X.2.2.2.1, X.2.2.2.2.1, X.2.2.2.2.2.1, X.2.2.2.2.2.2.1, h⟩)
theorem x_lstore_n {f : Fin 4} {i : Nat} {x : Int64} {lv' : List (Nat × xV)} (hd : decode M.2.1 pc = .ok (.lstore_n f, 1)) (hi : (f : Nat) = i) (hn : i + 1 < M.2.2.1) (hl : xst2 ls i (.inr (.inl x)) = lv') (kk : V M D d S0 r (pc + 1) lv' st S) : V M D d S0 r pc ls (.long x :: st) S := by
  subst hl
  exact fun p l e R s m args below meth c A H locs k n lsA X => lv_lstore_n X.1.1.1 X.1.1.2.1 hd hi X.2.2.2.2.2.2.2 hn (xlv_st2 ls i (.inr (.inl x))) (fun ls' h => kk p l e R s m args below meth c A H locs k n ls' ⟨X.1, X.2.1, X.2.2.1, X.2.2.2.1, X.2.2.2.2.1, X.2.2.2.2.2.1, X.2.2.2.2.2.2.1, h⟩)
theorem x_lstore {i : Nat} {x : Int64} {lv' : List (Nat × xV)} (hd : decode M.2.1 pc = .ok (.lstore i, 2)) (hn : i + 1 < M.2.2.1) (hl : xst2 ls i (.inr (.inl x)) = lv') (kk : V M D d S0 r (pc + 2) lv' st S) : V M D d S0 r pc ls (.long x :: st) S := by
  subst hl
  exact fun p l e R s m args below meth c A H locs k n lsA X => lv_lstore X.1.1.1 X.1.1.2.1 hd X.2.2.2.2.2.2.2 hn (xlv_st2 ls i (.inr (.inl x))) (fun ls' h => kk p l e R s m args below meth c A H locs k n ls' ⟨X.1, X.2.1, X.2.2.1, X.2.2.2.1, X.2.2.2.2.1, X.2.2.2.2.2.1, X.2.2.2.2.2.2.1, h⟩)
theorem x_astore_n {f : Fin 4} {i : Nat} {x : Option Nat} {lv' : List (Nat × xV)} (hd : decode M.2.1 pc = .ok (.astore_n f, 1)) (hi : (f : Nat) = i) (hn : i < M.2.2.1) (hl : xst1 ls i (.inr (.inr x)) = lv') (kk : V M D d S0 r (pc + 1) lv' st S) : V M D d S0 r pc ls (va_rf x :: st) S := by
  subst hl
  cases x with
  | none => exact fun p l e R s m args below meth c A H locs k n lsA X => lv_astore_nN X.1.1.1 X.1.1.2.1 hd hi X.2.2.2.2.2.2.2 hn (xlv_st1 ls i (.inr (.inr none))) (fun ls' h => kk p l e R s m args below meth c A H locs k n ls' ⟨X.1, X.2.1, X.2.2.1, X.2.2.2.1, X.2.2.2.2.1, X.2.2.2.2.2.1, X.2.2.2.2.2.2.1, h⟩)
  | some a => exact fun p l e R s m args below meth c A H locs k n lsA X => lv_astore_n X.1.1.1 X.1.1.2.1 hd hi X.2.2.2.2.2.2.2 hn (xlv_st1 ls i (.inr (.inr (some a)))) (fun ls' h => kk p l e R s m args below meth c A H locs k n ls' ⟨X.1, X.2.1, X.2.2.1, X.2.2.2.1, X.2.2.2.2.1, X.2.2.2.2.2.1, X.2.2.2.2.2.2.1, h⟩)
theorem x_astore {i : Nat} {x : Option Nat} {lv' : List (Nat × xV)} (hd : decode M.2.1 pc = .ok (.astore i, 2)) (hn : i < M.2.2.1) (hl : xst1 ls i (.inr (.inr x)) = lv') (kk : V M D d S0 r (pc + 2) lv' st S) : V M D d S0 r pc ls (va_rf x :: st) S := by
  subst hl
  cases x with
  | none => exact fun p l e R s m args below meth c A H locs k n lsA X => lv_astoreN X.1.1.1 X.1.1.2.1 hd X.2.2.2.2.2.2.2 hn (xlv_st1 ls i (.inr (.inr none))) (fun ls' h => kk p l e R s m args below meth c A H locs k n ls' ⟨X.1, X.2.1, X.2.2.1, X.2.2.2.1, X.2.2.2.2.1, X.2.2.2.2.2.1, X.2.2.2.2.2.2.1, h⟩)
  | some a => exact fun p l e R s m args below meth c A H locs k n lsA X => lv_astore X.1.1.1 X.1.1.2.1 hd X.2.2.2.2.2.2.2 hn (xlv_st1 ls i (.inr (.inr (some a)))) (fun ls' h => kk p l e R s m args below meth c A H locs k n ls' ⟨X.1, X.2.1, X.2.2.1, X.2.2.2.1, X.2.2.2.2.1, X.2.2.2.2.2.1, X.2.2.2.2.2.2.1, h⟩)
theorem x_iinc {i : Nat} {b : Int} {x v : Int32} {lv' : List (Nat × xV)} (j : Nat) (hd : decode M.2.1 pc = .ok (.iinc i b, 3)) (hj : ls[j]? = some (i, .inl x)) (hv : Int32.ofInt b = v) (hn : i < M.2.2.1) (hl : xst1 ls i (.inl (x + v)) = lv') (kk : V M D d S0 r (pc + 3) lv' st S) : V M D d S0 r pc ls st S := by
  subst hl
  subst hv
  exact fun p l e R s m args below meth c A H locs k n lsA X => lv_iinc X.1.1.1 X.1.1.2.1 hd X.2.2.2.2.2.2.2 (xlv_at hj) rfl hn (xlv_st1 ls i (.inl (x + Int32.ofInt b))) (fun ls' h => kk p l e R s m args below meth c A H locs k n ls' ⟨X.1, X.2.1, X.2.2.1, X.2.2.2.1, X.2.2.2.2.1, X.2.2.2.2.2.1, X.2.2.2.2.2.2.1, h⟩)
theorem x_ls {lv' : List (Nat × xV)} (js : List Nat) (hl : js.filterMap (fun j => ls[j]?) = lv') (kk : V M D d S0 r pc lv' st S) : V M D d S0 r pc ls st S :=
  fun p l e R s m args below meth c A H locs k n lsA X => kk p l e R s m args below meth c A H locs k n lsA ⟨X.1, X.2.1, X.2.2.1, X.2.2.2.1, X.2.2.2.2.1, X.2.2.2.2.2.1, X.2.2.2.2.2.2.1, xlv_sub X.2.2.2.2.2.2.2 js hl⟩
theorem x_iadd {x y : Int32} (hd : decode M.2.1 pc = .ok (.iadd, 1)) (kk : V M D d S0 r (pc + 1) ls (.int (x + y) :: st) S) : V M D d S0 r pc ls (.int y :: .int x :: st) S :=
  fun p l e R s m args below meth c A H locs k n lsA X => lv_iadd X.1.1.1 X.1.1.2.1 hd (kk p l e R s m args below meth c A H locs k n lsA X)
theorem x_isub {x y : Int32} (hd : decode M.2.1 pc = .ok (.isub, 1)) (kk : V M D d S0 r (pc + 1) ls (.int (x - y) :: st) S) : V M D d S0 r pc ls (.int y :: .int x :: st) S :=
  fun p l e R s m args below meth c A H locs k n lsA X => lv_isub X.1.1.1 X.1.1.2.1 hd (kk p l e R s m args below meth c A H locs k n lsA X)
theorem x_imul {x y : Int32} (hd : decode M.2.1 pc = .ok (.imul, 1)) (kk : V M D d S0 r (pc + 1) ls (.int (x * y) :: st) S) : V M D d S0 r pc ls (.int y :: .int x :: st) S :=
  fun p l e R s m args below meth c A H locs k n lsA X => lv_imul X.1.1.1 X.1.1.2.1 hd (kk p l e R s m args below meth c A H locs k n lsA X)
theorem x_iand {x y : Int32} (hd : decode M.2.1 pc = .ok (.iand, 1)) (kk : V M D d S0 r (pc + 1) ls (.int (x &&& y) :: st) S) : V M D d S0 r pc ls (.int y :: .int x :: st) S :=
  fun p l e R s m args below meth c A H locs k n lsA X => lv_iand X.1.1.1 X.1.1.2.1 hd (kk p l e R s m args below meth c A H locs k n lsA X)
theorem x_ior {x y : Int32} (hd : decode M.2.1 pc = .ok (.ior, 1)) (kk : V M D d S0 r (pc + 1) ls (.int (x ||| y) :: st) S) : V M D d S0 r pc ls (.int y :: .int x :: st) S :=
  fun p l e R s m args below meth c A H locs k n lsA X => lv_ior X.1.1.1 X.1.1.2.1 hd (kk p l e R s m args below meth c A H locs k n lsA X)
theorem x_ixor {x y : Int32} (hd : decode M.2.1 pc = .ok (.ixor, 1)) (kk : V M D d S0 r (pc + 1) ls (.int (x ^^^ y) :: st) S) : V M D d S0 r pc ls (.int y :: .int x :: st) S :=
  fun p l e R s m args below meth c A H locs k n lsA X => lv_ixor X.1.1.1 X.1.1.2.1 hd (kk p l e R s m args below meth c A H locs k n lsA X)
theorem x_ishl {x y : Int32} (hd : decode M.2.1 pc = .ok (.ishl, 1)) (kk : V M D d S0 r (pc + 1) ls (.int (x <<< (y &&& 31)) :: st) S) : V M D d S0 r pc ls (.int y :: .int x :: st) S :=
  fun p l e R s m args below meth c A H locs k n lsA X => lv_ishl X.1.1.1 X.1.1.2.1 hd (kk p l e R s m args below meth c A H locs k n lsA X)
theorem x_ishr {x y : Int32} (hd : decode M.2.1 pc = .ok (.ishr, 1)) (kk : V M D d S0 r (pc + 1) ls (.int (x >>> (y &&& 31)) :: st) S) : V M D d S0 r pc ls (.int y :: .int x :: st) S :=
  fun p l e R s m args below meth c A H locs k n lsA X => lv_ishr X.1.1.1 X.1.1.2.1 hd (kk p l e R s m args below meth c A H locs k n lsA X)
theorem x_ineg {x : Int32} (hd : decode M.2.1 pc = .ok (.ineg, 1)) (kk : V M D d S0 r (pc + 1) ls (.int (-x) :: st) S) : V M D d S0 r pc ls (.int x :: st) S :=
  fun p l e R s m args below meth c A H locs k n lsA X => lv_ineg X.1.1.1 X.1.1.2.1 hd (kk p l e R s m args below meth c A H locs k n lsA X)
theorem x_ladd {x y : Int64} (hd : decode M.2.1 pc = .ok (.ladd, 1)) (kk : V M D d S0 r (pc + 1) ls (.long (x + y) :: st) S) : V M D d S0 r pc ls (.long y :: .long x :: st) S :=
  fun p l e R s m args below meth c A H locs k n lsA X => lv_ladd X.1.1.1 X.1.1.2.1 hd (kk p l e R s m args below meth c A H locs k n lsA X)
theorem x_lsub {x y : Int64} (hd : decode M.2.1 pc = .ok (.lsub, 1)) (kk : V M D d S0 r (pc + 1) ls (.long (x - y) :: st) S) : V M D d S0 r pc ls (.long y :: .long x :: st) S :=
  fun p l e R s m args below meth c A H locs k n lsA X => lv_lsub X.1.1.1 X.1.1.2.1 hd (kk p l e R s m args below meth c A H locs k n lsA X)
theorem x_lmul {x y : Int64} (hd : decode M.2.1 pc = .ok (.lmul, 1)) (kk : V M D d S0 r (pc + 1) ls (.long (x * y) :: st) S) : V M D d S0 r pc ls (.long y :: .long x :: st) S :=
  fun p l e R s m args below meth c A H locs k n lsA X => lv_lmul X.1.1.1 X.1.1.2.1 hd (kk p l e R s m args below meth c A H locs k n lsA X)
theorem x_land {x y : Int64} (hd : decode M.2.1 pc = .ok (.land, 1)) (kk : V M D d S0 r (pc + 1) ls (.long (x &&& y) :: st) S) : V M D d S0 r pc ls (.long y :: .long x :: st) S :=
  fun p l e R s m args below meth c A H locs k n lsA X => lv_land X.1.1.1 X.1.1.2.1 hd (kk p l e R s m args below meth c A H locs k n lsA X)
theorem x_lor {x y : Int64} (hd : decode M.2.1 pc = .ok (.lor, 1)) (kk : V M D d S0 r (pc + 1) ls (.long (x ||| y) :: st) S) : V M D d S0 r pc ls (.long y :: .long x :: st) S :=
  fun p l e R s m args below meth c A H locs k n lsA X => lv_lor X.1.1.1 X.1.1.2.1 hd (kk p l e R s m args below meth c A H locs k n lsA X)
theorem x_lxor {x y : Int64} (hd : decode M.2.1 pc = .ok (.lxor, 1)) (kk : V M D d S0 r (pc + 1) ls (.long (x ^^^ y) :: st) S) : V M D d S0 r pc ls (.long y :: .long x :: st) S :=
  fun p l e R s m args below meth c A H locs k n lsA X => lv_lxor X.1.1.1 X.1.1.2.1 hd (kk p l e R s m args below meth c A H locs k n lsA X)
theorem x_i2l {x : Int32} (hd : decode M.2.1 pc = .ok (.i2l, 1)) (kk : V M D d S0 r (pc + 1) ls (.long x.toInt64 :: st) S) : V M D d S0 r pc ls (.int x :: st) S :=
  fun p l e R s m args below meth c A H locs k n lsA X => lv_i2l X.1.1.1 X.1.1.2.1 hd rfl (kk p l e R s m args below meth c A H locs k n lsA X)
theorem x_l2i {x : Int64} (hd : decode M.2.1 pc = .ok (.l2i, 1)) (kk : V M D d S0 r (pc + 1) ls (.int x.toInt32 :: st) S) : V M D d S0 r pc ls (.long x :: st) S :=
  fun p l e R s m args below meth c A H locs k n lsA X => lv_l2i X.1.1.1 X.1.1.2.1 hd rfl (kk p l e R s m args below meth c A H locs k n lsA X)
theorem x_i2b {x : Int32} (hd : decode M.2.1 pc = .ok (.i2b, 1)) (kk : V M D d S0 r (pc + 1) ls (.int x.toInt8.toInt32 :: st) S) : V M D d S0 r pc ls (.int x :: st) S :=
  fun p l e R s m args below meth c A H locs k n lsA X => lv_i2b X.1.1.1 X.1.1.2.1 hd rfl (kk p l e R s m args below meth c A H locs k n lsA X)
theorem x_iushr {x y : Int32} (hd : decode M.2.1 pc = .ok (.iushr, 1)) (kk : V M D d S0 r (pc + 1) ls (.int (x.toUInt32 >>> (y.toUInt32 &&& Int32.toUInt32 31)).toInt32 :: st) S) : V M D d S0 r pc ls (.int y :: .int x :: st) S :=
  fun p l e R s m args below meth c A H locs k n lsA X => lv_iushr X.1.1.1 X.1.1.2.1 hd rfl (kk p l e R s m args below meth c A H locs k n lsA X)
theorem x_lushr {x : Int64} {y : Int32} (hd : decode M.2.1 pc = .ok (.lushr, 1)) (kk : V M D d S0 r (pc + 1) ls (.long (x.toUInt64 >>> (y.toInt64.toUInt64 &&& Int64.toUInt64 63)).toInt64 :: st) S) : V M D d S0 r pc ls (.int y :: .long x :: st) S :=
  fun p l e R s m args below meth c A H locs k n lsA X => lv_lushr X.1.1.1 X.1.1.2.1 hd rfl (kk p l e R s m args below meth c A H locs k n lsA X)
theorem x_lshl {x : Int64} {y : Int32} (hd : decode M.2.1 pc = .ok (.lshl, 1)) (kk : V M D d S0 r (pc + 1) ls (.long (x <<< (y.toInt64 &&& 63)) :: st) S) : V M D d S0 r pc ls (.int y :: .long x :: st) S :=
  fun p l e R s m args below meth c A H locs k n lsA X => lv_lshl X.1.1.1 X.1.1.2.1 hd rfl (kk p l e R s m args below meth c A H locs k n lsA X)
theorem x_lcmp {x y : Int64} (hd : decode M.2.1 pc = .ok (.lcmp, 1)) (kk : V M D d S0 r (pc + 1) ls (.int (lg_cmp x y) :: st) S) : V M D d S0 r pc ls (.long y :: .long x :: st) S :=
  fun p l e R s m args below meth c A H locs k n lsA X => W.lcmp X.1.1.1 X.1.1.2.1 hd (kk p l e R s m args below meth c A H locs k n lsA X)
theorem x_dup {v : Value} (hd : decode M.2.1 pc = .ok (.dup, 1)) (hv : v.category = 1) (kk : V M D d S0 r (pc + 1) ls (v :: v :: st) S) : V M D d S0 r pc ls (v :: st) S :=
  fun p l e R s m args below meth c A H locs k n lsA X => lv_dup X.1.1.1 X.1.1.2.1 hd hv (kk p l e R s m args below meth c A H locs k n lsA X)
theorem x_pop {v : Value} (hd : decode M.2.1 pc = .ok (.pop, 1)) (hv : v.category = 1) (kk : V M D d S0 r (pc + 1) ls st S) : V M D d S0 r pc ls (v :: st) S :=
  fun p l e R s m args below meth c A H locs k n lsA X => lv_pop X.1.1.1 X.1.1.2.1 hd hv (kk p l e R s m args below meth c A H locs k n lsA X)
theorem x_dup_x1 {v w : Value} (hd : decode M.2.1 pc = .ok (.dup_x1, 1)) (hv : v.category = 1) (hw : w.category = 1) (kk : V M D d S0 r (pc + 1) ls (v :: w :: v :: st) S) : V M D d S0 r pc ls (v :: w :: st) S :=
  fun p l e R s m args below meth c A H locs k n lsA X => lv_dup_x1 X.1.1.1 X.1.1.2.1 hd hv hw (kk p l e R s m args below meth c A H locs k n lsA X)
theorem x_dup2 {v w : Value} (hd : decode M.2.1 pc = .ok (.dup2, 1)) (hv : v.category = 1) (hw : w.category = 1) (kk : V M D d S0 r (pc + 1) ls (v :: w :: v :: w :: st) S) : V M D d S0 r pc ls (v :: w :: st) S :=
  fun p l e R s m args below meth c A H locs k n lsA X => lv_dup2_11 X.1.1.1 X.1.1.2.1 hd hv hw (kk p l e R s m args below meth c A H locs k n lsA X)
theorem x_dup_x2 {v w u : Value} (hd : decode M.2.1 pc = .ok (.dup_x2, 1)) (hv : v.category = 1) (hw : w.category = 1) (hu : u.category = 1) (kk : V M D d S0 r (pc + 1) ls (v :: w :: u :: v :: st) S) : V M D d S0 r pc ls (v :: w :: u :: st) S :=
  fun p l e R s m args below meth c A H locs k n lsA X => lv_dup_x2 X.1.1.1 X.1.1.2.1 hd hv hw hu (kk p l e R s m args below meth c A H locs k n lsA X)
theorem x_goto {off : Int} {tgt : Nat} (hd : decode M.2.1 pc = .ok (.goto off, 3)) (ht : (pc : Int) + off = (tgt : Int)) (kk : V M D d S0 r tgt ls st S) : V M D d S0 r pc ls st S :=
  fun p l e R s m args below meth c A H locs k n lsA X => lv_goto X.1.1.1 X.1.1.2.1 hd ht (kk p l e R s m args below meth c A H locs k n lsA X)
theorem xcat (x : Option Nat) : (va_rf x).category = 1 := by cases x <;> rfl
theorem x_if_eq {α : Type} {x : Int32} {off : Int} {tgt : Nat} {Fa Fb : Option α} {z : α} (hd : decode M.2.1 pc = .ok (.ifCond .eq off, 3)) (ht : (pc : Int) + off = (tgt : Int)) (h : (if x = 0 then Fa else Fb) = some z) (kt : Fa = some z → V M D d S0 r tgt ls st S) (kf : Fb = some z → V M D d S0 r (pc + 3) ls st S) : V M D d S0 r pc ls (.int x :: st) S :=
  fun p l e R s m args below meth c A H locs k n lsA X => lv_if_eq X.1.1.1 X.1.1.2.1 hd ht (fun c9 => kt (by rw [if_pos c9] at h; exact h) p l e R s m args below meth c A H locs k n lsA X) (fun c9 => kf (by rw [if_neg c9] at h; exact h) p l e R s m args below meth c A H locs k n lsA X)
theorem x_if_ne {α : Type} {x : Int32} {off : Int} {tgt : Nat} {Fa Fb : Option α} {z : α} (hd : decode M.2.1 pc = .ok (.ifCond .ne off, 3)) (ht : (pc : Int) + off = (tgt : Int)) (h : (if x = 0 then Fa else Fb) = some z) (kt : Fb = some z → V M D d S0 r tgt ls st S) (kf : Fa = some z → V M D d S0 r (pc + 3) ls st S) : V M D d S0 r pc ls (.int x :: st) S :=
  fun p l e R s m args below meth c A H locs k n lsA X => lv_if_ne X.1.1.1 X.1.1.2.1 hd ht (fun c9 => kt (by rw [if_neg c9] at h; exact h) p l e R s m args below meth c A H locs k n lsA X) (fun c9 => kf (by rw [if_pos c9] at h; exact h) p l e R s m args below meth c A H locs k n lsA X)
theorem x_if_lt {α : Type} {x : Int32} {off : Int} {tgt : Nat} {Fa Fb : Option α} {z : α} (hd : decode M.2.1 pc = .ok (.ifCond .lt off, 3)) (ht : (pc : Int) + off = (tgt : Int)) (h : (if x < 0 then Fa else Fb) = some z) (kt : Fa = some z → V M D d S0 r tgt ls st S) (kf : Fb = some z → V M D d S0 r (pc + 3) ls st S) : V M D d S0 r pc ls (.int x :: st) S :=
  fun p l e R s m args below meth c A H locs k n lsA X => lv_if_lt X.1.1.1 X.1.1.2.1 hd ht (fun c9 => kt (by rw [if_pos c9] at h; exact h) p l e R s m args below meth c A H locs k n lsA X) (fun c9 => kf (by rw [if_neg c9] at h; exact h) p l e R s m args below meth c A H locs k n lsA X)
theorem x_if_ge {α : Type} {x : Int32} {off : Int} {tgt : Nat} {Fa Fb : Option α} {z : α} (hd : decode M.2.1 pc = .ok (.ifCond .ge off, 3)) (ht : (pc : Int) + off = (tgt : Int)) (h : (if 0 ≤ x then Fa else Fb) = some z) (kt : Fa = some z → V M D d S0 r tgt ls st S) (kf : Fb = some z → V M D d S0 r (pc + 3) ls st S) : V M D d S0 r pc ls (.int x :: st) S :=
  fun p l e R s m args below meth c A H locs k n lsA X => lv_if_ge X.1.1.1 X.1.1.2.1 hd ht (fun c9 => kt (by rw [if_pos c9] at h; exact h) p l e R s m args below meth c A H locs k n lsA X) (fun c9 => kf (by rw [if_neg c9] at h; exact h) p l e R s m args below meth c A H locs k n lsA X)
theorem x_if_gt {α : Type} {x : Int32} {off : Int} {tgt : Nat} {Fa Fb : Option α} {z : α} (hd : decode M.2.1 pc = .ok (.ifCond .gt off, 3)) (ht : (pc : Int) + off = (tgt : Int)) (h : (if 0 < x then Fa else Fb) = some z) (kt : Fa = some z → V M D d S0 r tgt ls st S) (kf : Fb = some z → V M D d S0 r (pc + 3) ls st S) : V M D d S0 r pc ls (.int x :: st) S :=
  fun p l e R s m args below meth c A H locs k n lsA X => lv_if_gt X.1.1.1 X.1.1.2.1 hd ht (fun c9 => kt (by rw [if_pos c9] at h; exact h) p l e R s m args below meth c A H locs k n lsA X) (fun c9 => kf (by rw [if_neg c9] at h; exact h) p l e R s m args below meth c A H locs k n lsA X)
theorem x_if_le {α : Type} {x : Int32} {off : Int} {tgt : Nat} {Fa Fb : Option α} {z : α} (hd : decode M.2.1 pc = .ok (.ifCond .le off, 3)) (ht : (pc : Int) + off = (tgt : Int)) (h : (if x ≤ 0 then Fa else Fb) = some z) (kt : Fa = some z → V M D d S0 r tgt ls st S) (kf : Fb = some z → V M D d S0 r (pc + 3) ls st S) : V M D d S0 r pc ls (.int x :: st) S :=
  fun p l e R s m args below meth c A H locs k n lsA X => lv_if_le X.1.1.1 X.1.1.2.1 hd ht (fun c9 => kt (by rw [if_pos c9] at h; exact h) p l e R s m args below meth c A H locs k n lsA X) (fun c9 => kf (by rw [if_neg c9] at h; exact h) p l e R s m args below meth c A H locs k n lsA X)
theorem x_icmp_eq {α : Type} {x y : Int32} {off : Int} {tgt : Nat} {Fa Fb : Option α} {z : α} (hd : decode M.2.1 pc = .ok (.if_icmp .eq off, 3)) (ht : (pc : Int) + off = (tgt : Int)) (h : (if x = y then Fa else Fb) = some z) (kt : Fa = some z → V M D d S0 r tgt ls st S) (kf : Fb = some z → V M D d S0 r (pc + 3) ls st S) : V M D d S0 r pc ls (.int y :: .int x :: st) S :=
  fun p l e R s m args below meth c A H locs k n lsA X => lv_icmp_eq X.1.1.1 X.1.1.2.1 hd ht (fun c9 => kt (by rw [if_pos c9] at h; exact h) p l e R s m args below meth c A H locs k n lsA X) (fun c9 => kf (by rw [if_neg c9] at h; exact h) p l e R s m args below meth c A H locs k n lsA X)
theorem x_icmp_ne {α : Type} {x y : Int32} {off : Int} {tgt : Nat} {Fa Fb : Option α} {z : α} (hd : decode M.2.1 pc = .ok (.if_icmp .ne off, 3)) (ht : (pc : Int) + off = (tgt : Int)) (h : (if x = y then Fa else Fb) = some z) (kt : Fb = some z → V M D d S0 r tgt ls st S) (kf : Fa = some z → V M D d S0 r (pc + 3) ls st S) : V M D d S0 r pc ls (.int y :: .int x :: st) S :=
  fun p l e R s m args below meth c A H locs k n lsA X => lv_icmp_ne X.1.1.1 X.1.1.2.1 hd ht (fun c9 => kt (by rw [if_neg c9] at h; exact h) p l e R s m args below meth c A H locs k n lsA X) (fun c9 => kf (by rw [if_pos c9] at h; exact h) p l e R s m args below meth c A H locs k n lsA X)
theorem x_icmp_lt {α : Type} {x y : Int32} {off : Int} {tgt : Nat} {Fa Fb : Option α} {z : α} (hd : decode M.2.1 pc = .ok (.if_icmp .lt off, 3)) (ht : (pc : Int) + off = (tgt : Int)) (h : (if x < y then Fa else Fb) = some z) (kt : Fa = some z → V M D d S0 r tgt ls st S) (kf : Fb = some z → V M D d S0 r (pc + 3) ls st S) : V M D d S0 r pc ls (.int y :: .int x :: st) S :=
  fun p l e R s m args below meth c A H locs k n lsA X => lv_icmp_lt X.1.1.1 X.1.1.2.1 hd ht (fun c9 => kt (by rw [if_pos c9] at h; exact h) p l e R s m args below meth c A H locs k n lsA X) (fun c9 => kf (by rw [if_neg c9] at h; exact h) p l e R s m args below meth c A H locs k n lsA X)
theorem x_icmp_ge {α : Type} {x y : Int32} {off : Int} {tgt : Nat} {Fa Fb : Option α} {z : α} (hd : decode M.2.1 pc = .ok (.if_icmp .ge off, 3)) (ht : (pc : Int) + off = (tgt : Int)) (h : (if y ≤ x then Fa else Fb) = some z) (kt : Fa = some z → V M D d S0 r tgt ls st S) (kf : Fb = some z → V M D d S0 r (pc + 3) ls st S) : V M D d S0 r pc ls (.int y :: .int x :: st) S :=
  fun p l e R s m args below meth c A H locs k n lsA X => lv_icmp_ge X.1.1.1 X.1.1.2.1 hd ht (fun c9 => kt (by rw [if_pos c9] at h; exact h) p l e R s m args below meth c A H locs k n lsA X) (fun c9 => kf (by rw [if_neg c9] at h; exact h) p l e R s m args below meth c A H locs k n lsA X)
theorem x_icmp_gt {α : Type} {x y : Int32} {off : Int} {tgt : Nat} {Fa Fb : Option α} {z : α} (hd : decode M.2.1 pc = .ok (.if_icmp .gt off, 3)) (ht : (pc : Int) + off = (tgt : Int)) (h : (if y < x then Fa else Fb) = some z) (kt : Fa = some z → V M D d S0 r tgt ls st S) (kf : Fb = some z → V M D d S0 r (pc + 3) ls st S) : V M D d S0 r pc ls (.int y :: .int x :: st) S :=
  fun p l e R s m args below meth c A H locs k n lsA X => lv_icmp_gt X.1.1.1 X.1.1.2.1 hd ht (fun c9 => kt (by rw [if_pos c9] at h; exact h) p l e R s m args below meth c A H locs k n lsA X) (fun c9 => kf (by rw [if_neg c9] at h; exact h) p l e R s m args below meth c A H locs k n lsA X)
theorem x_icmp_le {α : Type} {x y : Int32} {off : Int} {tgt : Nat} {Fa Fb : Option α} {z : α} (hd : decode M.2.1 pc = .ok (.if_icmp .le off, 3)) (ht : (pc : Int) + off = (tgt : Int)) (h : (if x ≤ y then Fa else Fb) = some z) (kt : Fa = some z → V M D d S0 r tgt ls st S) (kf : Fb = some z → V M D d S0 r (pc + 3) ls st S) : V M D d S0 r pc ls (.int y :: .int x :: st) S :=
  fun p l e R s m args below meth c A H locs k n lsA X => lv_icmp_le X.1.1.1 X.1.1.2.1 hd ht (fun c9 => kt (by rw [if_pos c9] at h; exact h) p l e R s m args below meth c A H locs k n lsA X) (fun c9 => kf (by rw [if_neg c9] at h; exact h) p l e R s m args below meth c A H locs k n lsA X)
theorem x_acmp_eq {α : Type} {x y : Option Nat} {off : Int} {tgt : Nat} {Fa Fb : Option α} {z : α} (hd : decode M.2.1 pc = .ok (.if_acmp .eq off, 3)) (ht : (pc : Int) + off = (tgt : Int)) (h : (if x = y then Fa else Fb) = some z) (kt : Fa = some z → V M D d S0 r tgt ls st S) (kf : Fb = some z → V M D d S0 r (pc + 3) ls st S) : V M D d S0 r pc ls (va_rf y :: va_rf x :: st) S :=
  fun p l e R s m args below meth c A H locs k n lsA X => lv_acmp_eq X.1.1.1 X.1.1.2.1 hd ht (fun c9 => kt (by rw [if_pos c9] at h; exact h) p l e R s m args below meth c A H locs k n lsA X) (fun c9 => kf (by rw [if_neg c9] at h; exact h) p l e R s m args below meth c A H locs k n lsA X)
theorem x_acmp_ne {α : Type} {x y : Option Nat} {off : Int} {tgt : Nat} {Fa Fb : Option α} {z : α} (hd : decode M.2.1 pc = .ok (.if_acmp .ne off, 3)) (ht : (pc : Int) + off = (tgt : Int)) (h : (if x = y then Fa else Fb) = some z) (kt : Fb = some z → V M D d S0 r tgt ls st S) (kf : Fa = some z → V M D d S0 r (pc + 3) ls st S) : V M D d S0 r pc ls (va_rf y :: va_rf x :: st) S :=
  fun p l e R s m args below meth c A H locs k n lsA X => lv_acmp_ne X.1.1.1 X.1.1.2.1 hd ht (fun c9 => kt (by rw [if_neg c9] at h; exact h) p l e R s m args below meth c A H locs k n lsA X) (fun c9 => kf (by rw [if_pos c9] at h; exact h) p l e R s m args below meth c A H locs k n lsA X)
theorem x_ifnull {α : Type} {x : Option Nat} {off : Int} {tgt : Nat} {Fa : Option α} {Fb : Nat → Option α} {z : α} (hd : decode M.2.1 pc = .ok (.ifnull off, 3)) (ht : (pc : Int) + off = (tgt : Int)) (h : xcase x Fa Fb = some z) (kt : x = none → Fa = some z → V M D d S0 r tgt ls st S) (kf : ∀ a, x = some a → Fb a = some z → V M D d S0 r (pc + 3) ls st S) : V M D d S0 r pc ls (va_rf x :: st) S := by
  cases x with
  | none => exact fun p l e R s m args below meth c A H locs k n lsA X => lv_ifnullN X.1.1.1 X.1.1.2.1 hd ht (kt rfl h p l e R s m args below meth c A H locs k n lsA X)
  | some a => exact fun p l e R s m args below meth c A H locs k n lsA X => lv_ifnull X.1.1.1 X.1.1.2.1 hd (kf a rfl h p l e R s m args below meth c A H locs k n lsA X)
theorem x_ifnonnull {α : Type} {x : Option Nat} {off : Int} {tgt : Nat} {Fa : Option α} {Fb : Nat → Option α} {z : α} (hd : decode M.2.1 pc = .ok (.ifnonnull off, 3)) (ht : (pc : Int) + off = (tgt : Int)) (h : xcase x Fa Fb = some z) (kt : ∀ a, x = some a → Fb a = some z → V M D d S0 r tgt ls st S) (kf : x = none → Fa = some z → V M D d S0 r (pc + 3) ls st S) : V M D d S0 r pc ls (va_rf x :: st) S := by
  cases x with
  | none => exact fun p l e R s m args below meth c A H locs k n lsA X => lv_ifnonnullN X.1.1.1 X.1.1.2.1 hd (kf rfl h p l e R s m args below meth c A H locs k n lsA X)
  | some a => exact fun p l e R s m args below meth c A H locs k n lsA X => lv_ifnonnull X.1.1.1 X.1.1.2.1 hd ht (kt a rfl h p l e R s m args below meth c A H locs k n lsA X)
end XROWS
end
section
/-! READING AND WRITING THE STATE -/
def xobj (S : xS) (x : Option Nat) (ci : Nat) : Option (Nat × List Value) := match x with
  | none => none
  | some a => match S.1 a with
    | some (.inr (c, fs)) => if c = ci then some (a, fs) else none
    | _ => none
theorem xobj_some {S : xS} {x : Option Nat} {ci : Nat} {q : Nat × List Value} (h : xobj S x ci = some q) : x = some q.1 ∧ S.1 q.1 = some (.inr (ci, q.2)) := by
  unfold xobj at h
  split at h
  · cases h
  · split at h
    · rename_i a c fs hs
      split at h
      · rename_i hc
        cases h
        exact ⟨rfl, by rw [hs, hc]⟩
      · cases h
    · cases h
theorem xobj_of {S : xS} {a ci : Nat} {fs : List Value} (h : S.1 a = some (.inr (ci, fs))) : xobj S (some a) ci = some (a, fs) := by
  simp [xobj, h]
def xgI (S : xS) (x : Option Nat) (ci k : Nat) : Option Int32 := (xobj S x ci).bind fun q => match q.2[k]? with
  | some (.int v) => some v
  | _ => none
def xgR (S : xS) (x : Option Nat) (ci k : Nat) : Option (Option Nat) := (xobj S x ci).bind fun q => match q.2[k]? with
  | some (.ref v) => some (some v)
  | some .null => some none
  | _ => none
def xput (S : xS) (x : Option Nat) (ci k : Nat) (v : Value) : Option xS := (xobj S x ci).bind fun q => if k < q.2.length then some (xset S q.1 (.inr (ci, q.2.set k v))) else none
def xnew (S : xS) (ci : Nat) (fs : List Value) : Option (Nat × xS) := if S.2.1 + 1 ≤ S.2.2.2.1 ∧ S.2.2.1 + fs.length ≤ S.2.2.2.2 then some (S.2.1, xpush S (.inr (ci, fs)) fs.length) else none
def xnewa (S : xS) (i : Nat) (n : Int32) (g : (Nat → Int32) ⊕ (Nat → Int64) ⊕ (Nat → UInt32) ⊕ (Nat → UInt64) ⊕ (Nat → Option Nat)) : Option (Nat × xS) := if ¬ n < 0 ∧ n.toNatClampNeg ≤ 1000000 ∧ S.2.1 + 1 ≤ S.2.2.2.1 ∧ S.2.2.1 + n.toNatClampNeg ≤ S.2.2.2.2 then some (S.2.1, xpush S (.inl (i, (n.toNatClampNeg, g))) n.toNatClampNeg) else none
def xarr (S : xS) (x : Option Nat) (i : Nat) : Option (Nat × vp_A) := match x with
  | none => none
  | some a => match S.1 a with
    | some (.inl (j, z)) => if j = i then some (a, z) else none
    | _ => none
theorem xarr_some {S : xS} {x : Option Nat} {i : Nat} {q : Nat × vp_A} (h : xarr S x i = some q) : x = some q.1 ∧ S.1 q.1 = some (.inl (i, q.2)) := by
  unfold xarr at h
  split at h
  · cases h
  · split at h
    · rename_i a j z hs
      split at h
      · rename_i hc
        cases h
        exact ⟨rfl, by rw [hs, hc]⟩
      · cases h
    · cases h
theorem xarr_of {S : xS} {a i : Nat} {z : vp_A} (h : S.1 a = some (.inl (i, z))) : xarr S (some a) i = some (a, z) := by
  simp [xarr, h]
/-- elements: of an array of ints or bytes, of longs, of references -/
def xldI (S : xS) (x : Option Nat) (i : Nat) (j : Int32) : Option Int32 := (xarr S x i).bind fun q => match q.2.2 with
  | .inl f => if ¬ (j < 0 ∨ q.2.1 ≤ j.toNatClampNeg) then some (f j.toNatClampNeg) else none
  | _ => none
def xldL (S : xS) (x : Option Nat) (i : Nat) (j : Int32) : Option Int64 := (xarr S x i).bind fun q => match q.2.2 with
  | .inr (.inl f) => if ¬ (j < 0 ∨ q.2.1 ≤ j.toNatClampNeg) then some (f j.toNatClampNeg) else none
  | _ => none
def xldR (S : xS) (x : Option Nat) (i : Nat) (j : Int32) : Option (Option Nat) := (xarr S x i).bind fun q => match q.2.2 with
  | .inr (.inr (.inr (.inr f))) => if ¬ (j < 0 ∨ q.2.1 ≤ j.toNatClampNeg) then some (f j.toNatClampNeg) else none
  | _ => none
def xstI (S : xS) (x : Option Nat) (i : Nat) (j : Int32) (v : Int32) : Option xS := (xarr S x i).bind fun q => match q.2.2 with
  | .inl f => if ¬ (j < 0 ∨ q.2.1 ≤ j.toNatClampNeg) then some (xset S q.1 (.inl (i, (q.2.1, .inl (upd f j.toNatClampNeg v))))) else none
  | _ => none
def xstL (S : xS) (x : Option Nat) (i : Nat) (j : Int32) (v : Int64) : Option xS := (xarr S x i).bind fun q => match q.2.2 with
  | .inr (.inl f) => if ¬ (j < 0 ∨ q.2.1 ≤ j.toNatClampNeg) then some (xset S q.1 (.inl (i, (q.2.1, .inr (.inl (vp_updL f j.toNatClampNeg v)))))) else none
  | _ => none
/-- a reference goes into an array of references to objects of class ci -/
def xstR (S : xS) (x : Option Nat) (i ci : Nat) (j : Int32) (v : Option Nat) : Option xS := (xarr S x i).bind fun q => match q.2.2 with
  | .inr (.inr (.inr (.inr f))) => if ¬ (j < 0 ∨ q.2.1 ≤ j.toNatClampNeg) ∧ (v = none ∨ (xobj S v ci).isSome = true) then some (xset S q.1 (.inl (i, (q.2.1, .inr (.inr (.inr (.inr (va_up f j.toNatClampNeg v)))))))) else none
  | _ => none
def xlen (S : xS) (x : Option Nat) (i : Nat) : Option Int32 := (xarr S x i).bind fun q => some (Int32.ofNat q.2.1)
section XHEAP
variable {M : xM} {D : xD} {d : Nat} {S0 : xS} {r : xRes} {pc : Nat} {ls : List (Nat × xV)} {st : List Value} {S : xS} {α : Type}
/-- what is known of a field -/
theorem x_field {ci k : Nat} {C : String} {T : u_T} {N : Nat} {a : Nat} {fs : List Value} {s : State} {args : Array Value} {H : Heap} (hts : ∀ w ∈ xT, w.before args s = true) (hK : xK D s) (hR : xR D S H) (hs : S.1 a = some (.inr (ci, fs))) (hc : xCl[ci]? = some (C, T, N)) (hin : ∀ w ∈ u_ws C T N, w ∈ xT) (hk : k < N) :
    ∃ (cell : Cell) (cf : ClassId) (kf : Class) (fi : Nat) (f : Field) (kC : Class), H[a]? = some cell ∧ cell.cls = D.1.1 ci ∧ cell.vm = .none ∧ (∀ j, j < N → cell.slots[D.1.2 ci j]? = some (vp_V fs j)) ∧ s.fieldFound? (T k).1 (T k).2.1 (T k).2.2.1 = some (cf, kf, fi, f) ∧ f.slot = D.1.2 ci k ∧ f.isStatic = false ∧ s.vm.findClass C = some (D.1.1 ci) ∧ s.vm.classes[D.1.1 ci]? = some kC ∧ kC.kind = .ordinary := by
  obtain ⟨q, h1, cell, q1, q2, q3, q4⟩ := hR.2.1 a _ hs
  have hr : q = (C, T, N) := Option.some.inj (h1.symm.trans hc)
  subst hr
  obtain ⟨hS, hfc, kC, hkC, hkind⟩ := hK.1.1 ci _ hc
  obtain ⟨cf, kf, fi, f, hi, hsl⟩ := hS k hk
  exact ⟨cell, cf, kf, fi, f, kC, q1, q2, q3, q4, hi, hsl, (u_facts hfc hkC (u_lays hts hin hk) hi).1, hfc, hkC, hkind⟩
theorem x_get0 {ci index k : Nat} {C : String} {T : u_T} {N : Nat} {a : Nat} {fs : List Value} {v : Value} (hs : S.1 a = some (.inr (ci, fs))) (hv : fs[k]? = some v) (hc : xCl[ci]? = some (C, T, N)) (hin : ∀ w ∈ u_ws C T N, w ∈ xT) (hk : k < N) (hw : Cond.fieldLink M.1.cls index (T k).1 (T k).2.1 (T k).2.2.1 ∈ xT) (hd : decode M.2.1 pc = .ok (.getfield index, 3)) (kk : V M D d S0 r (pc + 3) ls (v :: st) S) : V M D d S0 r pc ls (.ref a :: st) S := by
  intro p l e R s m args below meth c A H locs k' n lsA X
  have hts := X.1.1.2.2.2.2.2.2.1
  obtain ⟨cell, cf, kf, fi, f, kC, q1, q2, q3, q4, hi, hsl, hst, -⟩ := x_field (k := k) hts X.1.2.1 X.2.1 hs hc hin hk
  refine W.getf X.1.1.1 X.1.1.2.1 X.1.1.2.2.2.2.1 (hts _ hw) hi hst q1 (by rw [q3]; exact fun h => by cases h) (v := v) ?_ rfl rfl hd (kk p l e R s m args below meth c A H locs k' n lsA X)
  rw [hsl, q4 k hk]
  simp [vp_V, hv]
theorem x_get1 {ci index k : Nat} {C host : String} {T : u_T} {N : Nat} {a : Nat} {fs : List Value} {v : Value} (hs : S.1 a = some (.inr (ci, fs))) (hv : fs[k]? = some v) (hc : xCl[ci]? = some (C, T, N)) (hin : ∀ w ∈ u_ws C T N, w ∈ xT) (hk : k < N) (hw : Cond.fieldLinkNest M.1.cls index (T k).1 (T k).2.1 (T k).2.2.1 host ∈ xT) (hd : decode M.2.1 pc = .ok (.getfield index, 3)) (kk : V M D d S0 r (pc + 3) ls (v :: st) S) : V M D d S0 r pc ls (.ref a :: st) S := by
  intro p l e R s m args below meth c A H locs k' n lsA X
  have hts := X.1.1.2.2.2.2.2.2.1
  obtain ⟨cell, cf, kf, fi, f, kC, q1, q2, q3, q4, hi, hsl, hst, -⟩ := x_field (k := k) hts X.1.2.1 X.2.1 hs hc hin hk
  refine va_Wgetf X.1.1.1 X.1.1.2.1 X.1.1.2.2.2.2.1 (hts _ hw) hi hst q1 (by rw [q3]; exact fun h => by cases h) (v := v) ?_ rfl rfl hd (kk p l e R s m args below meth c A H locs k' n lsA X)
  rw [hsl, q4 k hk]
  simp [vp_V, hv]
/-- the word by which a field is linked: in its own class, or in a nest mate's -/
def xfl (own : String) (index : Nat) (q : String × String × String × Bool) (host : Option String) : Cond := match host with
  | none => .fieldLink own index q.1 q.2.1 q.2.2.1
  | some h => .fieldLinkNest own index q.1 q.2.1 q.2.2.1 h
theorem x_get {ci index k : Nat} {C : String} {host : Option String} {T : u_T} {N : Nat} {a : Nat} {fs : List Value} {v : Value} (hs : S.1 a = some (.inr (ci, fs))) (hv : fs[k]? = some v) (hc : xCl[ci]? = some (C, T, N)) (hin : ∀ w ∈ u_ws C T N, w ∈ xT) (hk : k < N) (hw : xfl M.1.cls index (T k) host ∈ xT) (hd : decode M.2.1 pc = .ok (.getfield index, 3)) (kk : V M D d S0 r (pc + 3) ls (v :: st) S) : V M D d S0 r pc ls (.ref a :: st) S := by
  cases host with
  | none => exact x_get0 hs hv hc hin hk hw hd kk
  | some h => exact x_get1 hs hv hc hin hk hw hd kk
theorem x_getI {ci index k : Nat} {C : String} {host : Option String} {T : u_T} {N : Nat} {x : Option Nat} {F : Int32 → Option α} {z : α} (h : (xgI S x ci k).bind F = some z) (hc : xCl[ci]? = some (C, T, N)) (hin : ∀ w ∈ u_ws C T N, w ∈ xT) (hk : k < N) (hw : xfl M.1.cls index (T k) host ∈ xT) (hd : decode M.2.1 pc = .ok (.getfield index, 3)) (kk : ∀ v, F v = some z → V M D d S0 r (pc + 3) ls (.int v :: st) S) : V M D d S0 r pc ls (va_rf x :: st) S := by
  obtain ⟨v, h1, h2⟩ := Option.bind_eq_some_iff.mp h
  obtain ⟨q, h3, h4⟩ := Option.bind_eq_some_iff.mp h1
  obtain ⟨rfl, h5⟩ := xobj_some h3
  split at h4
  · rename_i w hw'
    cases h4
    exact x_get h5 hw' hc hin hk hw hd (kk _ h2)
  · cases h4
theorem x_getR {ci index k : Nat} {C : String} {host : Option String} {T : u_T} {N : Nat} {x : Option Nat} {F : Option Nat → Option α} {z : α} (h : (xgR S x ci k).bind F = some z) (hc : xCl[ci]? = some (C, T, N)) (hin : ∀ w ∈ u_ws C T N, w ∈ xT) (hk : k < N) (hw : xfl M.1.cls index (T k) host ∈ xT) (hd : decode M.2.1 pc = .ok (.getfield index, 3)) (kk : ∀ v, F v = some z → V M D d S0 r (pc + 3) ls (va_rf v :: st) S) : V M D d S0 r pc ls (va_rf x :: st) S := by
  obtain ⟨v, h1, h2⟩ := Option.bind_eq_some_iff.mp h
  obtain ⟨q, h3, h4⟩ := Option.bind_eq_some_iff.mp h1
  obtain ⟨rfl, h5⟩ := xobj_some h3
  split at h4
  · rename_i w hw'
    cases h4
    exact x_get h5 hw' hc hin hk hw hd (kk _ h2)
  · rename_i hw'
    cases h4
    exact x_get h5 hw' hc hin hk hw hd (kk _ h2)
  · cases h4
theorem x_apart {ci : Nat} {C : String} {T : u_T} {N : Nat} {s : State} {args : Array Value} (hts : ∀ w ∈ xT, w.before args s = true) (hK : xK D s) (hc : xCl[ci]? = some (C, T, N)) (hin : ∀ w ∈ u_ws C T N, w ∈ xT) (ty0 : Nat → FieldType) (hty : ∀ k, k < N → parseFieldDescriptor (T k).2.2.1 = some (ty0 k)) (hnm : ∀ a, a < N → ∀ b, b < N → a ≠ b → (T a).2.1 ≠ (T b).2.1) : ∀ x y, x < N → y < N → x ≠ y → D.1.2 ci x ≠ D.1.2 ci y := va_apart (own := C) hts hin ty0 hty hnm hK.1 hc
theorem x_put {ci index k : Nat} {C : String} {host : Option String} {T : u_T} {N : Nat} {x : Option Nat} {v : Value} {F : xS → Option α} {z : α} (h : (xput S x ci k v).bind F = some z) (hc : xCl[ci]? = some (C, T, N)) (hin : ∀ w ∈ u_ws C T N, w ∈ xT) (ty0 : Nat → FieldType) (hty : ∀ k, k < N → parseFieldDescriptor (T k).2.2.1 = some (ty0 k)) (hnm : ∀ a, a < N → ∀ b, b < N → a ≠ b → (T a).2.1 ≠ (T b).2.1) (hk : k < N) (hfin : (T k).2.2.2 = false) (hn : narrow (ty0 k) v = v) (hfit : fits (ty0 k) v = true) (hw : xfl M.1.cls index (T k) host ∈ xT) (hd : decode M.2.1 pc = .ok (.putfield index, 3)) (kk : ∀ S1, F S1 = some z → V M D d S0 r (pc + 3) ls st S1) : V M D d S0 r pc ls (v :: va_rf x :: st) S := by
  obtain ⟨S1, h1, h2⟩ := Option.bind_eq_some_iff.mp h
  obtain ⟨q, h3, h4⟩ := Option.bind_eq_some_iff.mp h1
  obtain ⟨rfl, h5⟩ := xobj_some h3
  split at h4
  case isFalse => cases h4
  rename_i hl
  cases h4
  intro p l e R s m args below meth c A H locs k' n lsA X
  have hts := X.1.1.2.2.2.2.2.2.1
  have hap := x_apart hts X.1.2.1 hc hin ty0 hty hnm
  obtain ⟨cell, cf, kf, fi, f, kC, q1, q2, q3, q4, hi, hsl, hst, hfc, hkC, hkind⟩ := x_field (k := k) hts X.1.2.1 X.2.1 h5 hc hin hk
  have hlay := hts _ (hin _ (u_in_lay hk))
  unfold u_lay at hlay
  rw [if_neg (by rw [hfin]; decide)] at hlay
  have h6 := u_store hfc hkC hkind hlay hi (hty k hk) hn hfit
  have go : ∀ H' : Heap, H'[q.1]? = some (cell.setSlot f.slot v) → H'.size = H.size → (∀ y, y ≠ q.1 → H'[y]? = H[y]?) → W p l e R s m args below meth c H' (locs ++ [⟨q.1, f.slot⟩]) k' n (xQ D S0 r below s A) (F0 m (pc + 3) lsA st) := by
    intro H' e1 e2 e3
    rw [hsl] at e1
    have e4 : xR D (xset S q.1 (.inr (ci, q.2.set k v))) H' := X.2.1.set ⟨_, hc, t_OB.to (V := updV (vp_V q.2) k v) ⟨_, e1, q2, q3, t_set q4 hap hk v⟩ (fun j _ => vp_updV_set hl v j)⟩ e2 e3
    have hA : A q.1 := X.2.2.2.1 q.1 (by rw [h5]; exact fun h => by cases h)
    refine kk _ h2 p l e R s m args below meth c A H' _ k' n lsA ⟨X.1, e4, X.2.2.1.put e2 e3 hA, fun y hy => ?_, X.2.2.2.2.1, X.2.2.2.2.2.1, X.2.2.2.2.2.2.1, X.2.2.2.2.2.2.2⟩
    by_cases ey : y = q.1
    · rw [ey]; exact hA
    · exact X.2.2.2.1 y (by rw [← va_up_ne S.1 (some (.inr (ci, q.2.set k v))) ey]; exact hy)
  cases host with
  | none => exact W.putK X.1.1.1 X.1.1.2.1 (f := f) ⟨X.1.1.2.2.2.2.1, hts _ hw, ⟨_, _, _, hi⟩, hst⟩ (by rw [q2]; exact h6) q1 q3 (by rw [hsl]; exact k2_hasslot (q4 k hk)) rfl rfl hd go
  | some hst' => exact va_WputK X.1.1.1 X.1.1.2.1 (f := f) X.1.1.2.2.2.2.1 (hts _ hw) hi hst (by rw [q2]; exact h6) q1 q3 (by rw [hsl]; exact k2_hasslot (q4 k hk)) rfl rfl hd go
theorem x_putF {ci index k : Nat} {C : String} {T : u_T} {N : Nat} {x : Option Nat} {v : Value} {F : xS → Option α} {z : α} (h : (xput S x ci k v).bind F = some z) (hc : xCl[ci]? = some (C, T, N)) (hin : ∀ w ∈ u_ws C T N, w ∈ xT) (ty0 : Nat → FieldType) (hty : ∀ k, k < N → parseFieldDescriptor (T k).2.2.1 = some (ty0 k)) (hnm : ∀ a, a < N → ∀ b, b < N → a ≠ b → (T a).2.1 ≠ (T b).2.1) (hk : k < N) (hfin : (T k).2.2.2 = true) (hinit : M.1.name = "<init>") (hdecl : (T k).1 = M.1.cls) (hn : narrow (ty0 k) v = v) (hfit : fits (ty0 k) v = true) (hw : Cond.fieldLink M.1.cls index (T k).1 (T k).2.1 (T k).2.2.1 ∈ xT) (hd : decode M.2.1 pc = .ok (.putfield index, 3)) (kk : ∀ S1, F S1 = some z → V M D d S0 r (pc + 3) ls st S1) : V M D d S0 r pc ls (v :: va_rf x :: st) S := by
  obtain ⟨S1, h1, h2⟩ := Option.bind_eq_some_iff.mp h
  obtain ⟨q, h3, h4⟩ := Option.bind_eq_some_iff.mp h1
  obtain ⟨rfl, h5⟩ := xobj_some h3
  split at h4
  case isFalse => cases h4
  rename_i hl
  cases h4
  intro p l e R s m args below meth c A H locs k' n lsA X
  have hts := X.1.1.2.2.2.2.2.2.1
  have hap := x_apart hts X.1.2.1 hc hin ty0 hty hnm
  obtain ⟨cell, cf, kf, fi, f, kC, q1, q2, q3, q4, hi, hsl, hst, hfc, hkC, hkind⟩ := x_field (k := k) hts X.1.2.1 X.2.1 h5 hc hin hk
  have hlay := hts _ (hin _ (u_in_lay hk))
  unfold u_lay at hlay
  rw [if_pos hfin] at hlay
  have hcf : m.cls = cf := by
    obtain ⟨_, _, c', _, _, _, -, -, hf', -, -, -, hown2, -⟩ := Cond.laysFinal_spec hlay
    have e1 : c' = cf := by have := hi.symm.trans hf'; simp at this; exact this.1.symm
    rw [hdecl] at hown2
    rw [← e1]; exact Option.some.inj (X.1.1.2.2.2.2.1.symm.trans hown2)
  have h6 := u_fits hfc hkC hkind (Or.inr hlay) hi (hty k hk) hn hfit
  refine W.putFinK X.1.1.1 X.1.1.2.1 X.1.1.2.2.2.2.1 (hts _ hw) hi hst hcf (X.1.1.2.2.2.2.2.1.trans hinit) (by rw [q2]; exact h6) q1 q3 (by rw [hsl]; exact k2_hasslot (q4 k hk)) rfl rfl hd fun H' e1 e2 e3 => ?_
  rw [hsl] at e1
  have e4 : xR D (xset S q.1 (.inr (ci, q.2.set k v))) H' := X.2.1.set ⟨_, hc, t_OB.to (V := updV (vp_V q.2) k v) ⟨_, e1, q2, q3, t_set q4 hap hk v⟩ (fun j _ => vp_updV_set hl v j)⟩ e2 e3
  have hA : A q.1 := X.2.2.2.1 q.1 (by rw [h5]; exact fun h => by cases h)
  refine kk _ h2 p l e R s m args below meth c A H' _ k' n lsA ⟨X.1, e4, X.2.2.1.put e2 e3 hA, fun y hy => ?_, X.2.2.2.2.1, X.2.2.2.2.2.1, X.2.2.2.2.2.2.1, X.2.2.2.2.2.2.2⟩
  by_cases ey : y = q.1
  · rw [ey]; exact hA
  · exact X.2.2.2.1 y (by rw [← va_up_ne S.1 (some (.inr (ci, q.2.set k v))) ey]; exact hy)
end XHEAP

section XMAKE
variable {M : xM} {D : xD} {d : Nat} {S0 : xS} {r : xRes} {pc : Nat} {ls : List (Nat × xV)} {st : List Value} {S : xS} {α : Type}
/-- a write into a known cell goes on -/
theorem x_wrote {p : Program} {l : Launch} {R : Room} {s : State} {m : MethodId} {args : Array Value} {meth : Method} {c : Code} {A : Nat → Prop} {H H' : Heap} {locs : List Loc} {k n : Nat} {lsA : Array Slot} {a i : Nat} {o o' : xO} (X : xX M D d S0 ls S p l R s m args meth c A H locs k n lsA) (h5 : S.1 a = some o) (he : x_at D a o' H') (e2 : H'.size = H.size) (e3 : ∀ y : Nat, y ≠ a → H'[y]? = H[y]?) : xX M D d S0 ls (xset S a o') p l R s m args meth c A H' (locs ++ [⟨a, i⟩]) k n lsA := by
  have hA : A a := X.2.2.2.1 a (by rw [h5]; exact fun h => by cases h)
  refine ⟨X.1, X.2.1.set he e2 e3, X.2.2.1.put e2 e3 hA, fun y hy => ?_, X.2.2.2.2.1, X.2.2.2.2.2.1, X.2.2.2.2.2.2.1, X.2.2.2.2.2.2.2⟩
  by_cases ey : y = a
  · rw [ey]; exact hA
  · exact X.2.2.2.1 y (by rw [← va_up_ne S.1 (some o') ey]; exact hy)
/-- a new cell -/
theorem x_pushed {p : Program} {l : Launch} {R : Room} {s : State} {m : MethodId} {args : Array Value} {meth : Method} {c : Code} {A : Nat → Prop} {H H' : Heap} {locs : List Loc} {k n N : Nat} {lsA : Array Slot} {o : xO} (X : xX M D d S0 ls S p l R s m args meth c A H locs k n lsA) (hlim : S.2.1 + 1 ≤ S.2.2.2.1 ∧ S.2.2.1 + N ≤ S.2.2.2.2) (he : x_at D H.size o H') (e2 : H'.size = H.size + 1) (e3 : ∀ y : Nat, y < H.size → H'[y]? = H[y]?) : xX M D d S0 ls (xpush S o N) p l R s m args meth c A H' locs (k + 1) (n + N) lsA := by
  have hs : s.heap.size ≤ H.size := X.2.2.1.1
  refine ⟨X.1, X.2.1.push N hlim he e2 e3, ⟨by omega, fun q h1 h2 => (e3 q (by omega)).trans (X.2.2.1.2.1 q h1 h2), X.2.2.1.2.2⟩, fun y hy => ?_, X.2.2.2.2.1, ?_, ?_, X.2.2.2.2.2.2.2⟩
  · by_cases ey : y = S.2.1
    · refine X.1.2.2.2.1 y ?_
      rw [ey, ← X.2.1.1]; exact hs
    · exact X.2.2.2.1 y (by rw [← va_up_ne S.1 (some o) ey]; exact hy)
  · show S0.2.1 + (k + 1) = S.2.1 + 1
    have := X.2.2.2.2.2.1
    omega
  · show S0.2.2.1 + (n + N) = S.2.2.1 + N
    have := X.2.2.2.2.2.2.1
    omega
/-- the limits leave room -/
theorem x_fit {p : Program} {l : Launch} {R : Room} {s : State} {m : MethodId} {args : Array Value} {meth : Method} {c : Code} {A : Nat → Prop} {H : Heap} {locs : List Loc} {k n N : Nat} {lsA : Array Slot} (X : xX M D d S0 ls S p l R s m args meth c A H locs k n lsA) (h1 : S.2.1 + 1 ≤ S.2.2.2.1) (h2 : S.2.2.1 + N ≤ S.2.2.2.2) : k + 1 ≤ R.cells ∧ n + N ≤ R.slots := by
  have e := X.2.2.2.2.1
  have e1 : S.2.2.2.1 = S0.2.2.2.1 := by rw [e]
  have e2 : S.2.2.2.2 = S0.2.2.2.2 := by rw [e]
  have a := X.2.2.2.2.2.1
  have b := X.2.2.2.2.2.2.1
  have c1 := X.1.2.2.2.2.2.2.1
  have c2 := X.1.2.2.2.2.2.2.2.1
  omega
theorem x_new {ci index : Nat} {C : String} {T : u_T} {N : Nat} {fs : List Value} {F : Nat × xS → Option α} {z : α} (h : (xnew S ci fs).bind F = some z) (hc : xCl[ci]? = some (C, T, N)) (hin : ∀ w ∈ u_ws C T N, w ∈ xT) (ty0 : Nat → FieldType) (hty : ∀ k, k < N → parseFieldDescriptor (T k).2.2.1 = some (ty0 k)) (hN : fs.length = N) (hfs : ∀ j, j < N → defaultValue (ty0 j) = vp_V fs j) (hcl : Cond.classLink M.1.cls index C ∈ xT) (hinst : Cond.instantiable C N ∈ xT) (hini : Cond.initialized C ∈ xT) (hd : decode M.2.1 pc = .ok (.new index, 3)) (kk : ∀ q, F q = some z → V M D d S0 r (pc + 3) ls (va_rf (some q.1) :: st) q.2) : V M D d S0 r pc ls st S := by
  obtain ⟨q, h1, h2⟩ := Option.bind_eq_some_iff.mp h
  unfold xnew at h1
  split at h1
  case isFalse => cases h1
  rename_i hlim
  cases h1
  intro p l e R s m args below meth c A H locs k n lsA X
  have hts := X.1.1.2.2.2.2.2.2.1
  have hKn := X.1.2.1.1.1 ci _ hc
  have hf := x_fit X hlim.1 hlim.2
  rw [hN] at hf
  refine W.newcK X.1.1.1 X.1.1.2.1 X.1.1.2.2.2.2.1 (hts _ hcl) (hts _ hinst) (hts _ hini) rfl hd hf.1 hf.2 hKn.2.1 rfl fun H1 kC hkC e1 z1 o1 => ?_
  have key := kk _ h2 p l e R s m args below meth c A H1 locs (k + 1) (n + N) lsA (by
    rw [← hN]
    exact x_pushed X hlim ⟨_, hc, (u_born ty0 hts hin hKn hkC e1 hty).to hfs⟩ z1 o1)
  rw [X.2.1.1]
  exact key
/-- an array of numbers -/
theorem x_newa {atype : ArrayType} {i : Nat} {ty : FieldType} {w : Int32} {g : (Nat → Int32) ⊕ (Nat → Int64) ⊕ (Nat → UInt32) ⊕ (Nat → UInt64) ⊕ (Nat → Option Nat)} {F : Nat × xS → Option α} {z : α} (h : (xnewa S i w g).bind F = some z) (hi : xAT[i]? = some ty) (hty : newarray.typeOf atype = ty) (hra : ∀ (U : State) (cA : ClassId), va_RA U cA ty = (U.vm.findClass ("[" ++ ty.toString) = some cA)) (hg : ∀ (cA : ClassId) (N : Nat), vp_cell cA (N, g) = arrV cA N (fun _ => defaultValue ty)) (hcb : componentBytes ty ≤ 8) (hcl : Cond.arrayClass ty ∈ xT) (hd : decode M.2.1 pc = .ok (.newarray atype, 2)) (kk : ∀ q, F q = some z → V M D d S0 r (pc + 2) ls (va_rf (some q.1) :: st) q.2) : V M D d S0 r pc ls (.int w :: st) S := by
  obtain ⟨q, h1, h2⟩ := Option.bind_eq_some_iff.mp h
  unfold xnewa at h1
  split at h1
  case isFalse => cases h1
  rename_i hlim
  cases h1
  subst hty
  intro p l e R s m args below meth c A H locs k n lsA X
  have hts := X.1.1.2.2.2.2.2.2.1
  have hf := x_fit X hlim.2.2.1 hlim.2.2.2
  have hb : w.toNatClampNeg * componentBytes (newarray.typeOf atype) ≤ 536870912 := Nat.le_trans (Nat.mul_le_mul hlim.2.1 hcb) (by decide)
  refine va_newaK X.1.1.1 X.1.1.2.1 (hts _ hcl) rfl hd rfl hlim.1 rfl hb hf.1 hf.2 rfl fun H1 cA e1 z1 o1 hAr hNm => ?_
  have hcA : cA = D.2.1 i := by
    have h3 := (X.1.2.1.2.1 i _ hi).2
    rw [hra] at h3
    exact Option.some.inj (hNm.symm.trans h3)
  subst hcA
  have key := kk _ h2 p l e R s m args below meth c A H1 locs (k + 1) (n + w.toNatClampNeg) lsA (x_pushed X hlim.2.2 (by
    show H1[H.size]? = some (vp_cell _ _)
    rw [hg]
    exact e1) z1 o1)
  rw [X.2.1.1]
  exact key
/-- an array of references -/
theorem x_anew {i index : Nat} {C : String} {w : Int32} {F : Nat × xS → Option α} {z : α} (h : (xnewa S i w (.inr (.inr (.inr (.inr (fun _ => none)))))).bind F = some z) (hi : xAT[i]? = some (.object C)) (hcl : Cond.classLink M.1.cls index C ∈ xT) (hov : Cond.arrayOver (.object C) ∈ xT) (hd : decode M.2.1 pc = .ok (.anewarray index, 3)) (kk : ∀ q, F q = some z → V M D d S0 r (pc + 3) ls (va_rf (some q.1) :: st) q.2) : V M D d S0 r pc ls (.int w :: st) S := by
  obtain ⟨q, h1, h2⟩ := Option.bind_eq_some_iff.mp h
  unfold xnewa at h1
  split at h1
  case isFalse => cases h1
  rename_i hlim
  cases h1
  intro p l e R s m args below meth c A H locs k n lsA X
  have hts := X.1.1.2.2.2.2.2.2.1
  have hf := x_fit X hlim.2.2.1 hlim.2.2.2
  have hb : w.toNatClampNeg * 4 ≤ 536870912 := Nat.le_trans (Nat.mul_le_mul hlim.2.1 (Nat.le_refl 4)) (by decide)
  refine W.anew X.1.1.1 X.1.1.2.1 X.1.1.2.2.2.2.1 (hts _ hcl) (hts _ hov) rfl hd rfl hlim.1 hb hf.1 hf.2 fun cA kA comp f1 f2 f3 f4 => ?_
  generalize hH1 : H.push ({ cls := cA, slots := Array.replicate w.toNatClampNeg .null, vm := .none } : Cell) = H1
  have z1 : H1.size = H.size + 1 := by rw [← hH1, Array.size_push]
  have e1 : H1[H.size]? = some (arrV cA w.toNatClampNeg (fun _ => .null)) := by rw [← hH1, Array.getElem?_push_size, ← arrV_new]
  have o1 : ∀ q : Nat, q < H.size → H1[q]? = H[q]? := fun q hq => by rw [← hH1, Array.getElem?_push, if_neg (Nat.ne_of_lt hq)]
  have hcA : cA = D.2.1 i := by
    obtain ⟨kA', comp', g1, g2, g3, g4⟩ := (X.1.2.1.2.1 i _ hi).2
    exact Option.some.inj (f1.symm.trans g4)
  subst hcA
  have key := kk _ h2 p l e R s m args below meth c A H1 locs (k + 1) (n + w.toNatClampNeg) lsA (x_pushed X hlim.2.2 (by
    show H1[H.size]? = some (vp_cell _ _)
    rw [vp_cell_q]
    exact e1) z1 o1)
  rw [X.2.1.1]
  exact key
theorem x_len {i : Nat} {ty : FieldType} {x : Option Nat} {F : Int32 → Option α} {z : α} (h : (xlen S x i).bind F = some z) (hi : xAT[i]? = some ty) (hd : decode M.2.1 pc = .ok (.arraylength, 1)) (kk : ∀ v, F v = some z → V M D d S0 r (pc + 1) ls (.int v :: st) S) : V M D d S0 r pc ls (va_rf x :: st) S := by
  obtain ⟨v, h1, h2⟩ := Option.bind_eq_some_iff.mp h
  obtain ⟨q, h3, h4⟩ := Option.bind_eq_some_iff.mp h1
  obtain ⟨rfl, h5⟩ := xarr_some h3
  cases h4
  intro p l e R s m args below meth c A H locs k n lsA X
  have hP : va_P D.1 xCl [(q.1, .inl (D.2.1 i, q.2))] H := fun j y hy => by
    have hz : j < 1 := (List.getElem?_eq_some_iff.mp hy).1
    rw [show j = 0 by omega] at hy
    cases hy
    exact X.2.1.2.1 q.1 _ h5
  have hK : va_K D.1 xCl [(D.2.1 i, ty)] s := ⟨X.1.2.1.1.1, fun j y hy => by
    have hz : j < 1 := (List.getElem?_eq_some_iff.mp hy).1
    rw [show j = 0 by omega] at hy
    cases hy
    exact X.1.2.1.2.1 i ty hi⟩
  exact va_alen X.1.1.1 X.1.1.2.1 hK hP 0 0 rfl rfl rfl hd (kk _ h2 p l e R s m args below meth c A H locs k n lsA X)
/-- an element that is an int, of an array of ints or of bytes -/
theorem x_iald {i : Nat} {x : Option Nat} {w : Int32} {F : Int32 → Option α} {z : α} (h : (xldI S x i w).bind F = some z) (hi : xAT[i]? = some .int) (hd : decode M.2.1 pc = .ok (.iaload, 1)) (kk : ∀ v, F v = some z → V M D d S0 r (pc + 1) ls (.int v :: st) S) : V M D d S0 r pc ls (.int w :: va_rf x :: st) S := by
  obtain ⟨v, h1, h2⟩ := Option.bind_eq_some_iff.mp h
  obtain ⟨q, h3, h4⟩ := Option.bind_eq_some_iff.mp h1
  obtain ⟨rfl, h5⟩ := xarr_some h3
  obtain ⟨a, N, g⟩ := q
  split at h4
  case h_2 => cases h4
  rename_i f hf
  split at h4
  case isFalse => cases h4
  rename_i hin
  cases h4
  dsimp only at hf
  subst hf
  intro p l e R s m args below meth c A H locs k n lsA X
  have hlt : w.toNatClampNeg < N := Nat.not_le.mp fun q => hin (Or.inr q)
  exact W.iald (v := .int (f w.toNatClampNeg)) X.1.1.1 X.1.1.2.1 (X.2.1.2.1 a _ h5) ((X.1.2.1.2.1 i _ hi).1 N (fun j => .int (f j))) (fun q => by cases q) (by show ¬ (w < 0 ∨ (arrV _ _ _).slots.size ≤ _); rw [arrV_size]; exact hin) (by show (arrV _ _ _).slots[_]? = _; rw [arrV_read _ _ hlt]) rfl rfl hd (kk _ h2 p l e R s m args below meth c A H locs k n lsA X)
theorem x_bald {i : Nat} {x : Option Nat} {w : Int32} {F : Int32 → Option α} {z : α} (h : (xldI S x i w).bind F = some z) (hi : xAT[i]? = some .byte) (hd : decode M.2.1 pc = .ok (.baload, 1)) (kk : ∀ v, F v = some z → V M D d S0 r (pc + 1) ls (.int v :: st) S) : V M D d S0 r pc ls (.int w :: va_rf x :: st) S := by
  obtain ⟨v, h1, h2⟩ := Option.bind_eq_some_iff.mp h
  obtain ⟨q, h3, h4⟩ := Option.bind_eq_some_iff.mp h1
  obtain ⟨rfl, h5⟩ := xarr_some h3
  obtain ⟨a, N, g⟩ := q
  split at h4
  case h_2 => cases h4
  rename_i f hf
  split at h4
  case isFalse => cases h4
  rename_i hin
  cases h4
  dsimp only at hf
  subst hf
  intro p l e R s m args below meth c A H locs k n lsA X
  have hlt : w.toNatClampNeg < N := Nat.not_le.mp fun q => hin (Or.inr q)
  exact W.bald (v := .int (f w.toNatClampNeg)) X.1.1.1 X.1.1.2.1 (X.2.1.2.1 a _ h5) ((X.1.2.1.2.1 i _ hi).1 N (fun j => .int (f j))) (fun q => by cases q) (by show ¬ (w < 0 ∨ (arrV _ _ _).slots.size ≤ _); rw [arrV_size]; exact hin) (by show (arrV _ _ _).slots[_]? = _; rw [arrV_read _ _ hlt]) rfl rfl hd (kk _ h2 p l e R s m args below meth c A H locs k n lsA X)
theorem x_lald {i : Nat} {x : Option Nat} {w : Int32} {F : Int64 → Option α} {z : α} (h : (xldL S x i w).bind F = some z) (hi : xAT[i]? = some .long) (hd : decode M.2.1 pc = .ok (.laload, 1)) (kk : ∀ v, F v = some z → V M D d S0 r (pc + 1) ls (.long v :: st) S) : V M D d S0 r pc ls (.int w :: va_rf x :: st) S := by
  obtain ⟨v, h1, h2⟩ := Option.bind_eq_some_iff.mp h
  obtain ⟨q, h3, h4⟩ := Option.bind_eq_some_iff.mp h1
  obtain ⟨rfl, h5⟩ := xarr_some h3
  obtain ⟨a, N, g⟩ := q
  split at h4
  case h_2 => cases h4
  rename_i f hf
  split at h4
  case isFalse => cases h4
  rename_i hin
  cases h4
  dsimp only at hf
  subst hf
  intro p l e R s m args below meth c A H locs k n lsA X
  have hlt : w.toNatClampNeg < N := Nat.not_le.mp fun q => hin (Or.inr q)
  exact W.lald (v := .long (f w.toNatClampNeg)) X.1.1.1 X.1.1.2.1 (X.2.1.2.1 a _ h5) ((X.1.2.1.2.1 i _ hi).1 N (fun j => .long (f j))) (fun q => by cases q) (by show ¬ (w < 0 ∨ (arrV _ _ _).slots.size ≤ _); rw [arrV_size]; exact hin) (by show (arrV _ _ _).slots[_]? = _; rw [arrV_read _ _ hlt]) rfl rfl hd (kk _ h2 p l e R s m args below meth c A H locs k n lsA X)
theorem x_aald {i : Nat} {C : String} {x : Option Nat} {w : Int32} {F : Option Nat → Option α} {z : α} (h : (xldR S x i w).bind F = some z) (hi : xAT[i]? = some (.object C)) (hd : decode M.2.1 pc = .ok (.aaload, 1)) (kk : ∀ v, F v = some z → V M D d S0 r (pc + 1) ls (va_rf v :: st) S) : V M D d S0 r pc ls (.int w :: va_rf x :: st) S := by
  obtain ⟨v, h1, h2⟩ := Option.bind_eq_some_iff.mp h
  obtain ⟨q, h3, h4⟩ := Option.bind_eq_some_iff.mp h1
  obtain ⟨rfl, h5⟩ := xarr_some h3
  obtain ⟨a, N, g⟩ := q
  split at h4
  case h_2 => cases h4
  rename_i f hf
  split at h4
  case isFalse => cases h4
  rename_i hin
  cases h4
  dsimp only at hf
  subst hf
  intro p l e R s m args below meth c A H locs k n lsA X
  have hlt : w.toNatClampNeg < N := Nat.not_le.mp fun q => hin (Or.inr q)
  exact W.aald (v := va_rf (f w.toNatClampNeg)) X.1.1.1 X.1.1.2.1 (X.2.1.2.1 a _ h5) ((X.1.2.1.2.1 i _ hi).1 N (fun j => va_rf (f j))) rfl (fun q => by cases q) (by show ¬ (w < 0 ∨ (arrV _ _ _).slots.size ≤ _); rw [arrV_size]; exact hin) (by show (arrV _ _ _).slots[_]? = _; rw [arrV_read _ _ hlt]) rfl rfl hd (kk _ h2 p l e R s m args below meth c A H locs k n lsA X)
theorem x_iast {i : Nat} {x : Option Nat} {w v : Int32} {F : xS → Option α} {z : α} (h : (xstI S x i w v).bind F = some z) (hi : xAT[i]? = some .int) (hd : decode M.2.1 pc = .ok (.iastore, 1)) (kk : ∀ S1, F S1 = some z → V M D d S0 r (pc + 1) ls st S1) : V M D d S0 r pc ls (.int v :: .int w :: va_rf x :: st) S := by
  obtain ⟨S1, h1, h2⟩ := Option.bind_eq_some_iff.mp h
  obtain ⟨q, h3, h4⟩ := Option.bind_eq_some_iff.mp h1
  obtain ⟨rfl, h5⟩ := xarr_some h3
  obtain ⟨a, N, g⟩ := q
  split at h4
  case h_2 => cases h4
  rename_i f hf
  split at h4
  case isFalse => cases h4
  rename_i hin
  cases h4
  dsimp only at hf
  subst hf
  intro p l e R s m args below meth c A H locs k n lsA X
  refine W.iast X.1.1.1 X.1.1.2.1 (X.2.1.2.1 a _ h5) ((X.1.2.1.2.1 i _ hi).1 N (fun j => .int (f j))) (fun q => by cases q) (by show ¬ (w < 0 ∨ (arrV _ _ _).slots.size ≤ _); rw [arrV_size]; exact hin) rfl rfl hd fun H1 e1 z1 oq => kk _ h2 p l e R s m args below meth c A H1 _ k n lsA (x_wrote X h5 ?_ z1 oq)
  show H1[a]? = some (vp_cell _ _)
  rw [e1, vp_cell_i, vp_cell_i, arrV_store]
  congr 2
  funext q
  by_cases hq : q = w.toNatClampNeg
  · subst hq
    simp [updV, upd]
  · simp [updV, upd, hq]
theorem x_bast {i : Nat} {x : Option Nat} {w v : Int32} {F : xS → Option α} {z : α} (h : (xstI S x i w (vp_nar .byte v)).bind F = some z) (hi : xAT[i]? = some .byte) (hd : decode M.2.1 pc = .ok (.bastore, 1)) (kk : ∀ S1, F S1 = some z → V M D d S0 r (pc + 1) ls st S1) : V M D d S0 r pc ls (.int v :: .int w :: va_rf x :: st) S := by
  obtain ⟨S1, h1, h2⟩ := Option.bind_eq_some_iff.mp h
  obtain ⟨q, h3, h4⟩ := Option.bind_eq_some_iff.mp h1
  obtain ⟨rfl, h5⟩ := xarr_some h3
  obtain ⟨a, N, g⟩ := q
  split at h4
  case h_2 => cases h4
  rename_i f hf
  split at h4
  case isFalse => cases h4
  rename_i hin
  cases h4
  dsimp only at hf
  subst hf
  intro p l e R s m args below meth c A H locs k n lsA X
  refine W.bast X.1.1.1 X.1.1.2.1 (X.2.1.2.1 a _ h5) ((X.1.2.1.2.1 i _ hi).1 N (fun j => .int (f j))) (fun q => by cases q) (by show ¬ (w < 0 ∨ (arrV _ _ _).slots.size ≤ _); rw [arrV_size]; exact hin) rfl rfl hd fun H1 e1 z1 oq => kk _ h2 p l e R s m args below meth c A H1 _ k n lsA (x_wrote X h5 ?_ z1 oq)
  show H1[a]? = some (vp_cell _ _)
  rw [e1, vp_cell_i, vp_cell_i, arrV_store]
  congr 2
  funext q
  by_cases hq : q = w.toNatClampNeg
  · subst hq
    simp [updV, upd]
    try rfl
  · simp [updV, upd, hq]
theorem x_last {i : Nat} {x : Option Nat} {w : Int32} {v : Int64} {F : xS → Option α} {z : α} (h : (xstL S x i w v).bind F = some z) (hi : xAT[i]? = some .long) (hd : decode M.2.1 pc = .ok (.lastore, 1)) (kk : ∀ S1, F S1 = some z → V M D d S0 r (pc + 1) ls st S1) : V M D d S0 r pc ls (.long v :: .int w :: va_rf x :: st) S := by
  obtain ⟨S1, h1, h2⟩ := Option.bind_eq_some_iff.mp h
  obtain ⟨q, h3, h4⟩ := Option.bind_eq_some_iff.mp h1
  obtain ⟨rfl, h5⟩ := xarr_some h3
  obtain ⟨a, N, g⟩ := q
  split at h4
  case h_2 => cases h4
  rename_i f hf
  split at h4
  case isFalse => cases h4
  rename_i hin
  cases h4
  dsimp only at hf
  subst hf
  intro p l e R s m args below meth c A H locs k n lsA X
  refine W.last X.1.1.1 X.1.1.2.1 (X.2.1.2.1 a _ h5) ((X.1.2.1.2.1 i _ hi).1 N (fun j => .long (f j))) (fun q => by cases q) (by show ¬ (w < 0 ∨ (arrV _ _ _).slots.size ≤ _); rw [arrV_size]; exact hin) rfl rfl hd fun H1 e1 z1 oq => kk _ h2 p l e R s m args below meth c A H1 _ k n lsA (x_wrote X h5 ?_ z1 oq)
  show H1[a]? = some (vp_cell _ _)
  rw [e1, vp_cell_l, vp_cell_l, arrV_store]
  congr 2
  funext q
  by_cases hq : q = w.toNatClampNeg
  · subst hq
    simp [updV, vp_updL]
  · simp [updV, vp_updL, hq]
theorem x_aast {i ci : Nat} {C : String} {T : u_T} {N' : Nat} {x y : Option Nat} {w : Int32} {F : xS → Option α} {z : α} (h : (xstR S x i ci w y).bind F = some z) (hi : xAT[i]? = some (.object C)) (hc : xCl[ci]? = some (C, T, N')) (hd : decode M.2.1 pc = .ok (.aastore, 1)) (kk : ∀ S1, F S1 = some z → V M D d S0 r (pc + 1) ls st S1) : V M D d S0 r pc ls (va_rf y :: .int w :: va_rf x :: st) S := by
  obtain ⟨S1, h1, h2⟩ := Option.bind_eq_some_iff.mp h
  obtain ⟨q, h3, h4⟩ := Option.bind_eq_some_iff.mp h1
  obtain ⟨rfl, h5⟩ := xarr_some h3
  obtain ⟨a, N, g⟩ := q
  split at h4
  case h_2 => cases h4
  rename_i f hf
  split at h4
  case isFalse => cases h4
  rename_i hin
  cases h4
  dsimp only at hf
  subst hf
  obtain ⟨hin, hy⟩ := hin
  intro p l e R s m args below meth c A H locs k n lsA X
  have hlt : w.toNatClampNeg < N := Nat.not_le.mp fun q => hin (Or.inr q)
  have h0 : ¬ w < 0 := fun q => hin (Or.inl q)
  have fin : ∀ (H1 : Heap) (locs1 : List Loc), H1[a]? = some ((vp_cell (D.2.1 i) (N, .inr (.inr (.inr (.inr f))))).setSlot w.toNatClampNeg (va_rf y)) → H1[a]? = some (vp_cell (D.2.1 i) (N, .inr (.inr (.inr (.inr (va_up f w.toNatClampNeg y)))))) := by
    intro H1 _ e1
    rw [e1, vp_cell_q, vp_cell_q, arrV_store]
    congr 2
    funext q
    by_cases hq : q = w.toNatClampNeg
    · subst hq
      simp [updV, va_up]
    · simp [updV, va_up, hq]
  cases y with
  | none =>
    exact va_WaastN X.1.1.1 X.1.1.2.1 (X.2.1.2.1 a _ h5) ((X.1.2.1.2.1 i _ hi).1 N (fun j => va_rf (f j))) (fun q => by cases q) (by show ¬ (w < 0 ∨ (arrV _ _ _).slots.size ≤ _); rw [arrV_size]; exact hin) rfl rfl hd fun H1 e1 z1 oq => kk _ h2 p l e R s m args below meth c A H1 _ k n lsA (x_wrote X h5 (fin H1 locs e1) z1 oq)
  | some v =>
    have hv : (xobj S (some v) ci).isSome = true := by
      rcases hy with hy | hy
      · cases hy
      · exact hy
    obtain ⟨qv, hqv⟩ := Option.isSome_iff_exists.mp hv
    obtain ⟨ev, h6⟩ := xobj_some hqv
    obtain ⟨r', hr', cellV, g1, g2, g3, -⟩ := X.2.1.2.1 qv.1 _ h6
    have hvv : qv.1 = v := (Option.some.inj ev).symm
    rw [hvv] at g1
    have hcls := (X.1.2.1.1.1 ci _ hc).2
    obtain ⟨kA, comp, k1, k2, k3, -⟩ := (X.1.2.1.2.1 i _ hi).2
    have hcomp : comp = D.1.1 ci := Option.some.inj (k3.symm.trans hcls.1)
    subst hcomp
    obtain ⟨kC, hkC, -⟩ := hcls.2
    exact W.aast X.1.1.1 X.1.1.2.1 (X.2.1.2.1 a _ h5) (fun q h => by cases h) (fun h => by cases h) k1 k2 rfl hkC ⟨h0, by show _ < (arrV _ _ _).slots.size; rw [arrV_size]; exact hlt⟩ g1 (fun q h => by rw [g3] at h; cases h) (by rw [g2]; exact hkC) (by rw [g2]; exact va_assign hcls) rfl rfl hd fun H1 e1 z1 oq => kk _ h2 p l e R s m args below meth c A H1 _ k n lsA (x_wrote X h5 (fin H1 locs e1) z1 oq)
/-! ENDS -/
theorem x_done {p : Program} {l : Launch} {R : Room} {s : State} {m : MethodId} {args : Array Value} {below : List Frame} {meth : Method} {c : Code} {A : Nat → Prop} {H : Heap} {locs : List Loc} {k n : Nat} {lsA : Array Slot} {v : Option Value} (X : xX M D d S0 ls S p l R s m args meth c A H locs k n lsA) (t : State) (h : MQ below (fun _ _ o t => o = .returned v ∧ t.heap = H) args s k n A t) : xQ D S0 (.inl v, S) below s A t := by
  obtain ⟨o, h1, h2, ⟨h3, h4⟩, L, ⟨-, h6, h7⟩, h8⟩ := h
  refine ⟨o, h1, h2, h3, by rw [h4]; exact X.2.1, h6, ⟨L, k, n, h7, X.2.2.2.2.2.1, X.2.2.2.2.2.2.1, h8⟩, X.2.2.2.1, X.2.2.1.F h4, X.2.2.2.2.1⟩
theorem x_iret {v : Int32} (hr : M.2.2.2.1 = some .int) (hd : decode M.2.1 pc = .ok (.ireturn, 1)) : V M D d S0 (.inl (some (.int v)), S) pc ls [.int v] S :=
  fun p l e R s m args below meth c A H locs k n lsA X => W.mono (x_done X) (W.iret (Qc := fun _ _ o t => o = .returned (some (.int v)) ∧ t.heap = H) X.1.1.1 X.1.1.2.1 (X.1.1.2.2.2.1.trans hr) (fun t ht _ => ⟨rfl, ht⟩) X.2.2.1.2.2 hd X.1.1.2.2.2.2.2.2.2.1)
theorem x_zret {v : Int32} (hr : M.2.2.2.1 = some .boolean) (hv : v = 0 ∨ v = 1) (hd : decode M.2.1 pc = .ok (.ireturn, 1)) : V M D d S0 (.inl (some (.int v)), S) pc ls [.int v] S :=
  fun p l e R s m args below meth c A H locs k n lsA X => W.mono (x_done X) (W.zret (Qc := fun _ _ o t => o = .returned (some (.int v)) ∧ t.heap = H) X.1.1.1 X.1.1.2.1 (X.1.1.2.2.2.1.trans hr) (by rcases hv with rfl | rfl <;> decide) (fun t ht _ => ⟨rfl, ht⟩) X.2.2.1.2.2 hd X.1.1.2.2.2.2.2.2.2.1)
theorem x_vret (hr : M.2.2.2.1 = none) (hd : decode M.2.1 pc = .ok (.return_, 1)) : V M D d S0 (.inl none, S) pc ls [] S :=
  fun p l e R s m args below meth c A H locs k n lsA X => W.mono (x_done X) (W.vret (Qc := fun _ _ o t => o = .returned none ∧ t.heap = H) X.1.1.1 X.1.1.2.1 (X.1.1.2.2.2.1.trans hr) (fun t ht _ => ⟨rfl, ht⟩) X.2.2.1.2.2 hd X.1.1.2.2.2.2.2.2.2.1)
theorem x_aret {C : String} {x : Option Nat} (hr : M.2.2.2.1 = some (.object C)) (hd : decode M.2.1 pc = .ok (.areturn, 1)) : V M D d S0 (.inl (some (va_rf x)), S) pc ls [va_rf x] S :=
  fun p l e R s m args below meth c A H locs k n lsA X => W.mono (x_done X) (W.aret (Qc := fun _ _ o t => o = .returned (some (va_rf x)) ∧ t.heap = H) X.1.1.1 X.1.1.2.1 (X.1.1.2.2.2.1.trans hr) (Or.inl ⟨_, rfl⟩) (va_rf_or x) (fun t ht _ => ⟨rfl, ht⟩) X.2.2.1.2.2 hd X.1.1.2.2.2.2.2.2.2.1)
/-- the script -/
def xsld (sc : Nat × Nat × (Nat → Int32)) (w : Int32) : Option Int32 := if ¬ (w < 0 ∨ sc.2.1 ≤ w.toNatClampNeg) then some (sc.2.2 w.toNatClampNeg) else none
theorem x_sld {w : Int32} {F : Int32 → Option α} {z : α} (hm : M.1.name = "law") (h : (xsld D.2.2 w).bind F = some z) (hd : decode M.2.1 pc = .ok (.iaload, 1)) (kk : ∀ v, F v = some z → V M D d S0 r (pc + 1) ls (.int v :: st) S) : V M D d S0 r pc ls (.int w :: va_rf (some D.2.2.1) :: st) S := by
  obtain ⟨v, h1, h2⟩ := Option.bind_eq_some_iff.mp h
  unfold xsld at h1
  split at h1
  case isFalse => cases h1
  rename_i hin
  cases h1
  intro p l e R s m args below meth c A H locs k n lsA X
  have hl := X.1.2.2.2.2.2.2.2.2.1 hm
  exact va_sld X.1.1.1 X.1.1.2.1 hl.1 hl.2.1 hl.2.2 X.2.2.1 hin hd (kk _ h2 p l e R s m args below meth c A H locs k n lsA X)
theorem x_slen (hm : M.1.name = "law") (hd : decode M.2.1 pc = .ok (.arraylength, 1)) (kk : V M D d S0 r (pc + 1) ls (.int (Int32.ofNat D.2.2.2.1) :: st) S) : V M D d S0 r pc ls (va_rf (some D.2.2.1) :: st) S := by
  intro p l e R s m args below meth c A H locs k n lsA X
  have hl := X.1.2.2.2.2.2.2.2.2.1 hm
  exact va_slen X.1.1.1 X.1.1.2.1 hl.1 hl.2.1 hl.2.2 X.2.2.1 hd (kk p l e R s m args below meth c A H locs k n lsA X)
end XMAKE
end
section
/-! CALLS -/
def xcode (M : xM) : Cond := match M.2.2.2.2 with
  | [] => .code M.1 M.2.1 M.2.2.1 M.2.2.2.1
  | hs => .codeWith M.1 M.2.1 M.2.2.1 M.2.2.2.1 hs
theorem xcode_spec {M : xM} {args : Array Value} {s : State} {m : MethodId} (hn : s.methodNamed? M.1 = some m) (h : (xcode M).before args s = true) :
    ∃ meth c, s.vm.method? m = some meth ∧ meth.code = some c ∧ c.code = M.2.1 ∧ c.maxLocals = M.2.2.1 ∧ meth.sig.returnType = M.2.2.2.1 ∧ meth.locks = false ∧ c.exceptionTable.toList.map (fun h => (h.startPc, h.endPc, h.handlerPc, h.catchType)) = M.2.2.2.2 ∧ parseMethodDescriptor M.1.desc = some meth.sig := by
  obtain ⟨y, cc, nL, ret, hs⟩ := M
  cases hs with
  | nil =>
    obtain ⟨meth, c, h1, h2, h3, h4, h5, h6, h7, h8⟩ := Cond.code_spec (x := y) (bytes := cc) (maxLocals := nL) (ret := ret) hn h
    exact ⟨meth, c, h1, h2, h3, h4, h5, h6, by rw [Array.isEmpty_iff.mp h7]; rfl, h8⟩
  | cons a t =>
    obtain ⟨m', meth, c, e, h1, h2, h3, h4, h5, h6, h7, h8⟩ := Cond.codeWith_spec (x := y) (bytes := cc) (maxLocals := nL) (ret := ret) (handlers := a :: t) h
    cases hn.symm.trans e
    exact ⟨meth, c, h1, h2, h3, h4, h6, h7, h5, h8⟩
theorem xcode_named {M : xM} {args : Array Value} {s : State} (h : (xcode M).before args s = true) : ∃ m, s.methodNamed? M.1 = some m := by
  obtain ⟨y, cc, nL, ret, hs⟩ := M
  cases hs with
  | nil => exact Cond.code_named (x := y) (bytes := cc) (maxLocals := nL) (ret := ret) h
  | cons a t =>
    obtain ⟨m', meth, c, e, -⟩ := Cond.codeWith_spec (x := y) (bytes := cc) (maxLocals := nL) (ret := ret) (handlers := a :: t) h
    exact ⟨m', e⟩
def xRoom (d : Nat) (S : xS) : Room := { frames := d, cells := S.2.2.2.1 - S.2.1, slots := S.2.2.2.2 - S.2.2.1, locals := xL * d }
def xMet (l : Launch) (M : xM) (D : xD) (d : Nat) (ax : List xV) (S : xS) (r : xRes) : Prop := l.stackTraces = false →
  MetFree l M.1 (headSpec (xcode M :: xT) (xRoom d S)) (fun v U => v = (ax.map xval).toArray ∧ xR D S U.heap ∧ xK D U ∧ xZ (xA S) U U.heap) (fun _ _ _ _ _ => True) (fun _ st o t => xEnd D S r (xA S) st o t)
def xwid : List xV → Nat
  | [] => 0
  | v :: vs => (if xtwo v = true then 2 else 1) + xwid vs
theorem xwid_eq (ax : List xV) : (lg_sl (ax.map xval)).length = xwid ax := by
  induction ax with
  | nil => rfl
  | cons v vs ih =>
    have h : ((xval v).category = 2) = (xtwo v = true) := by rw [← xval_cat]; simp
    simp only [lg_sl, List.map_cons, List.flatMap_cons, List.length_append, xwid] at ih ⊢
    rw [ih]
    simp only [h]
    split <;> rfl
theorem x_ofV {M : xM} {D : xD} {d : Nat} {ax : List xV} {S : xS} {r : xRes} {l : Launch} (hp : plainName M.1.cls = true) (hnl : M.1.name ≠ "law") (hlen : xwid ax ≤ M.2.2.1) (h : V M D d S r 0 (xargs 0 ax) [] S) : xMet l M D d ax S r := by
  intro hst
  refine MetFree.of_bodyS (code := M.2.1) (maxLocals := M.2.2.1) (ret := M.2.2.2.1) hp ?_ ?_
  · intro args s m hpre hn
    obtain ⟨meth, c, h1, h2, h3, h4, h5, h6, -, -⟩ := xcode_spec hn (atoms_spec (ws := xcode M :: xT) hpre _ List.mem_cons_self)
    exact ⟨meth, c, h1, h2, h3, h4, h5, h6⟩
  · intro p e s m args below meth c s₁ B hml hP _
    obtain ⟨rfl, hR, hK, hZ⟩ := hP
    have hh0 : s₁.heap = s.heap := by rw [B.state]; rfl
    have hts := atoms_spec (ws := xcode M :: xT) B.pre
    obtain ⟨meth', c', q1, q2, q3, q4, q5, q6, q7, q8⟩ := xcode_spec B.named (hts _ List.mem_cons_self)
    cases B.method.symm.trans q1
    cases (Stand.of_body B).code.symm.trans q2
    have key := h p l e (xRoom d S) s m (ax.map xval).toArray below meth c (xA S) s.heap [] 0 0 _ ⟨⟨⟨B.exec, B.bytes, hml, B.returns, findClass_of_methodNamed B.named, (name_of_methodNamed B.named B.method).1, fun w hw => hts w (List.mem_cons_of_mem _ hw), B.notSynchronized, q7⟩, hK, hR.1, fun q hq => Or.inr (by rw [← hR.1]; exact hq), Nat.le_refl _, Nat.le_refl _, by show _ ≤ _ + (_ - _); omega, by show _ ≤ _ + (_ - _); omega, fun h => absurd h hnl, hst, hZ⟩, hR, va_S.rf, fun q hq => Or.inl hq, rfl, rfl, rfl, by rw [← xlv_args]; exact lv_entry (ax.map xval) (by rw [xwid_eq]; exact hlen)⟩
    rw [← lg_entry_eq] at key
    obtain ⟨t, a1, o, b1, b2, b3⟩ := key s₁ hh0 (Stand.of_body B)
    exact ⟨t, o, a1, b1, b2, b3⟩
section XCALL
variable {p : Program} {l : Launch} {e : Env} {R : Room} {s : State} {m : MethodId} {args : Array Value} {below : List Frame} {meth : Method} {c : Code} {T : State} {locs : List Loc} {k n : Nat}
/-- a method that has an end is entered from the frame g and comes to it -/
theorem x_enter (X : Stand p l e R s m args below meth c T locs k n) {M' : xM} {D : xD} {d' : Nat} {ax : List xV} {S : xS} {r1 : xRes} (hM : xMet l M' D d' ax S r1) {g : JFrame} (hg : g.method = m) (hsize : g.locals.size = c.maxLocals) {ig : Instr} {len : Nat} (hdg : decode c.code g.pc = .ok (ig, len)) {mk : MethodId} (hn : s.methodNamed? M'.1 = some mk) (hts : ∀ w ∈ xT, w.before args s = true) (hcode : xcode M' ∈ xT) (hini : Cond.initialized M'.1.cls ∈ xT) (hframes : d' + 1 ≤ R.frames) (hlocals : 2 * g.monitorRoom + (g.stack.map fun v => v.category).sum + (M'.2.2.1 + 11) + xL * d' ≤ R.locals) (hcells : k + (S.2.2.2.1 - S.2.1) ≤ R.cells) (hslots : n + (S.2.2.2.2 - S.2.2.1) ≤ R.slots) (hR : xR D S T.heap) (hK : xK D s) (hst : l.stackTraces = false) (hZ : xZ (xA S) T T.heap) :
    ∃ (o : Outcome) (t : State), Steps p.tables e below (doInvoke e (T.setTop g) [] mk (ax.map xval).toArray).1 t ∧ Ended t (.java g :: below) o ∧ xEnd D S r1 (xA S) (T.calling g mk (ax.map xval).toArray) o t := by
  have hw : ∀ w ∈ xT, ∀ a' : Array Value, w.before a' T = true := fun w h a' => x_word X.warmed (xT_good h) (hts w h)
  have hn' : T.methodNamed? M'.1 = some mk := X.named hn
  obtain ⟨methY, cY, hmY, hcY, -, hlY, -, -, -, -⟩ := xcode_spec hn' (hw _ hcode #[])
  obtain ⟨kY, hkY, -⟩ := className_of_methodNamed hn'
  have hinitY : kY.init = .initialized := Cond.initialized_spec (findClass_of_methodNamed hn') hkY (hw _ hini #[])
  have h : At T g.method c below := by rw [hg]; exact X.here
  have happ : (headSpec (xcode M' :: xT) (xRoom d' S)).appliesLoose M'.1 e.platform (T.calling g mk (ax.map xval).toArray) = true :=
    Spec.appliesLoose_calling (g := g) h hdg hn' hkY hinitY
      (X.room_calling (g := g) (R' := xRoom d' S) hsize hmY hcY hframes (by rw [hlY]; exact hlocals) hcells hslots) (atoms_intro fun w hw' => by
        rcases List.mem_cons.mp hw' with rfl | h1
        · exact hw _ hcode _
        · exact hw _ h1 _)
  obtain ⟨mid, hmid⟩ := h.above
  have hfr : (T.setTop g).frames = (.java g :: mid) ++ below := by rw [State.frames_setTop' g h.top, hmid]; rfl
  obtain ⟨o, s₂, hsteps, -, hend, hq⟩ := Steps.callFree (hM hst) p X.admits X.cas X.clock (acts := []) hfr happ ⟨rfl, hR, xK.moved X.warmed.alike hK, hZ⟩ trivial
  rw [State.frames_setTop' g h.top, X.tail] at hend
  exact ⟨o, s₂, hsteps, hend, hq⟩
end XCALL
section XCALLS
variable {M : xM} {D : xD} {d : Nat} {S0 : xS} {r : xRes} {pc : Nat} {ls : List (Nat × xV)} {st stk : List Value} {S : xS}
/-- the link of a method: in its own class, or in a nest mate's -/
def xml (own : String) (index : Nat) (y : MethodName) (host : Option String) : Cond := match host with
  | none => .methodLink own index y
  | some h => .methodLinkNest own index y h
/-- the handler at hpc is the one that takes a throw of class e at pc -/
def xHnd (own : String) (hs : List (Nat × Nat × Nat × Nat)) (pc e hpc : Nat) : Prop := e < 3 ∧ Cond.castable (xE e) (xE e) ∈ xT ∧ ∃ (pre : List (Nat × Nat × Nat × Nat)) (st en ct : Nat) (suf : List (Nat × Nat × Nat × Nat)), hs = pre ++ (st, en, hpc, ct) :: suf ∧ st ≤ pc ∧ pc < en ∧ ct ≠ 0 ∧ Cond.classLink own ct (xE e) ∈ xT ∧ ∀ q ∈ pre, q.2.2.2 ≠ 0 ∧ ∃ j : Nat, j < 3 ∧ j ≠ e ∧ Cond.classLink own q.2.2.2 (xE j) ∈ xT
/-- what a throw in a method does, at a pc: it leaves a method that has no handlers; else a handler takes it -/
def xThrown (M : xM) (D : xD) (d : Nat) (S0 : xS) (r : xRes) (pc : Nat) (ls : List (Nat × xV)) (e : Nat) (S : xS) : Prop := match M.2.2.2.2 with
  | [] => r = (.inr e, S)
  | hs => ∃ hpc, xHnd M.1.cls hs pc e hpc ∧ ∀ a : Nat, V M D d S0 r hpc ls [va_rf (some a)] S
/-- behind a call -/
def xAfter (M : xM) (D : xD) (d : Nat) (S0 : xS) (r : xRes) (pc : Nat) (ls : List (Nat × xV)) (st : List Value) (r1 : xRes) : Prop := match r1.1 with
  | .inl v => V M D d S0 r (pc + 3) ls (v.toList ++ st) r1.2
  | .inr e => xThrown M D d S0 r pc ls e r1.2
/-- a state that throws, in a method without handlers -/
theorem x_leave {p : Program} {l : Launch} {e : Env} {R : Room} {s : State} {m : MethodId} {args : Array Value} {below : List Frame} {meth : Method} {c : Code} {A : Nat → Prop} {T : State} {locs : List Loc} {k n : Nat} {ls : List (Nat × xV)} {lsA : Array Slot} {ec a : Nat} {cell : Cell} (X : xX M D d S0 ls S p l R s m args meth c A T.heap locs k n lsA) (Xs : Stand p l e R s m args below meth c T locs k n) (hh : M.2.2.2.2 = []) (h1 : T.heap[a]? = some cell) (h2 : cell.vm = .none) (h3 : T.vm.findClass (xE ec) = some cell.cls) :
    ∃ t, Steps p.tables e below ((T.setTop (F0 m pc lsA st)).pushFrame (.throwing a)) t ∧ xQ D S0 (.inr ec, S) below s A t := by
  have hl : meth.locks = false := X.1.1.2.2.2.2.2.2.2.1
  have hout : ∀ x ∈ c.exceptionTable.toList, covers x pc = false := by
    have h := X.1.1.2.2.2.2.2.2.2.2
    rw [hh] at h
    rw [List.map_eq_nil_iff.mp h]
    exact fun x hx => by cases hx
  obtain ⟨l1, l2, l3, l4, l5⟩ := Xs.leaveThrown a (g := F0 m pc lsA st) rfl rfl rfl hout hl
  exact ⟨_, l1, .threw a, l2, l3, ⟨a, cell, rfl, h1, h2, h3⟩, X.2.1, l4, ⟨locs, k, n, l5, X.2.2.2.2.2.1, X.2.2.2.2.2.2.1, X.2.2.1.2.2⟩, X.2.2.2.1, X.2.2.1.F rfl, X.2.2.2.2.1⟩
theorem x_caught {hpc : Nat} {p : Program} {l : Launch} {e : Env} {R : Room} {s : State} {m : MethodId} {args : Array Value} {below : List Frame} {meth : Method} {c : Code} {A : Nat → Prop} {T : State} {locs : List Loc} {k n : Nat} {ls : List (Nat × xV)} {lsA : Array Slot} {ec a : Nat} {cell : Cell} (X : xX M D d S0 ls S p l R s m args meth c A T.heap locs k n lsA) (Xs : Stand p l e R s m args below meth c T locs k n) (hh : xHnd M.1.cls M.2.2.2.2 pc ec hpc) (h1 : T.heap[a]? = some cell) (h2 : cell.vm = .none) (h3 : T.vm.findClass (xE ec) = some cell.cls) (kk : V M D d S0 r hpc ls [va_rf (some a)] S) :
    ∃ t, Steps p.tables e below ((T.setTop (F0 m pc lsA st)).pushFrame (.throwing a)) t ∧ xQ D S0 r below s A t := by
  obtain ⟨he, hcast, pre, sp, en, ct, suf, hsp, hp1, hp2, h0, hlink, hpre⟩ := hh
  have hts := X.1.1.2.2.2.2.2.2.1
  have htab := X.1.1.2.2.2.2.2.2.2.2
  rw [hsp] at htab
  obtain ⟨pre', suf', e1, e2, e3⟩ := List.map_eq_append_iff.mp htab
  obtain ⟨x, suf2, e4, e5, e6⟩ := List.map_eq_cons_iff.mp e3
  have hcl : s.vm.findClass (xE ec) = some cell.cls := by rw [← Xs.warmed.alike.findClass]; exact h3
  have hpl : e.platform.magicAccessors = ({} : Platform).magicAccessors := by rw [Xs.admits.platform]
  obtain ⟨c3, c4, hc3, hc4, hasg⟩ := Cond.castable_spec (hts _ hcast)
  cases Option.some.inj (hc3.symm.trans hcl)
  obtain ⟨c5, hc5, hcl5⟩ := Cond.classLink_spec X.1.1.2.2.2.2.1 (hts _ hlink) e.platform hpl
  cases Option.some.inj (hc4.symm.trans hc5)
  have ex : x.startPc = sp ∧ x.endPc = en ∧ x.handlerPc = hpc ∧ x.catchType = ct := by
    simp only [Prod.mk.injEq] at e5
    exact e5
  obtain ⟨x1, x2, x3, x4⟩ := ex
  obtain ⟨vm', X', stp⟩ := Xs.thenCaughtThrough a (g := F0 m pc lsA st) rfl (Steps.refl _) h1 (by rw [h2]; rfl) (by obtain ⟨k9, h9, -⟩ := Vm.findClass_spec hcl; exact ⟨k9, h9⟩) pre' x suf2 (by rw [e1, e4])
    (fun z hz => by
      obtain ⟨hz0, j, hj, hje, hl1⟩ := hpre _ (by rw [← e2]; exact List.mem_map.mpr ⟨z, hz, rfl⟩)
      obtain ⟨c6, hc6, hcl6⟩ := Cond.classLink_spec X.1.1.2.2.2.2.1 (hts _ hl1) e.platform hpl
      obtain ⟨a8, b8, g1, g2, g3⟩ := X.1.2.1.2.2 ec j he hj (Ne.symm hje)
      cases Option.some.inj (g1.symm.trans hcl)
      cases Option.some.inj (g2.symm.trans hc6)
      exact Or.inr ⟨hz0, _, hcl6, g3⟩) (by simp [covers, x1, x2, hp1, hp2]) (Or.inr ⟨by rw [x4]; exact h0, c4, by rw [x4]; exact hcl5, hasg⟩)
  rw [x3] at stp
  obtain ⟨t, a1, b1⟩ := kk p l e R s m args below meth c A T.heap locs k n lsA X (T.setVm vm') rfl X'
  exact ⟨t, stp.trans a1, b1⟩
/-- behind the step that invokes -/
theorem x_behind {M' : xM} {d' : Nat} {ax : List xV} {r1 : xRes} {p : Program} {l : Launch} {e : Env} {R : Room} {s : State} {m : MethodId} {args : Array Value} {below : List Frame} {meth : Method} {c : Code} {A : Nat → Prop} {T : State} {locs : List Loc} {k n : Nat} {lsA : Array Slot} {vm₁ : Vm} {ig : Instr} {mk : MethodId} {g : JFrame}
    (X : xX M D (d' + 1) S0 ls S p l R s m args meth c A T.heap locs k n lsA) (hM : xMet l M' D d' ax S r1) (X₁ : Stand p l e R s m args below meth c (T.setVm vm₁) locs k n)
    (hstep : ∀ target, (∀ acts, Steps p.tables e below (doInvoke e ((T.setVm vm₁).setTop (F0 m pc lsA st)) acts mk (ax.map xval).toArray).1 target) → Steps p.tables e below (T.setTop g) target)
    (hdg : decode M.2.1 pc = .ok (ig, 3)) (hn : s.methodNamed? M'.1 = some mk) (hcode : xcode M' ∈ xT) (hini : Cond.initialized M'.1.cls ∈ xT) (hst : (st.map fun v => v.category).sum ≤ 8) (hL : M'.2.2.1 + 19 ≤ xL)
    (kk : xAfter M D (d' + 1) S0 r pc ls st r1) : ∃ t, Steps p.tables e below (T.setTop g) t ∧ xQ D S0 r below s A t := by
  have hlv := X.2.2.2.2.2.2.2
  have hsize : lsA.size = c.maxLocals := hlv.1.trans X.1.1.2.2.1.symm
  have hfr : d' + 1 ≤ R.frames := X.1.2.2.2.2.1
  have hlo : xL * (d' + 1) ≤ R.locals := X.1.2.2.2.2.2.1
  have c1 := X.1.2.2.2.2.2.2.1
  have c2 := X.1.2.2.2.2.2.2.2.1
  have e0 := X.2.2.2.2.1
  have e1 : S.2.2.2.1 = S0.2.2.2.1 := by rw [e0]
  have e2 : S.2.2.2.2 = S0.2.2.2.2 := by rw [e0]
  have e3 := X.2.2.2.2.2.1
  have e4 := X.2.2.2.2.2.2.1
  have e5 := X.2.1.2.2
  have hAA : ∀ q, xA S q → A q := fun q hq => by
    rcases hq with hq | hq
    · exact X.2.2.2.1 q hq
    · refine X.1.2.2.2.1 q (Nat.le_trans X.2.2.1.1 ?_)
      rw [X.2.1.1]; exact hq
  have hZ : xZ (xA S) (T.setVm vm₁) (T.setVm vm₁).heap := ((X.1.2.2.2.2.2.2.2.2.2.2.kept (H1 := T.heap) X.2.2.1.2.1).narrow hAA).moved X₁.warmed.alike
  obtain ⟨o, t, hs, hend, hE⟩ := x_enter X₁ hM (g := F0 m pc lsA st) rfl hsize (by rw [X.1.1.2.1]; exact hdg) hn X.1.1.2.2.2.2.2.2.1 hcode hini hfr (by
    have h0 : 2 * (F0 m pc lsA st).monitorRoom + (st.map fun v => v.category).sum ≤ 8 := lv_room (rest := st) hst
    show 2 * (F0 m pc lsA st).monitorRoom + (st.map fun v => v.category).sum + (M'.2.2.1 + 11) + xL * d' ≤ R.locals
    rw [Nat.mul_succ] at hlo
    omega) (by omega) (by omega) X.2.1 X.1.2.1 X.1.2.2.2.2.2.2.2.2.2.1 hZ
  obtain ⟨ho, hR1, hW1, ⟨L, k1, n1, hsame, hk1, hn1, hLA⟩, hdom, hF, hlim⟩ := hE
  have hsz : T.heap.size ≤ t.heap.size := hF.1
  have hS1 : va_S A s.heap t.heap (locs ++ L) := by
    refine ⟨Nat.le_trans X.2.2.1.1 hsz, fun q h1 h2 => ?_, fun y hy => ?_⟩
    · exact (hF.2 q (Nat.lt_of_lt_of_le h1 X.2.2.1.1) (fun h => h2 (hAA q h))).trans (X.2.2.1.2.1 q h1 h2)
    · rcases List.mem_append.mp hy with h | h
      · exact X.2.2.1.2.2 y h
      · exact hAA _ (hLA y h)
  unfold xAfter at kk
  cases hr : r1.1 with
  | inl v =>
    rw [hr] at ho kk
    have kk : V M D (d' + 1) S0 r (pc + 3) ls (v.toList ++ st) r1.2 := kk
    obtain rfl : o = .returned v := ho
    obtain ⟨T', X', hW', hsm, ht⟩ := X₁.outOf (g := F0 m pc lsA st) rfl (by rw [X.1.1.2.1]; exact hdg) hend hW1 hsame
    have hh : t.heap = T'.heap := by rw [ht]; rfl
    rw [hh] at hR1 hS1
    obtain ⟨t2, a1, b1⟩ := kk p l e R s m args below meth c A T'.heap (locs ++ L) (k + k1) (n + n1) lsA ⟨X.1, hR1, hS1, fun q hq => hAA q (hdom q hq), hlim.trans e0, by omega, by omega, hlv⟩ T' rfl X'
    refine ⟨t2, hstep _ (fun acts => ?_), b1⟩
    rw [doInvoke_state]
    refine hs.trans ?_
    rw [ht]
    exact a1
  | inr ec =>
    rw [hr] at ho kk
    have kk : xThrown M D (d' + 1) S0 r pc ls ec r1.2 := kk
    obtain ⟨a, cell, rfl, hc1, hc2, hc3⟩ := ho
    obtain ⟨T', X', hW', hsm, ht⟩ := X₁.outOfThrown (g := F0 m pc lsA st) rfl hend hW1 hsame
    have hh : t.heap = T'.heap := by rw [ht]; rfl
    have hv : t.vm = T'.vm := by rw [ht]; rfl
    rw [hh] at hR1 hS1 hc1
    rw [hv] at hc3
    have X2 : xX M D (d' + 1) S0 ls r1.2 p l R s m args meth c A T'.heap (locs ++ L) (k + k1) (n + n1) lsA := ⟨X.1, hR1, hS1, fun q hq => hAA q (hdom q hq), hlim.trans e0, by omega, by omega, hlv⟩
    have fin : ∃ t2, Steps p.tables e below ((T'.setTop (F0 m pc lsA st)).pushFrame (.throwing a)) t2 ∧ xQ D S0 r below s A t2 := by
      unfold xThrown at kk
      split at kk
      · rename_i hnil
        rw [kk]
        exact x_leave X2 X' hnil hc1 hc2 hc3
      · obtain ⟨hpc, hh1, hh2⟩ := kk
        exact x_caught X2 X' hh1 hc1 hc2 hc3 (hh2 a)
    obtain ⟨t2, a1, b1⟩ := fin
    refine ⟨t2, hstep _ (fun acts => ?_), b1⟩
    rw [doInvoke_state]
    refine hs.trans ?_
    rw [ht]
    exact a1
theorem x_callS {M' : xM} {d' index : Nat} {ax : List xV} {r1 : xRes} {host : Option String} (hM : ∀ l, xMet l M' D d' ax S r1) (hstk : stk = (ax.map xval).reverse ++ st) (hd : decode M.2.1 pc = .ok (.invokestatic index, 3)) (hw : xml M.1.cls index M'.1 host ∈ xT) (hstat : Cond.static M'.1 ∈ xT) (hini : Cond.initialized M'.1.cls ∈ xT) (hcode : xcode M' ∈ xT) (hy : M'.1.cls ≠ "java/lang/invoke/MethodHandle" ∧ M'.1.cls ≠ "java/lang/invoke/VarHandle") (hn : (parseMethodDescriptor M'.1.desc).map (fun q => q.parameters.length) = some ax.length) (hst : (st.map fun v => v.category).sum ≤ 8) (hL : M'.2.2.1 + 19 ≤ xL) (kk : xAfter M D (d' + 1) S0 r pc ls st r1) : V M D (d' + 1) S0 r pc ls stk S := by
  intro p l e R s m args below meth c A H locs k n lsA X T hT Xs
  subst hT
  have hts := X.1.1.2.2.2.2.2.2.1
  obtain ⟨mk, hnamed⟩ := xcode_named (hts _ hcode)
  obtain ⟨methM, cM, hmethM, -, -, -, -, -, -, hsigM⟩ := xcode_spec hnamed (hts _ hcode)
  have hstatic : methM.isStatic = true := Cond.static_spec hnamed hmethM (hts _ hstat)
  obtain ⟨kP, hkP, -⟩ := className_of_methodNamed hnamed
  have hinitP : kP.init = .initialized := Cond.initialized_spec (findClass_of_methodNamed hnamed) hkP (hts _ hini)
  have hlen : (ax.map xval).length = methM.sig.parameters.length := by
    rw [hsigM] at hn
    rw [List.length_map]
    exact (Option.some.inj hn).symm
  have hdc : decode c.code pc = .ok (.invokestatic index, 3) := by rw [X.1.1.2.1]; exact hd
  have h1 : ∃ vm₁, Stand p l e R s m args below meth c (T.setVm vm₁) locs k n ∧ ∀ target, (∀ acts, Steps p.tables e below (doInvoke e ((T.setVm vm₁).setTop (F0 m pc lsA st)) acts mk (ax.map xval).toArray).1 target) → Steps p.tables e below (T.setTop (F0 m pc lsA stk)) target := by
    cases host with
    | none => exact Xs.invokestatic X.1.1.1 X.1.1.2.2.2.2.1 (hts _ hw) hnamed hmethM hstatic hkP hinitP hy (g := F0 m pc lsA stk) rfl (argsL := ax.map xval) (rest := st) hlen hstk hdc
    | some h => exact Xs.invokestaticNest X.1.1.1 X.1.1.2.2.2.2.1 (hts _ hw) hnamed hmethM hstatic hkP hinitP hy (g := F0 m pc lsA stk) rfl (argsL := ax.map xval) (rest := st) hlen hstk hdc
  obtain ⟨vm₁, X₁, hstep₁⟩ := h1
  exact x_behind X (hM l) X₁ hstep₁ hd hnamed hcode hini hst hL kk
theorem x_callV {M' : xM} {d' index ci b : Nat} {C : String} {T0 : u_T} {N : Nat} {fs : List Value} {ax : List xV} {r1 : xRes} {host : Option String} (hM : ∀ l, xMet l M' D d' (.inr (.inr (some b)) :: ax) S r1) (hb : S.1 b = some (.inr (ci, fs))) (hc : xCl[ci]? = some (C, T0, N)) (hstk : stk = (ax.map xval).reverse ++ va_rf (some b) :: st) (hd : decode M.2.1 pc = .ok (.invokevirtual index, 3)) (hw : xml M.1.cls index M'.1 host ∈ xT) (hinst : Cond.instanceMethod M'.1 ∈ xT) (hsel : Cond.selects C M'.1 M'.1 ∈ xT) (hini : Cond.initialized M'.1.cls ∈ xT) (hcode : xcode M' ∈ xT) (hy : M'.1.cls ≠ "java/lang/invoke/MethodHandle" ∧ M'.1.cls ≠ "java/lang/invoke/VarHandle") (hn : (parseMethodDescriptor M'.1.desc).map (fun q => q.parameters.length) = some ax.length) (hst : (st.map fun v => v.category).sum ≤ 8) (hL : M'.2.2.1 + 19 ≤ xL) (kk : xAfter M D (d' + 1) S0 r pc ls st r1) : V M D (d' + 1) S0 r pc ls stk S := by
  intro p l e R s m args below meth c A H locs k n lsA X T hT Xs
  subst hT
  have hts := X.1.1.2.2.2.2.2.2.1
  obtain ⟨mk, methM, hnamed, hmethM, hstM, habM⟩ := Cond.instanceMethod_spec (hts _ hinst)
  obtain ⟨methM', cM, hmethM', -, -, -, -, -, -, hsigM⟩ := xcode_spec hnamed (hts _ hcode)
  cases hmethM.symm.trans hmethM'
  obtain ⟨r', hr', cellB, g1, g2, g3, -⟩ := X.2.1.2.1 b _ hb
  have hcls : s.vm.findClass C = some cellB.cls := by rw [g2]; exact (X.1.2.1.1.1 ci _ hc).2.1
  obtain ⟨c2, r2, m2, q1, q2, q3, q4, kP, hkP, hkPi⟩ := Cond.selects_spec (hts _ hsel)
  cases hcls.symm.trans q1
  cases (State.methodFound?_of_named hnamed hy).symm.trans q2
  cases hnamed.symm.trans q3
  have hselP : selectMethod e.platform s.vm cellB.cls mk = .method mk := by rw [Launch.admits_selectMethod Xs.admits]; exact q4
  have hlen : (ax.map xval).length = methM.sig.parameters.length := by
    rw [hsigM] at hn
    rw [List.length_map]
    exact (Option.some.inj hn).symm
  have hdc : decode c.code pc = .ok (.invokevirtual index, 3) := by rw [X.1.1.2.1]; exact hd
  have h1 : ∃ vm₁, Stand p l e R s m args below meth c (T.setVm vm₁) locs k n ∧ ∀ target, (∀ acts, Steps p.tables e below (doInvoke e ((T.setVm vm₁).setTop (F0 m pc lsA st)) acts mk ((.inr (.inr (some b)) :: ax).map xval).toArray).1 target) → Steps p.tables e below (T.setTop (F0 m pc lsA stk)) target := by
    cases host with
    | none => exact Xs.invokevirtual X.1.1.1 X.1.1.2.2.2.2.1 (hts _ hw) hnamed hmethM hstM hkP hkPi hy (a := b) (cell := cellB) g1 (fun z h => by rw [g3] at h; cases h) hselP hmethM habM hkP hkPi (g := F0 m pc lsA stk) rfl (argsL := ax.map xval) (rest := st) hlen hstk hdc
    | some h => exact Xs.invokevirtualNest X.1.1.1 X.1.1.2.2.2.2.1 (hts _ hw) hnamed hmethM hstM hkP hkPi hy (a := b) (cell := cellB) g1 (fun z h => by rw [g3] at h; cases h) hselP hmethM habM hkP hkPi (g := F0 m pc lsA stk) rfl (argsL := ax.map xval) (rest := st) hlen hstk hdc
  obtain ⟨vm₁, X₁, hstep₁⟩ := h1
  exact x_behind X (hM l) X₁ hstep₁ hd hnamed hcode hini hst hL kk
theorem x_callI {M' : xM} {d' index b : Nat} {bytes : ByteArray} {maxL : Nat} {ax : List xV} {r1 : xRes} {host : Option String} (hM : ∀ l, xMet l M' D d' (.inr (.inr (some b)) :: ax) S r1) (hM0 : xcode M' = .code M'.1 bytes maxL none) (hname : M'.1.name = "<init>") (hstk : stk = (ax.map xval).reverse ++ va_rf (some b) :: st) (hd : decode M.2.1 pc = .ok (.invokespecial index, 3)) (hw : xml M.1.cls index M'.1 host ∈ xT) (hinst : Cond.instanceMethod M'.1 ∈ xT) (hini : Cond.initialized M'.1.cls ∈ xT) (hcode : xcode M' ∈ xT) (hy : M'.1.cls ≠ "java/lang/invoke/MethodHandle" ∧ M'.1.cls ≠ "java/lang/invoke/VarHandle") (hn : (parseMethodDescriptor M'.1.desc).map (fun q => q.parameters.length) = some ax.length) (hst : (st.map fun v => v.category).sum ≤ 8) (hL : M'.2.2.1 + 19 ≤ xL) (kk : xAfter M D (d' + 1) S0 r pc ls st r1) : V M D (d' + 1) S0 r pc ls stk S := by
  intro p l e R s m args below meth c A H locs k n lsA X T hT Xs
  subst hT
  have hts := X.1.1.2.2.2.2.2.2.1
  have hcd := hts _ hcode
  rw [hM0] at hcd
  have hpl : e.platform.magicAccessors = ({} : Platform).magicAccessors := by rw [Xs.admits.platform]
  have hlen : ∀ sig, parseMethodDescriptor M'.1.desc = some sig → (ax.map xval).length = sig.parameters.length := fun sig h => by
    rw [h] at hn
    rw [List.length_map]
    exact (Option.some.inj hn).symm
  have hdc : decode c.code pc = .ok (.invokespecial index, 3) := by rw [X.1.1.2.1]; exact hd
  have h1 : ∃ mk vm₁, s.methodNamed? M'.1 = some mk ∧ Stand p l e R s m args below meth c (T.setVm vm₁) locs k n ∧ ∀ target, (∀ acts, Steps p.tables e below (doInvoke e ((T.setVm vm₁).setTop (F0 m pc lsA st)) acts mk ((.inr (.inr (some b)) :: ax).map xval).toArray).1 target) → Steps p.tables e below (T.setTop (F0 m pc lsA stk)) target := by
    cases host with
    | none =>
      obtain ⟨mk, methM, cM, kP, vm₁, hnamed, -, -, -, -, -, -, -, hW₁, hstep₁⟩ := Steps.initColdArgs (e := e) Xs.here X.1.1.1 Xs.warmed hpl X.1.1.2.2.2.2.1 hname hy (hts _ hw) (hts _ hinst) hcd (f := F0 m pc lsA stk) rfl (a := b) (rest := st) hlen hstk hdc
      exact ⟨mk, vm₁, hnamed, Xs.noted hW₁, hstep₁⟩
    | some h =>
      obtain ⟨mk, methM, cM, kP, vm₁, hnamed, -, -, -, -, -, -, -, hW₁, hstep₁⟩ := Steps.initColdArgsNest (e := e) Xs.here X.1.1.1 Xs.warmed hpl X.1.1.2.2.2.2.1 hname hy (hts _ hw) (hts _ hinst) hcd (f := F0 m pc lsA stk) rfl (a := b) (rest := st) hlen hstk hdc
      exact ⟨mk, vm₁, hnamed, Xs.noted hW₁, hstep₁⟩
  obtain ⟨mk, vm₁, hnamed, X₁, hstep₁⟩ := h1
  exact x_behind X (hM l) X₁ hstep₁ hd hnamed hcode hini hst hL kk
theorem x_cats (st : List Value) (h : st.length ≤ 4) : (st.map fun v => v.category).sum ≤ 8 := by
  have key : ∀ st : List Value, (st.map fun v => v.category).sum ≤ 2 * st.length := by
    intro st
    induction st with
    | nil => simp
    | cons v t ih =>
      have hv : v.category ≤ 2 := by cases v <;> simp [Value.category]
      simp only [List.map_cons, List.sum_cons, List.length_cons]
      omega
  have := key st
  omega
theorem x_vkR {own text : String} {k cur : Nat} {args : Array Value} {s : State} (hcur : s.vm.findClass own = some cur) (h : (Cond.stringRef own k text).before args s = true) : ∃ a, vk_R own k text a s := by
  obtain ⟨_, _, _, a, -, -, -, -, -, he⟩ := Cond.stringRef_spec hcur h
  exact ⟨a, vk_R.of h he⟩
/-- 'throw new E("text")' -/
def xthrow {α : Type} (d e : Nat) (S : xS) : Option ((α ⊕ Nat) × xS) := if 8 ≤ d ∧ S.2.1 + 1 ≤ S.2.2.2.1 ∧ S.2.2.1 + 6 ≤ S.2.2.2.2 then some (.inr e, xskip S 6) else none
set_option maxHeartbeats 1000000 in
theorem x_throw0 {ec ik is ic : Nat} {cls text : String} (hE : xE ec = cls) (h8 : 8 ≤ d) (hlim : S.2.1 + 1 ≤ S.2.2.2.1 ∧ S.2.2.1 + 6 ≤ S.2.2.2.2) (hh : M.2.2.2.2 = []) (hcls : Bundle.fit cls = true)
    (hw1 : Cond.classLink M.1.cls ik cls ∈ xT) (hw2 : Cond.initialized cls ∈ xT) (hw3 : Cond.stringRef M.1.cls is text ∈ xT) (hw4 : ∀ w ∈ vx_atS M.1.cls ic cls ["java/lang/RuntimeException", "java/lang/Exception"], w ∈ xT)
    (d0 : decode M.2.1 pc = .ok (.new ik, 3)) (d3 : decode M.2.1 (pc + 3) = .ok (.dup, 1)) (d4 : decode M.2.1 (pc + 4) = .ok (.ldc is, 2)) (d6 : decode M.2.1 (pc + 6) = .ok (.invokespecial ic, 3)) (d9 : decode M.2.1 (pc + 9) = .ok (.athrow, 1)) (hst : st.length ≤ 4) :
    V M D (d + 1) S0 (.inr ec, xskip S 6) pc ls st S := by
  intro p l e R s m args below meth c A H locs k n lsA X T hT Xs
  subst hT
  have hts := X.1.1.2.2.2.2.2.2.1
  have hlocks : meth.locks = false := X.1.1.2.2.2.2.2.2.2.1
  have hout : ∀ x ∈ c.exceptionTable.toList, covers x (pc + 9) = false := by
    have h := X.1.1.2.2.2.2.2.2.2.2
    rw [hh] at h
    rw [List.map_eq_nil_iff.mp h]
    exact fun x hx => by cases hx
  have hexec := X.1.1.1
  have hb := X.1.1.2.1
  have hown := X.1.1.2.2.2.2.1
  have hfr : d + 1 ≤ R.frames := X.1.2.2.2.2.1
  have hlo : xL * (d + 1) ≤ R.locals := X.1.2.2.2.2.2.1
  have hf := x_fit X hlim.1 hlim.2
  have hstc := x_cats st hst
  obtain ⟨sa, hstr⟩ := x_vkR hown (hts _ hw3)
  have htr : e.platform.stackTraces = false := (show e.platform.stackTraces = l.stackTraces by rw [Xs.admits.platform]).trans X.1.2.2.2.2.2.2.2.2.2.1
  have Y := vx_rebase Xs (R' := { frames := R.frames, locals := R.locals, cells := 1, slots := 6 }) (Nat.le_refl _) (Nat.le_refl _) hf.1 hf.2
  obtain ⟨s', hA⟩ : ∃ z, z = (T.setVm s.vm).setFrames (.invoking m args :: below) := ⟨_, rfl⟩
  rw [← hA] at Y
  have hvm : s'.vm = s.vm := by rw [hA]; rfl
  have hhp : s'.heap = T.heap := by rw [hA]; rfl
  have hW0 : s.WarmedH s'.vm := by rw [hvm]; exact State.WarmedH.refl s
  have hw : ∀ w ∈ xT, w.before args s' = true := fun w h => x_word hW0 (xT_good h) (hts w h)
  have hZ' : xZ A s' s'.heap := by
    rw [hhp]
    exact (X.1.2.2.2.2.2.2.2.2.2.2.kept (H1 := T.heap) X.2.2.1.2.1).moved hW0.alike
  have h : ∀ w ∈ Bundle.ownAtoms M.1.cls ic cls ["java/lang/RuntimeException", "java/lang/Exception"], w.before args s' = true := vx_own (fun w hw9 => hw w (hw4 w hw9)) (vx_isRefq hZ'.1.1) (vx_isRefq hZ'.2.1) hZ'.1.2.word hZ'.2.2.word
  have hown' : s'.vm.findClass M.1.cls = some m.cls := by rw [hvm]; exact hown
  have hins : (Cond.instantiable cls 6).before args s' = true := h _ (by simp [Bundle.ownAtoms])
  obtain ⟨vm₁, cX, kX, hfX, hkX, -, -, X₁, st1⟩ := Y.newCold hexec (own := M.1.cls) (C := cls) (index := ik) (n := 6) hown' (hw _ hw1) hins (hw _ hw2)
    (g := F0 m pc lsA st) rfl (by rw [hb]; exact d0) (Nat.le_refl _) (Nat.le_refl _)
  generalize hT1 : (T.setVm vm₁).pushCell { cls := cX, slots := kX.instanceTypes.map defaultValue, vm := .none } = T1 at X₁ st1
  have hcat : (Value.ref T.heap.size).category = 1 := rfl
  have hcellA : T1.heap[T.heap.size]? = some (freshCell cX kX) := by rw [← hT1]; exact State.heap_pushCell_size _ _
  have d3' : decode c.code (pc + 3) = .ok (.dup, 1) := by rw [hb]; exact d3
  have d4' : decode c.code (pc + 4) = .ok (.ldc is, 2) := by rw [hb]; exact d4
  have hstr' : vk_R M.1.cls is text sa s' := vk_R.warm hW0 hstr
  have hx64 : xL = 64 := rfl
  obtain ⟨U, hsteps, hrun, hend, hW, hsame, ce, hce, hO⟩ := X₁.ctorThrowS hexec htr (own := M.1.cls) (cls := cls) (names := ["java/lang/RuntimeException", "java/lang/Exception"]) (ic := ic) hown' hcls (by decide) h (fun x hx => nomatch hx) hfX hkX hcellA (by rw [hhp]; exact Nat.le_refl _) (msg := .ref sa) rfl
    (g := { method := m, pc := pc + 6, locals := lsA, stack := .ref sa :: .ref T.heap.size :: .ref T.heap.size :: st, locked := none }) rfl (X.2.2.2.2.2.2.2.1.trans X.1.1.2.2.1.symm) rfl rfl (rest := st) rfl
    (by rw [hb]; exact d6) (by rw [hb]; exact d9) hout (by simp; omega) (by
      have h0 : 2 * (F0 m pc lsA st).monitorRoom + (st.map fun v => v.category).sum ≤ 8 := lv_room (rest := st) hstc
      have h1 : xL * (d + 1) ≥ 64 * 9 := by rw [hx64]; omega
      simp only [List.map_cons, List.sum_cons, hcat, List.length_cons, List.length_nil]
      show 2 * 0 + _ + _ ≤ _
      have h2 : (st.map fun v => v.category).sum ≤ 8 := hstc
      omega) hlocks
  obtain ⟨f1, f2⟩ := vx_frame hsame
  rw [hhp] at f1 f2
  have hWs : s.WarmedH U.vm := State.WarmedH.trans hW0 hW
  have hcl : U.vm.findClass cls = some ce.cls := by
    have h9 := hO.cls
    rw [hvm] at h9
    rw [hWs.alike.findClass]
    exact h9
  have hall : s.sameButNew ({ U with vm := s.vm } : State) locs (k + 1) (n + 6) := by
    subst hA
    obtain ⟨e1, e2⟩ := hsame
    rw [State.setFrames_setFrames] at e1
    have h2 : (T.setVm s.vm).sameButNew ({ U with vm := s.vm } : State) [] (0 + 1) (0 + 6) := ⟨e1, e2⟩
    have h3 := Xs.same.trans h2
    rw [List.append_nil] at h3
    exact h3.mono (by omega) (by omega)
  have hsz : U.heap.size = T.heap.size + 1 := by
    have h1 : T.heap.size < U.heap.size := (Array.getElem?_eq_some_iff.mp hce).1
    have h2 : U.heap.size ≤ s'.heap.size + (0 + 1) := hsame.2.2.1
    rw [hhp] at h2
    omega
  have hfr2 : ∀ q : Nat, q < T.heap.size → U.heap[q]? = T.heap[q]? := fun q hq => f2 q hq (fun z hz => nomatch hz)
  refine ⟨U, ?_, .threw T.heap.size, hrun, hend, ⟨T.heap.size, ce, rfl, hce, hO.vm, by rw [hE]; exact hcl⟩, X.2.1.skip 6 hlim hsz hfr2, hWs, ⟨locs, k + 1, n + 6, hall, ?_, ?_, X.2.2.1.2.2⟩, X.2.2.2.1, ?_, X.2.2.2.2.1⟩
  · refine st1 _ ?_
    show Steps p.tables e below (T1.setTop { method := m, pc := pc + 3, locals := lsA, stack := .ref T.heap.size :: st, locked := none }) _
    jvm_step X₁.here [X₁.here.top, hexec, d3', Value.category]
    exact X₁.ldcString hexec (own := M.1.cls) (text := text) (index := is) (a := sa) hown' hstr'.1 hstr'.2
      (g := { method := m, pc := pc + 4, locals := lsA, stack := .ref T.heap.size :: .ref T.heap.size :: st, locked := none }) rfl d4' _ hsteps
  · show S0.2.1 + (k + 1) = S.2.1 + 1
    have := X.2.2.2.2.2.1
    omega
  · show S0.2.2.1 + (n + 6) = S.2.2.1 + 6
    have := X.2.2.2.2.2.2.1
    omega
  · refine ⟨by have := X.2.2.1.1; omega, fun q h1 h2 => ?_⟩
    have := X.2.2.1.1
    exact (hfr2 q (by omega)).trans (X.2.2.1.2.1 q h1 h2)
/-- Object's own constructor -/
theorem x_objInit {index : Nat} {x : Option Nat} (hx : x ≠ none) (hd : decode M.2.1 pc = .ok (.invokespecial index, 3)) (hw : Cond.methodLink M.1.cls index objectInit ∈ xT) (hinst : Cond.instanceMethod objectInit ∈ xT) (hcode : Cond.code objectInit ⟨#[0xb1]⟩ 1 none ∈ xT) (hst : st.length ≤ 4) (kk : V M D (d + 1) S0 r (pc + 3) ls st S) : V M D (d + 1) S0 r pc ls (va_rf x :: st) S := by
  have hst := x_cats st hst
  cases x with
  | none => exact absurd rfl hx
  | some a =>
    intro p l e R s m args below meth c A H locs k n lsA X
    have hts := X.1.1.2.2.2.2.2.2.1
    have hlo : xL * (d + 1) ≤ R.locals := X.1.2.2.2.2.2.1
    refine W.objInit X.1.1.1 X.1.1.2.1 X.1.1.2.2.2.2.1 (hts _ hw) (hts _ hinst) (hts _ hcode) rfl (X.2.2.2.2.2.2.2.1.trans X.1.1.2.2.1.symm) rfl hd (Nat.le_trans (Nat.le_add_left 1 d) X.1.2.2.2.2.1) ?_ (kk p l e R s m args below meth c A H locs k n lsA X)
    have h0 : 2 * (F0 m pc lsA st).monitorRoom + (st.map fun v => v.category).sum ≤ 8 := lv_room (rest := st) hst
    show 2 * (F0 m pc lsA st).monitorRoom + (st.map fun v => v.category).sum + 12 ≤ R.locals
    rw [Nat.mul_succ] at hlo
    have : xL = 64 := rfl
    omega
/-- what is known of a method that is called: static, by its receiver's class, a constructor -/
def xwS (M' : xM) (n : Nat) : Prop := Cond.static M'.1 ∈ xT ∧ Cond.initialized M'.1.cls ∈ xT ∧ xcode M' ∈ xT ∧ (M'.1.cls ≠ "java/lang/invoke/MethodHandle" ∧ M'.1.cls ≠ "java/lang/invoke/VarHandle") ∧ (parseMethodDescriptor M'.1.desc).map (fun q => q.parameters.length) = some n ∧ M'.2.2.1 + 19 ≤ xL
def xwV (M' : xM) (C : String) (n : Nat) : Prop := Cond.instanceMethod M'.1 ∈ xT ∧ Cond.selects C M'.1 M'.1 ∈ xT ∧ Cond.initialized M'.1.cls ∈ xT ∧ xcode M' ∈ xT ∧ (M'.1.cls ≠ "java/lang/invoke/MethodHandle" ∧ M'.1.cls ≠ "java/lang/invoke/VarHandle") ∧ (parseMethodDescriptor M'.1.desc).map (fun q => q.parameters.length) = some n ∧ M'.2.2.1 + 19 ≤ xL
def xwI (M' : xM) (n : Nat) : Prop := Cond.instanceMethod M'.1 ∈ xT ∧ M'.1.name = "<init>" ∧ (∃ (b : ByteArray) (k : Nat), xcode M' = .code M'.1 b k none) ∧ Cond.initialized M'.1.cls ∈ xT ∧ xcode M' ∈ xT ∧ (M'.1.cls ≠ "java/lang/invoke/MethodHandle" ∧ M'.1.cls ≠ "java/lang/invoke/VarHandle") ∧ (parseMethodDescriptor M'.1.desc).map (fun q => q.parameters.length) = some n ∧ M'.2.2.1 + 19 ≤ xL
theorem x_callS' {ζ α : Type} {Fc : Option ζ} {F : ζ → Option α} {z : α} {cv : ζ → xRes} {M' : xM} {d' index n : Nat} {ax : List xV} {host : Option String} (h : Fc.bind F = some z) (hM : ∀ q, Fc = some q → ∀ l, xMet l M' D d' ax S (cv q)) (hstk : stk = (ax.map xval).reverse ++ st) (hd : decode M.2.1 pc = .ok (.invokestatic index, 3)) (hw : xml M.1.cls index M'.1 host ∈ xT) (hc : xwS M' n) (hax : ax.length = n) (hst : st.length ≤ 4) (kk : ∀ q, F q = some z → xAfter M D (d' + 1) S0 r pc ls st (cv q)) : V M D (d' + 1) S0 r pc ls stk S := by
  obtain ⟨q, h1, h2⟩ := Option.bind_eq_some_iff.mp h
  obtain ⟨c1, c2, c3, c4, c5, c6⟩ := hc
  exact x_callS (hM q h1) hstk hd hw c1 c2 c3 c4 (by rw [hax]; exact c5) (x_cats st hst) c6 (kk q h2)
theorem x_callV' {ζ α : Type} {Fc : Option ζ} {F : ζ → Option α} {z : α} {cv : ζ → xRes} {M' : xM} {d' index ci n : Nat} {x : Option Nat} {C : String} {T0 : u_T} {N : Nat} {ax : List xV} {host : Option String} (h : (xobj S x ci).bind (fun _ => Fc.bind F) = some z) (hM : ∀ q, Fc = some q → ∀ l, xMet l M' D d' (.inr (.inr x) :: ax) S (cv q)) (hci : xCl[ci]? = some (C, T0, N)) (hstk : stk = (ax.map xval).reverse ++ va_rf x :: st) (hd : decode M.2.1 pc = .ok (.invokevirtual index, 3)) (hw : xml M.1.cls index M'.1 host ∈ xT) (hc : xwV M' C n) (hax : ax.length = n) (hst : st.length ≤ 4) (kk : ∀ q, F q = some z → xAfter M D (d' + 1) S0 r pc ls st (cv q)) : V M D (d' + 1) S0 r pc ls stk S := by
  obtain ⟨o, h0, h⟩ := Option.bind_eq_some_iff.mp h
  obtain ⟨q, h1, h2⟩ := Option.bind_eq_some_iff.mp h
  obtain ⟨rfl, h5⟩ := xobj_some h0
  obtain ⟨c1, c1', c2, c3, c4, c5, c6⟩ := hc
  exact x_callV (hM q h1) h5 hci hstk hd hw c1 c1' c2 c3 c4 (by rw [hax]; exact c5) (x_cats st hst) c6 (kk q h2)
theorem x_callI' {ζ α : Type} {Fc : Option ζ} {F : ζ → Option α} {z : α} {cv : ζ → xRes} {M' : xM} {d' index b n : Nat} {ax : List xV} {host : Option String} (h : Fc.bind F = some z) (hM : ∀ q, Fc = some q → ∀ l, xMet l M' D d' (.inr (.inr (some b)) :: ax) S (cv q)) (hstk : stk = (ax.map xval).reverse ++ va_rf (some b) :: st) (hd : decode M.2.1 pc = .ok (.invokespecial index, 3)) (hw : xml M.1.cls index M'.1 host ∈ xT) (hc : xwI M' n) (hax : ax.length = n) (hst : st.length ≤ 4) (kk : ∀ q, F q = some z → xAfter M D (d' + 1) S0 r pc ls st (cv q)) : V M D (d' + 1) S0 r pc ls stk S := by
  obtain ⟨q, h1, h2⟩ := Option.bind_eq_some_iff.mp h
  obtain ⟨c1, cn, ⟨b', k', cb⟩, c2, c3, c4, c5, c6⟩ := hc
  exact x_callI (hM q h1) cb cn hstk hd hw c1 c2 c3 c4 (by rw [hax]; exact c5) (x_cats st hst) c6 (kk q h2)
/-! ends as numbers, references, nothing; of a method that may throw -/
abbrev cvI (q : Int32 × xS) : xRes := (.inl (some (.int q.1)), q.2)
abbrev cvR (q : Option Nat × xS) : xRes := (.inl (some (va_rf q.1)), q.2)
abbrev cvV (q : Unit × xS) : xRes := (.inl none, q.2)
def cvT (q : (Int32 ⊕ Nat) × xS) : xRes := match q.1 with
  | .inl v => (.inl (some (.int v)), q.2)
  | .inr e => (.inr e, q.2)
def cvU (q : (Unit ⊕ Nat) × xS) : xRes := match q.1 with
  | .inl _ => (.inl none, q.2)
  | .inr e => (.inr e, q.2)
def xtry {α β : Type} (o : α ⊕ Nat) (a : α → β) (b : Nat → β) : β := match o with
  | .inl v => a v
  | .inr e => b e
theorem x_tryI {α : Type} {q : (Int32 ⊕ Nat) × xS} {Fa : Int32 → Option α} {Fb : Nat → Option α} {z : α} (h : xtry q.1 Fa Fb = some z) (k1 : ∀ v, Fa v = some z → V M D d S0 r (pc + 3) ls (.int v :: st) q.2) (k2 : ∀ e, Fb e = some z → xThrown M D d S0 r pc ls e q.2) : xAfter M D d S0 r pc ls st (cvT q) := by
  obtain ⟨o, S1⟩ := q
  cases o with
  | inl v => exact k1 v h
  | inr e => exact k2 e h
theorem x_tryV {α : Type} {q : (Unit ⊕ Nat) × xS} {Fa : Unit → Option α} {Fb : Nat → Option α} {z : α} (h : xtry q.1 Fa Fb = some z) (k1 : ∀ v, Fa v = some z → V M D d S0 r (pc + 3) ls st q.2) (k2 : ∀ e, Fb e = some z → xThrown M D d S0 r pc ls e q.2) : xAfter M D d S0 r pc ls st (cvU q) := by
  obtain ⟨o, S1⟩ := q
  cases o with
  | inl v => exact k1 v h
  | inr e => exact k2 e h
theorem x_zretI {v : Int32} {z : Int32 × xS} (h : (if v = 0 ∨ v = 1 then some (v, S) else none) = some z) (hr : M.2.2.2.1 = some .boolean) (hd : decode M.2.1 pc = .ok (.ireturn, 1)) : V M D d S0 (cvI z) pc ls [.int v] S := by
  split at h
  case isFalse => cases h
  rename_i hv
  cases h
  exact x_zret hr hv hd
end XCALLS
end
section
section XMORE
variable {M : xM} {D : xD} {d : Nat} {S0 : xS} {r : xRes} {pc : Nat} {ls : List (Nat × xV)} {st : List Value} {S : xS} {α : Type}
theorem x_lshr {x : Int64} {y : Int32} (hd : decode M.2.1 pc = .ok (.lshr, 1)) (kk : V M D d S0 r (pc + 1) ls (.long (x >>> (y.toInt64 &&& 63)) :: st) S) : V M D d S0 r pc ls (.int y :: .long x :: st) S :=
  fun p l e R s m args below meth c A H locs k n lsA X => lv_lshr X.1.1.1 X.1.1.2.1 hd rfl (kk p l e R s m args below meth c A H locs k n lsA X)
theorem x_tabIn {x k : Int32} {dflt lo hi : Int} {offs : Array Int} {len : Nat} {off : Int} {tgt : Nat} (hd : decode M.2.1 pc = .ok (.tableswitch dflt lo hi offs, len)) (e : x = k) (h1 : ¬ k.toInt < lo) (h2 : ¬ hi < k.toInt) (ho : offs[(k.toInt - lo).toNat]? = some off) (ht : (pc : Int) + off = (tgt : Int)) (kk : V M D d S0 r tgt ls st S) : V M D d S0 r pc ls (.int x :: st) S := by
  subst e
  exact fun p l e R s m args below meth c A H locs k n lsA X => lv_tableIn X.1.1.1 X.1.1.2.1 hd h1 h2 ho ht (kk p l e R s m args below meth c A H locs k n lsA X)
theorem x_tabOut {x : Int32} {dflt lo hi : Int} {offs : Array Int} {len : Nat} {tgt : Nat} (hd : decode M.2.1 pc = .ok (.tableswitch dflt lo hi offs, len)) (h : x.toInt < lo ∨ hi < x.toInt) (ht : (pc : Int) + dflt = (tgt : Int)) (kk : V M D d S0 r tgt ls st S) : V M D d S0 r pc ls (.int x :: st) S :=
  fun p l e R s m args below meth c A H locs k n lsA X => lv_tableOut X.1.1.1 X.1.1.2.1 hd h ht (kk p l e R s m args below meth c A H locs k n lsA X)
theorem xtab_n {x : Int32} (n : Nat) (hn : n < 2 ^ 31) (h : ∀ k : Nat, k < n → ¬ x = nI k) : x.toInt < 0 ∨ (n : Int) - 1 < x.toInt := by
  rcases (show x.toInt < 0 ∨ 0 ≤ x.toInt by omega) with h0 | h0
  · exact Or.inl h0
  · rcases (show (n : Int) - 1 < x.toInt ∨ x.toInt ≤ (n : Int) - 1 by omega) with h1 | h1
    · exact Or.inr h1
    · exfalso
      refine h x.toInt.toNat (by omega) (Int32.toInt_inj.mp ?_)
      rw [nI_toInt (by omega)]
      omega
theorem xtab_4 {x : Int32} (e0 : ¬ x = 0) (e1 : ¬ x = 1) (e2 : ¬ x = 2) (e3 : ¬ x = 3) : x.toInt < 0 ∨ 3 < x.toInt := by
  have h := xtab_n (x := x) 4 (by decide) (fun k hk => by
    rcases (show k = 0 ∨ k = 1 ∨ k = 2 ∨ k = 3 by omega) with rfl | rfl | rfl | rfl
    · exact e0
    · exact e1
    · exact e2
    · exact e3)
  simpa using h
theorem xtab_13 {x : Int32} (e0 : ¬ x = 0) (e1 : ¬ x = 1) (e2 : ¬ x = 2) (e3 : ¬ x = 3) (e4 : ¬ x = 4) (e5 : ¬ x = 5) (e6 : ¬ x = 6) (e7 : ¬ x = 7) (e8 : ¬ x = 8) (e9 : ¬ x = 9) (e10 : ¬ x = 10) (e11 : ¬ x = 11) (e12 : ¬ x = 12) : x.toInt < 0 ∨ 12 < x.toInt := by
  have h := xtab_n (x := x) 13 (by decide) (fun k hk => by
    rcases (show k = 0 ∨ k = 1 ∨ k = 2 ∨ k = 3 ∨ k = 4 ∨ k = 5 ∨ k = 6 ∨ k = 7 ∨ k = 8 ∨ k = 9 ∨ k = 10 ∨ k = 11 ∨ k = 12 by omega) with rfl | rfl | rfl | rfl | rfl | rfl | rfl | rfl | rfl | rfl | rfl | rfl | rfl
    · exact e0
    · exact e1
    · exact e2
    · exact e3
    · exact e4
    · exact e5
    · exact e6
    · exact e7
    · exact e8
    · exact e9
    · exact e10
    · exact e11
    · exact e12)
  simpa using h
def xmax (x y : Int32) : Int32 := if x < y then y else x
def xmin (x y : Int32) : Int32 := if y < x then y else x
def xN : Nat := 5000
theorem xnar_o (C : String) (x : Option Nat) : narrow (.object C) (va_rf x) = va_rf x := by cases x <;> rfl
theorem xfit_o (C : String) (x : Option Nat) : fits (.object C) (va_rf x) = true := by cases x <;> rfl
theorem xnar_a (t : FieldType) (x : Option Nat) : narrow (.array t) (va_rf x) = va_rf x := by cases x <;> rfl
theorem xfit_a (t : FieldType) (x : Option Nat) : fits (.array t) (va_rf x) = true := by cases x <;> rfl
theorem x_mmax {index : Nat} {x y : Int32} (hd : decode M.2.1 pc = .ok (.invokestatic index, 3)) (hw : Cond.methodLink M.1.cls index Lib.Math.max.name ∈ xT ∧ Cond.static Lib.Math.max.name ∈ xT ∧ Cond.initialized "java/lang/Math" ∈ xT ∧ Cond.code Lib.Math.max.name Lib.Math.max.code 2 (some .int) ∈ xT) (hst : st.length ≤ 4) (kk : V M D (d + 1) S0 r (pc + 3) ls (.int (xmax x y) :: st) S) : V M D (d + 1) S0 r pc ls (.int y :: .int x :: st) S := by
  intro p l e R s m args below meth c A H locs k n lsA X
  have hts := X.1.1.2.2.2.2.2.2.1
  have hlo : xL * (d + 1) ≤ R.locals := X.1.2.2.2.2.2.1
  have hfr : d + 1 ≤ R.frames := X.1.2.2.2.2.1
  have c1 := X.1.2.2.2.2.2.2.1
  have c2 := X.1.2.2.2.2.2.2.2.1
  have e0 := X.2.2.2.2.1
  have e1 : S.2.2.2.1 = S0.2.2.2.1 := by rw [e0]
  have e2 : S.2.2.2.2 = S0.2.2.2.2 := by rw [e0]
  have e3 := X.2.2.2.2.2.1
  have e4 := X.2.2.2.2.2.2.1
  have e5 := X.2.1.2.2
  have hc := x_cats st hst
  have h64 : xL = 64 := rfl
  exact va_mmax X.1.1.1 X.1.1.2.1 (X.1.1.2.2.1.trans X.2.2.2.2.2.2.2.1.symm) X.1.1.2.2.2.2.1 (hts _ hw.1) (hts _ hw.2.1) (hts _ hw.2.2.1) (hts _ hw.2.2.2) (by omega) (by rw [Nat.mul_succ] at hlo; omega) (by omega) (by omega) hd (kk p l e R s m args below meth c A H locs k n lsA X)
theorem x_mmin {index : Nat} {x y : Int32} (hd : decode M.2.1 pc = .ok (.invokestatic index, 3)) (hw : Cond.methodLink M.1.cls index Lib.Math.min.name ∈ xT ∧ Cond.static Lib.Math.min.name ∈ xT ∧ Cond.initialized "java/lang/Math" ∈ xT ∧ Cond.code Lib.Math.min.name Lib.Math.min.code 2 (some .int) ∈ xT) (hst : st.length ≤ 4) (kk : V M D (d + 1) S0 r (pc + 3) ls (.int (xmin x y) :: st) S) : V M D (d + 1) S0 r pc ls (.int y :: .int x :: st) S := by
  intro p l e R s m args below meth c A H locs k n lsA X
  have hts := X.1.1.2.2.2.2.2.2.1
  have hlo : xL * (d + 1) ≤ R.locals := X.1.2.2.2.2.2.1
  have hfr : d + 1 ≤ R.frames := X.1.2.2.2.2.1
  have c1 := X.1.2.2.2.2.2.2.1
  have c2 := X.1.2.2.2.2.2.2.2.1
  have e0 := X.2.2.2.2.1
  have e1 : S.2.2.2.1 = S0.2.2.2.1 := by rw [e0]
  have e2 : S.2.2.2.2 = S0.2.2.2.2 := by rw [e0]
  have e3 := X.2.2.2.2.2.1
  have e4 := X.2.2.2.2.2.2.1
  have e5 := X.2.1.2.2
  have hc := x_cats st hst
  have h64 : xL = 64 := rfl
  exact va_mmin X.1.1.1 X.1.1.2.1 (X.1.1.2.2.1.trans X.2.2.2.2.2.2.2.1.symm) X.1.1.2.2.2.2.1 (hts _ hw.1) (hts _ hw.2.1) (hts _ hw.2.2.1) (hts _ hw.2.2.2) (by omega) (by rw [Nat.mul_succ] at hlo; omega) (by omega) (by omega) hd (kk p l e R s m args below meth c A H locs k n lsA X)
theorem x_objInit' {index : Nat} {x : Option Nat} {Fa : Option α} {z : α} (h : xcase x none (fun _ => Fa) = some z) (hd : decode M.2.1 pc = .ok (.invokespecial index, 3)) (hw : Cond.methodLink M.1.cls index objectInit ∈ xT) (hinst : Cond.instanceMethod objectInit ∈ xT) (hcode : Cond.code objectInit ⟨#[0xb1]⟩ 1 none ∈ xT) (hst : st.length ≤ 4) (kk : Fa = some z → V M D (d + 1) S0 r (pc + 3) ls st S) : V M D (d + 1) S0 r pc ls (va_rf x :: st) S := by
  cases x with
  | none => cases h
  | some a => exact x_objInit (by simp) hd hw hinst hcode hst (kk h)
theorem x_throwI {ec ik is ic : Nat} {cls text : String} {z : (Int32 ⊕ Nat) × xS} (h : xthrow d ec S = some z) (hE : xE ec = cls) (hh : M.2.2.2.2 = []) (hcls : Bundle.fit cls = true)
    (hw1 : Cond.classLink M.1.cls ik cls ∈ xT) (hw2 : Cond.initialized cls ∈ xT) (hw3 : Cond.stringRef M.1.cls is text ∈ xT) (hw4 : ∀ w ∈ vx_atS M.1.cls ic cls ["java/lang/RuntimeException", "java/lang/Exception"], w ∈ xT)
    (d0 : decode M.2.1 pc = .ok (.new ik, 3)) (d3 : decode M.2.1 (pc + 3) = .ok (.dup, 1)) (d4 : decode M.2.1 (pc + 4) = .ok (.ldc is, 2)) (d6 : decode M.2.1 (pc + 6) = .ok (.invokespecial ic, 3)) (d9 : decode M.2.1 (pc + 9) = .ok (.athrow, 1)) (hst : st.length ≤ 4) : V M D (d + 1) S0 (cvT z) pc ls st S := by
  unfold xthrow at h
  split at h
  case isFalse => cases h
  rename_i hl
  cases h
  exact x_throw0 hE hl.1 hl.2 hh hcls hw1 hw2 hw3 hw4 d0 d3 d4 d6 d9 hst
theorem x_throwV {ec ik is ic : Nat} {cls text : String} {z : (Unit ⊕ Nat) × xS} (h : xthrow d ec S = some z) (hE : xE ec = cls) (hh : M.2.2.2.2 = []) (hcls : Bundle.fit cls = true)
    (hw1 : Cond.classLink M.1.cls ik cls ∈ xT) (hw2 : Cond.initialized cls ∈ xT) (hw3 : Cond.stringRef M.1.cls is text ∈ xT) (hw4 : ∀ w ∈ vx_atS M.1.cls ic cls ["java/lang/RuntimeException", "java/lang/Exception"], w ∈ xT)
    (d0 : decode M.2.1 pc = .ok (.new ik, 3)) (d3 : decode M.2.1 (pc + 3) = .ok (.dup, 1)) (d4 : decode M.2.1 (pc + 4) = .ok (.ldc is, 2)) (d6 : decode M.2.1 (pc + 6) = .ok (.invokespecial ic, 3)) (d9 : decode M.2.1 (pc + 9) = .ok (.athrow, 1)) (hst : st.length ≤ 4) : V M D (d + 1) S0 (cvU z) pc ls st S := by
  unfold xthrow at h
  split at h
  case isFalse => cases h
  rename_i hl
  cases h
  exact x_throw0 hE hl.1 hl.2 hh hcls hw1 hw2 hw3 hw4 d0 d3 d4 d6 d9 hst
theorem xatS_in {L : List Cond} (h : L.all (fun w => decide (w ∈ lw_tbl) && xGood w) = true) : ∀ w ∈ L, w ∈ xT := by
  intro w hw
  have h1 := List.all_eq_true.mp h w hw
  simp only [Bool.and_eq_true, decide_eq_true_eq] at h1
  exact xT_in h1.1 h1.2
end XMORE
end
section
theorem hc_0 : xCl[0]? = some ("PieceTexts", TX_0, 4) := rfl
theorem hi_0 : ∀ w ∈ u_ws "PieceTexts" TX_0 4, w ∈ xT := xatS_in (by decide +kernel)
theorem ht_0 : ∀ k, k < 4 → parseFieldDescriptor (TX_0 k).2.2.1 = some (tyX_0 k) := by decide +kernel
theorem hn_0 : ∀ a, a < 4 → ∀ b, b < 4 → a ≠ b → (TX_0 a).2.1 ≠ (TX_0 b).2.1 := by decide +kernel
theorem hdf_0 : ∀ j, j < 4 → defaultValue (tyX_0 j) = vp_V [.null, .int 0, .null, .null] j := fun j hj => by
  rcases (show j = 0 ∨ j = 1 ∨ j = 2 ∨ j = 3 by omega) with rfl | rfl | rfl | rfl <;> rfl
theorem hc_1 : xCl[1]? = some ("PieceTexts$Halves", TX_1, 2) := rfl
theorem hi_1 : ∀ w ∈ u_ws "PieceTexts$Halves" TX_1 2, w ∈ xT := xatS_in (by decide +kernel)
theorem ht_1 : ∀ k, k < 2 → parseFieldDescriptor (TX_1 k).2.2.1 = some (tyX_1 k) := by decide +kernel
theorem hn_1 : ∀ a, a < 2 → ∀ b, b < 2 → a ≠ b → (TX_1 a).2.1 ≠ (TX_1 b).2.1 := by decide +kernel
theorem hdf_1 : ∀ j, j < 2 → defaultValue (tyX_1 j) = vp_V [.null, .null] j := fun j hj => by
  rcases (show j = 0 ∨ j = 1 by omega) with rfl | rfl <;> rfl
theorem hc_2 : xCl[2]? = some ("PieceTexts$Piece", TX_2, 8) := rfl
theorem hi_2 : ∀ w ∈ u_ws "PieceTexts$Piece" TX_2 8, w ∈ xT := xatS_in (by decide +kernel)
theorem ht_2 : ∀ k, k < 8 → parseFieldDescriptor (TX_2 k).2.2.1 = some (tyX_2 k) := by decide +kernel
theorem hn_2 : ∀ a, a < 8 → ∀ b, b < 8 → a ≠ b → (TX_2 a).2.1 ≠ (TX_2 b).2.1 := by decide +kernel
theorem hdf_2 : ∀ j, j < 8 → defaultValue (tyX_2 j) = vp_V [.int 0, .int 0, .int 0, .null, .null, .int 0, .int 0, .int 0] j := fun j hj => by
  rcases (show j = 0 ∨ j = 1 ∨ j = 2 ∨ j = 3 ∨ j = 4 ∨ j = 5 ∨ j = 6 ∨ j = 7 by omega) with rfl | rfl | rfl | rfl | rfl | rfl | rfl | rfl <;> rfl
theorem hc_3 : xCl[3]? = some ("PieceTexts$Reader", TX_3, 4) := rfl
theorem hi_3 : ∀ w ∈ u_ws "PieceTexts$Reader" TX_3 4, w ∈ xT := xatS_in (by decide +kernel)
theorem ht_3 : ∀ k, k < 4 → parseFieldDescriptor (TX_3 k).2.2.1 = some (tyX_3 k) := by decide +kernel
theorem hn_3 : ∀ a, a < 4 → ∀ b, b < 4 → a ≠ b → (TX_3 a).2.1 ≠ (TX_3 b).2.1 := by decide +kernel
theorem hdf_3 : ∀ j, j < 4 → defaultValue (tyX_3 j) = vp_V [.null, .int 0, .null, .int 0] j := fun j hj => by
  rcases (show j = 0 ∨ j = 1 ∨ j = 2 ∨ j = 3 by omega) with rfl | rfl | rfl | rfl <;> rfl
theorem hc_4 : xCl[4]? = some ("PieceTexts$Trees", TX_4, 1) := rfl
theorem hi_4 : ∀ w ∈ u_ws "PieceTexts$Trees" TX_4 1, w ∈ xT := xatS_in (by decide +kernel)
theorem ht_4 : ∀ k, k < 1 → parseFieldDescriptor (TX_4 k).2.2.1 = some (tyX_4 k) := by decide +kernel
theorem hn_4 : ∀ a, a < 1 → ∀ b, b < 1 → a ≠ b → (TX_4 a).2.1 ≠ (TX_4 b).2.1 := by decide +kernel
theorem hdf_4 : ∀ j, j < 1 → defaultValue (tyX_4 j) = vp_V [.null] j := fun j hj => by
  rcases (show j = 0 by omega) with rfl <;> rfl
theorem hc_5 : xCl[5]? = some ("PieceTextsModel", TX_5, 8) := rfl
theorem hi_5 : ∀ w ∈ u_ws "PieceTextsModel" TX_5 8, w ∈ xT := xatS_in (by decide +kernel)
theorem ht_5 : ∀ k, k < 8 → parseFieldDescriptor (TX_5 k).2.2.1 = some (tyX_5 k) := by decide +kernel
theorem hn_5 : ∀ a, a < 8 → ∀ b, b < 8 → a ≠ b → (TX_5 a).2.1 ≠ (TX_5 b).2.1 := by decide +kernel
theorem hdf_5 : ∀ j, j < 8 → defaultValue (tyX_5 j) = vp_V [.int 0, .int 0, .null, .null, .null, .null, .null, .null] j := fun j hj => by
  rcases (show j = 0 ∨ j = 1 ∨ j = 2 ∨ j = 3 ∨ j = 4 ∨ j = 5 ∨ j = 6 ∨ j = 7 by omega) with rfl | rfl | rfl | rfl | rfl | rfl | rfl | rfl <;> rfl
theorem ha_0 : xAT[0]? = some (.byte) := rfl
theorem ha_1 : xAT[1]? = some (.long) := rfl
theorem ha_2 : xAT[2]? = some (.object "PieceTexts$Piece") := rfl
theorem ha_3 : xAT[3]? = some (.int) := rfl
abbrev m_T_init : xM := (⟨"PieceTexts$Trees", "<init>", "()V"⟩, prog_7_method_1_code, 1, none, [])
abbrev m_P_init : xM := (⟨"PieceTexts", "<init>", "()V"⟩, prog_1_method_1_code, 1, none, [])
abbrev m_P_append : xM := (⟨"PieceTexts", "append", "(B)V"⟩, prog_1_method_16_code, 2, none, [])
abbrev m_P_bytesOf : xM := (⟨"PieceTexts", "bytesOf", "(J)I"⟩, prog_1_method_15_code, 3, some (.int), [])
abbrev m_P_write : xM := (⟨"PieceTexts", "write", "(J)I"⟩, prog_1_method_2_code, 6, some (.int), [])
abbrev m_R_charactersOf : xM := (⟨"PieceTexts$Row", "charactersOf", "(LPieceTexts$Piece;)I"⟩, prog_5_method_4_code, 1, some (.int), [])
abbrev m_P_become : xM := (⟨"PieceTexts", "become", "(ILPieceTexts$Piece;)I"⟩, prog_1_method_20_code, 3, some (.int), [])
abbrev m_P_isText : xM := (⟨"PieceTexts", "isText", "(I)Z"⟩, prog_1_method_18_code, 2, some (.boolean), [])
abbrev m_P_demandText : xM := (⟨"PieceTexts", "demandText", "(I)V"⟩, prog_1_method_24_code, 2, none, [])
abbrev m_P_rootOf : xM := (⟨"PieceTexts", "rootOf", "(I)LPieceTexts$Piece;"⟩, prog_1_method_19_code, 2, some (.object "PieceTexts$Piece"), [])
abbrev m_P_demandEdge : xM := (⟨"PieceTexts", "demandEdge", "(II)V"⟩, prog_1_method_25_code, 3, none, [])
abbrev m_P_charactersInAll : xM := (⟨"PieceTexts", "charactersInAll", "()I"⟩, prog_1_method_21_code, 6, some (.int), [])
abbrev m_R_piecesOf : xM := (⟨"PieceTexts$Row", "piecesOf", "(LPieceTexts$Piece;)I"⟩, prog_5_method_3_code, 1, some (.int), [])
abbrev m_P_piecesInAll : xM := (⟨"PieceTexts", "piecesInAll", "()I"⟩, prog_1_method_22_code, 6, some (.int), [])
abbrev m_P_demandRoom : xM := (⟨"PieceTexts", "demandRoom", "(II)V"⟩, prog_1_method_28_code, 3, none, [])
abbrev m_R_orderAt : xM := (⟨"PieceTexts$Row", "orderAt", "(LPieceTexts$Piece;I)I"⟩, prog_5_method_5_code, 6, some (.int), [])
abbrev m_Y_before : xM := (⟨"PieceTexts$Tally", "before", "(LPieceTexts$Piece;I)I"⟩, prog_6_method_8_code, 2, some (.int), [])
abbrev m_Y_behind : xM := (⟨"PieceTexts$Tally", "behind", "(LPieceTexts$Piece;I)I"⟩, prog_6_method_9_code, 2, some (.int), [])
abbrev m_R_numbered : xM := (⟨"PieceTexts$Row", "numbered", "(LPieceTexts$Piece;I)LPieceTexts$Piece;"⟩, prog_5_method_6_code, 5, some (.object "PieceTexts$Piece"), [])
abbrev m_R_startOf : xM := (⟨"PieceTexts$Row", "startOf", "(LPieceTexts$Piece;I)I"⟩, prog_5_method_7_code, 6, some (.int), [])
abbrev m_R_sourceAt : xM := (⟨"PieceTexts$Row", "sourceAt", "(LPieceTexts$Piece;I)I"⟩, prog_5_method_8_code, 4, some (.int), [])
abbrev m_R_tagAt : xM := (⟨"PieceTexts$Row", "tagAt", "(LPieceTexts$Piece;I)I"⟩, prog_5_method_9_code, 3, some (.int), [])
abbrev m_Y_meldsLeft : xM := (⟨"PieceTexts$Tally", "meldsLeft", "(LPieceTexts$Piece;III)I"⟩, prog_6_method_10_code, 4, some (.int), [])
abbrev m_Y_meldsRight : xM := (⟨"PieceTexts$Tally", "meldsRight", "(LPieceTexts$Piece;III)I"⟩, prog_6_method_11_code, 4, some (.int), [])
abbrev m_Y_afterPut : xM := (⟨"PieceTexts$Tally", "afterPut", "(LPieceTexts$Piece;IIII)I"⟩, prog_6_method_2_code, 5, some (.int), [])
abbrev m_T_firstOf : xM := (⟨"PieceTexts$Trees", "firstOf", "(LPieceTexts$Piece;)LPieceTexts$Piece;"⟩, prog_7_method_11_code, 3, some (.object "PieceTexts$Piece"), [])
abbrev m_T_giveBack : xM := (⟨"PieceTexts$Trees", "giveBack", "(LPieceTexts$Piece;)V"⟩, prog_7_method_3_code, 2, none, [])
abbrev m_R_heightOf : xM := (⟨"PieceTexts$Row", "heightOf", "(LPieceTexts$Piece;)I"⟩, prog_5_method_2_code, 1, some (.int), [])
abbrev m_T_sum : xM := (⟨"PieceTexts$Trees", "sum", "(LPieceTexts$Piece;)V"⟩, prog_7_method_19_code, 6, none, [])
abbrev m_T_raiseLeft : xM := (⟨"PieceTexts$Trees", "raiseLeft", "(LPieceTexts$Piece;)LPieceTexts$Piece;"⟩, prog_7_method_17_code, 2, some (.object "PieceTexts$Piece"), [])
abbrev m_T_raiseRight : xM := (⟨"PieceTexts$Trees", "raiseRight", "(LPieceTexts$Piece;)LPieceTexts$Piece;"⟩, prog_7_method_18_code, 2, some (.object "PieceTexts$Piece"), [])
abbrev m_T_balance : xM := (⟨"PieceTexts$Trees", "balance", "(LPieceTexts$Piece;)LPieceTexts$Piece;"⟩, prog_7_method_16_code, 4, some (.object "PieceTexts$Piece"), [])
abbrev m_T_join : xM := (⟨"PieceTexts$Trees", "join", "(LPieceTexts$Piece;LPieceTexts$Piece;LPieceTexts$Piece;I)LPieceTexts$Piece;"⟩, prog_7_method_15_code, 5, some (.object "PieceTexts$Piece"), [])
abbrev m_T_lastOf : xM := (⟨"PieceTexts$Trees", "lastOf", "(LPieceTexts$Piece;)LPieceTexts$Piece;"⟩, prog_7_method_12_code, 3, some (.object "PieceTexts$Piece"), [])
abbrev m_T_withoutFirst : xM := (⟨"PieceTexts$Trees", "withoutFirst", "(LPieceTexts$Piece;I)LPieceTexts$Piece;"⟩, prog_7_method_13_code, 2, some (.object "PieceTexts$Piece"), [])
abbrev m_T_withoutLast : xM := (⟨"PieceTexts$Trees", "withoutLast", "(LPieceTexts$Piece;I)LPieceTexts$Piece;"⟩, prog_7_method_14_code, 2, some (.object "PieceTexts$Piece"), [])
abbrev m_T_meet : xM := (⟨"PieceTexts$Trees", "meet", "(LPieceTexts$Piece;LPieceTexts$Piece;)LPieceTexts$Piece;"⟩, prog_7_method_7_code, 6, some (.object "PieceTexts$Piece"), [])
abbrev m_H_init : xM := (⟨"PieceTexts$Halves", "<init>", "()V"⟩, prog_2_method_1_code, 1, none, [])
abbrev m_N_init : xM := (⟨"PieceTexts$Piece", "<init>", "()V"⟩, prog_3_method_1_code, 1, none, [])
abbrev m_T_alone : xM := (⟨"PieceTexts$Trees", "alone", "(LPieceTexts$Piece;)LPieceTexts$Piece;"⟩, prog_7_method_10_code, 1, some (.object "PieceTexts$Piece"), [])
abbrev m_T_take : xM := (⟨"PieceTexts$Trees", "take", "(III)LPieceTexts$Piece;"⟩, prog_7_method_2_code, 5, some (.object "PieceTexts$Piece"), [])
abbrev m_T_partInto : xM := (⟨"PieceTexts$Trees", "partInto", "(LPieceTexts$Halves;LPieceTexts$Piece;II)V"⟩, prog_7_method_6_code, 9, none, [])
abbrev m_T_part : xM := (⟨"PieceTexts$Trees", "part", "(LPieceTexts$Piece;I)LPieceTexts$Halves;"⟩, prog_7_method_5_code, 4, some (.object "PieceTexts$Halves"), [])
abbrev m_P_put : xM := (⟨"PieceTexts", "put", "(IIIII)I"⟩, prog_1_method_3_code, 9, some (.int), [])
abbrev m_P_demandFree : xM := (⟨"PieceTexts", "demandFree", "(II)V"⟩, prog_1_method_27_code, 3, none, [])
abbrev m_P_demandRange : xM := (⟨"PieceTexts", "demandRange", "(III)V"⟩, prog_1_method_26_code, 4, none, [])
abbrev m_Y_afterCut : xM := (⟨"PieceTexts$Tally", "afterCut", "(LPieceTexts$Piece;II)I"⟩, prog_6_method_3_code, 5, some (.int), [])
abbrev m_Y_within : xM := (⟨"PieceTexts$Tally", "within", "(LPieceTexts$Piece;II)I"⟩, prog_6_method_6_code, 3, some (.int), [])
abbrev m_P_cut : xM := (⟨"PieceTexts", "cut", "(IIII)I"⟩, prog_1_method_4_code, 8, some (.int), [])
abbrev m_Y_afterPaste : xM := (⟨"PieceTexts$Tally", "afterPaste", "(LPieceTexts$Piece;ILPieceTexts$Piece;)I"⟩, prog_6_method_4_code, 4, some (.int), [])
abbrev m_P_paste : xM := (⟨"PieceTexts", "paste", "(III)I"⟩, prog_1_method_5_code, 7, some (.int), [])
abbrev m_T_twin : xM := (⟨"PieceTexts$Trees", "twin", "(LPieceTexts$Piece;III)LPieceTexts$Piece;"⟩, prog_7_method_8_code, 11, some (.object "PieceTexts$Piece"), [])
abbrev m_P_copy : xM := (⟨"PieceTexts", "copy", "(IIII)I"⟩, prog_1_method_6_code, 6, some (.int), [])
abbrev m_Y_tagged : xM := (⟨"PieceTexts$Tally", "tagged", "(III)I"⟩, prog_6_method_12_code, 3, some (.int), [])
abbrev m_Y_withinTagged : xM := (⟨"PieceTexts$Tally", "withinTagged", "(LPieceTexts$Piece;IIII)I"⟩, prog_6_method_7_code, 11, some (.int), [])
abbrev m_Y_afterTag : xM := (⟨"PieceTexts$Tally", "afterTag", "(LPieceTexts$Piece;IIII)I"⟩, prog_6_method_5_code, 8, some (.int), [])
abbrev m_T_retag : xM := (⟨"PieceTexts$Trees", "retag", "(LPieceTexts$Piece;III)LPieceTexts$Piece;"⟩, prog_7_method_9_code, 7, some (.object "PieceTexts$Piece"), [])
abbrev m_P_tag : xM := (⟨"PieceTexts", "tag", "(IIIII)I"⟩, prog_1_method_7_code, 10, some (.int), [])
abbrev m_T_giveBackAll : xM := (⟨"PieceTexts$Trees", "giveBackAll", "(LPieceTexts$Piece;I)V"⟩, prog_7_method_4_code, 3, none, [])
abbrev m_P_wipe : xM := (⟨"PieceTexts", "wipe", "(I)I"⟩, prog_1_method_8_code, 4, some (.int), [])
abbrev m_P_length : xM := (⟨"PieceTexts", "length", "(I)I"⟩, prog_1_method_9_code, 2, some (.int), [])
abbrev m_P_byteAt : xM := (⟨"PieceTexts", "byteAt", "(I)I"⟩, prog_1_method_17_code, 2, some (.int), [])
abbrev m_P_look : xM := (⟨"PieceTexts", "look", "(III)I"⟩, prog_1_method_10_code, 5, some (.int), [])
abbrev m_P_piece : xM := (⟨"PieceTexts", "piece", "(III)I"⟩, prog_1_method_11_code, 6, some (.int), [])
abbrev m_D_init : xM := (⟨"PieceTexts$Reader", "<init>", "(LPieceTexts$Piece;I)V"⟩, prog_4_method_1_code, 3, none, [])
abbrev m_D_nextSource : xM := (⟨"PieceTexts$Reader", "nextSource", "()I"⟩, prog_4_method_2_code, 2, some (.int), [])
abbrev m_P_find : xM := (⟨"PieceTexts", "find", "(III)I"⟩, prog_1_method_12_code, 8, some (.int), [])
abbrev m_P_differ : xM := (⟨"PieceTexts", "differ", "(II)I"⟩, prog_1_method_13_code, 7, some (.int), [])
abbrev m_R_isShallow : xM := (⟨"PieceTexts$Row", "isShallow", "(LPieceTexts$Piece;)Z"⟩, prog_5_method_10_code, 4, some (.boolean), [])
abbrev m_P_allShallow : xM := (⟨"PieceTexts", "allShallow", "()Z"⟩, prog_1_method_23_code, 5, some (.boolean), [])
abbrev m_P_count : xM := (⟨"PieceTexts", "count", "(I)I"⟩, prog_1_method_14_code, 2, some (.int), [])
abbrev m_M_init : xM := (⟨"PieceTextsModel", "<init>", "()V"⟩, prog_9_method_1_code, 1, none, [])
abbrev m_M_thrown : xM := (⟨"PieceTextsModel", "thrown", "()I"⟩, prog_9_method_2_code, 1, some (.int), [])
abbrev m_M_raise : xM := (⟨"PieceTextsModel", "raise", "(I)I"⟩, prog_9_method_3_code, 2, some (.int), [])
abbrev m_M_isText : xM := (⟨"PieceTextsModel", "isText", "(I)Z"⟩, prog_9_method_4_code, 1, some (.boolean), [])
abbrev m_M_size : xM := (⟨"PieceTextsModel", "size", "(I)I"⟩, prog_9_method_5_code, 2, some (.int), [])
abbrev m_M_isPlace : xM := (⟨"PieceTextsModel", "isPlace", "(II)Z"⟩, prog_9_method_6_code, 3, some (.boolean), [])
abbrev m_M_isRange : xM := (⟨"PieceTextsModel", "isRange", "(III)Z"⟩, prog_9_method_7_code, 4, some (.boolean), [])
abbrev m_M_write : xM := (⟨"PieceTextsModel", "write", "(J)I"⟩, prog_9_method_8_code, 5, some (.int), [])
abbrev m_M_keep : xM := (⟨"PieceTextsModel", "keep", "(III)V"⟩, prog_9_method_9_code, 5, none, [])
abbrev m_M_remove : xM := (⟨"PieceTextsModel", "remove", "(III)V"⟩, prog_9_method_10_code, 5, none, [])
abbrev m_M_insert : xM := (⟨"PieceTextsModel", "insert", "(III)V"⟩, prog_9_method_11_code, 6, none, [])
abbrev m_M_parts : xM := (⟨"PieceTextsModel", "parts", "(II)Z"⟩, prog_9_method_12_code, 3, some (.boolean), [])
abbrev m_M_pieces : xM := (⟨"PieceTextsModel", "pieces", "(I)I"⟩, prog_9_method_13_code, 4, some (.int), [])
abbrev m_M_allPieces : xM := (⟨"PieceTextsModel", "allPieces", "()I"⟩, prog_9_method_14_code, 3, some (.int), [])
abbrev m_M_put : xM := (⟨"PieceTextsModel", "put", "(IIIII)I"⟩, prog_9_method_15_code, 7, some (.int), [])
abbrev m_M_cut : xM := (⟨"PieceTextsModel", "cut", "(IIII)I"⟩, prog_9_method_16_code, 5, some (.int), [])
abbrev m_M_paste : xM := (⟨"PieceTextsModel", "paste", "(III)I"⟩, prog_9_method_17_code, 5, some (.int), [])
abbrev m_M_copy : xM := (⟨"PieceTextsModel", "copy", "(IIII)I"⟩, prog_9_method_18_code, 5, some (.int), [])
abbrev m_M_tag : xM := (⟨"PieceTextsModel", "tag", "(IIIII)I"⟩, prog_9_method_19_code, 8, some (.int), [])
abbrev m_M_wipe : xM := (⟨"PieceTextsModel", "wipe", "(I)I"⟩, prog_9_method_20_code, 3, some (.int), [])
abbrev m_M_length : xM := (⟨"PieceTextsModel", "length", "(I)I"⟩, prog_9_method_21_code, 2, some (.int), [])
abbrev m_M_look : xM := (⟨"PieceTextsModel", "look", "(III)I"⟩, prog_9_method_22_code, 7, some (.int), [])
abbrev m_M_piece : xM := (⟨"PieceTextsModel", "piece", "(III)I"⟩, prog_9_method_23_code, 7, some (.int), [])
abbrev m_M_find : xM := (⟨"PieceTextsModel", "find", "(III)I"⟩, prog_9_method_24_code, 5, some (.int), [])
abbrev m_M_differ : xM := (⟨"PieceTextsModel", "differ", "(II)I"⟩, prog_9_method_25_code, 4, some (.int), [])
abbrev m_M_count : xM := (⟨"PieceTextsModel", "count", "(I)I"⟩, prog_9_method_26_code, 2, some (.int), [])
abbrev m_L_write : xM := (⟨"PieceTextsLaw", "write", "(LPieceTexts;J[J)I"⟩, method_3_code, 5, some (.int), [(0, 9, 12, 13), (0, 9, 16, 15)])
abbrev m_L_put : xM := (⟨"PieceTextsLaw", "put", "(LPieceTexts;IIIII[J)I"⟩, method_4_code, 8, some (.int), [(0, 16, 19, 21), (0, 16, 23, 15)])
abbrev m_L_cut : xM := (⟨"PieceTextsLaw", "cut", "(LPieceTexts;IIII[J)I"⟩, method_5_code, 7, some (.int), [(0, 14, 17, 21), (0, 14, 21, 13), (0, 14, 25, 15)])
abbrev m_L_paste : xM := (⟨"PieceTextsLaw", "paste", "(LPieceTexts;III[J)I"⟩, method_6_code, 6, some (.int), [(0, 12, 15, 21), (0, 12, 19, 13), (0, 12, 23, 15)])
abbrev m_L_copy : xM := (⟨"PieceTextsLaw", "copy", "(LPieceTexts;IIII[J)I"⟩, method_7_code, 7, some (.int), [(0, 14, 17, 21), (0, 14, 21, 13), (0, 14, 25, 15)])
abbrev m_L_tag : xM := (⟨"PieceTextsLaw", "tag", "(LPieceTexts;IIIII[J)I"⟩, method_8_code, 8, some (.int), [(0, 16, 19, 21), (0, 16, 23, 15)])
abbrev m_L_wipe : xM := (⟨"PieceTextsLaw", "wipe", "(LPieceTexts;I[J)I"⟩, method_9_code, 4, some (.int), [(0, 9, 12, 21)])
abbrev m_L_look : xM := (⟨"PieceTextsLaw", "look", "(LPieceTexts;III[J)I"⟩, method_10_code, 6, some (.int), [(0, 12, 15, 21), (0, 12, 19, 13)])
abbrev m_L_piece : xM := (⟨"PieceTextsLaw", "piece", "(LPieceTexts;III[J)I"⟩, method_11_code, 6, some (.int), [(0, 12, 15, 21), (0, 12, 19, 13)])
abbrev m_L_find : xM := (⟨"PieceTextsLaw", "find", "(LPieceTexts;III[J)I"⟩, method_12_code, 6, some (.int), [(0, 12, 15, 21)])
abbrev m_L_differ : xM := (⟨"PieceTextsLaw", "differ", "(LPieceTexts;II[J)I"⟩, method_13_code, 5, some (.int), [(0, 10, 13, 21)])
abbrev m_L_law : xM := (⟨"PieceTextsLaw", "law", "([I)Z"⟩, code, 7, some (.boolean), [])
set_option maxRecDepth 20000 in
theorem w_objI : Cond.instanceMethod objectInit ∈ xT := xT_in (List.mem_append_right _ (List.mem_of_getElem? (i := 22) rfl)) rfl
set_option maxRecDepth 20000 in
theorem w_objC : Cond.code objectInit ⟨#[0xb1]⟩ 1 none ∈ xT := xT_in (List.mem_append_right _ (List.mem_of_getElem? (i := 23) rfl)) rfl
set_option maxRecDepth 20000 in
theorem wO_T_3 : Cond.methodLink "PieceTexts$Trees" 3 objectInit ∈ xT := xT_in (List.mem_append_right _ (List.mem_of_getElem? (i := 31) rfl)) rfl
set_option maxRecDepth 20000 in
theorem wf_P_22p : Cond.fieldLink "PieceTexts" 22 (TX_0 3).1 (TX_0 3).2.1 (TX_0 3).2.2.1 ∈ xT := xT_in (List.mem_append_right _ (List.mem_of_getElem? (i := 40) rfl)) rfl
set_option maxRecDepth 20000 in
theorem wm_P_21 : xml "PieceTexts" 21 m_T_init.1 (some "PieceTexts") ∈ xT := xT_in (List.mem_append_right _ (List.mem_of_getElem? (i := 28) rfl)) rfl
set_option maxRecDepth 20000 in
theorem wi_T : Cond.initialized "PieceTexts$Trees" ∈ xT := xT_in (List.mem_append_right _ (List.mem_of_getElem? (i := 2) rfl)) rfl
set_option maxRecDepth 20000 in
theorem wx_T_init : xcode m_T_init ∈ xT := xT_in (List.mem_append_right _ (List.mem_of_getElem? (i := 30) rfl)) rfl
set_option maxRecDepth 20000 in
theorem wv_T_init : Cond.instanceMethod m_T_init.1 ∈ xT := xT_in (List.mem_append_right _ (List.mem_of_getElem? (i := 29) rfl)) rfl
theorem wc_T_init : xwI m_T_init 0 := ⟨wv_T_init, rfl, ⟨_, _, rfl⟩, wi_T, wx_T_init, ⟨by decide, by decide⟩, by decide +kernel, by decide⟩
set_option maxRecDepth 20000 in
theorem wk_P_19 : Cond.classLink "PieceTexts" 19 "PieceTexts$Trees" ∈ xT := xT_in (List.mem_append_right _ (List.mem_of_getElem? (i := 26) rfl)) rfl
set_option maxRecDepth 20000 in
theorem wn_4 : Cond.instantiable "PieceTexts$Trees" 1 ∈ xT := xT_in (List.mem_append_right _ (List.mem_of_getElem? (i := 27) rfl)) rfl
set_option maxRecDepth 20000 in
theorem wf_P_15p : Cond.fieldLink "PieceTexts" 15 (TX_0 2).1 (TX_0 2).2.1 (TX_0 2).2.2.1 ∈ xT := xT_in (List.mem_append_right _ (List.mem_of_getElem? (i := 39) rfl)) rfl
set_option maxRecDepth 20000 in
theorem wk_P_13 : Cond.classLink "PieceTexts" 13 "PieceTexts$Piece" ∈ xT := xT_in (List.mem_append_right _ (List.mem_of_getElem? (i := 24) rfl)) rfl
set_option maxRecDepth 20000 in
theorem wo_2 : Cond.arrayOver (.object "PieceTexts$Piece") ∈ xT := xT_in (List.mem_append_right _ (List.mem_of_getElem? (i := 25) rfl)) rfl
set_option maxRecDepth 20000 in
theorem wf_P_9p : Cond.fieldLink "PieceTexts" 9 (TX_0 0).1 (TX_0 0).2.1 (TX_0 0).2.2.1 ∈ xT := xT_in (List.mem_append_right _ (List.mem_of_getElem? (i := 37) rfl)) rfl
set_option maxRecDepth 20000 in
theorem wa_0 : Cond.arrayClass .byte ∈ xT := xT_in (List.mem_append_right _ (List.mem_of_getElem? (i := 36) rfl)) rfl
set_option maxRecDepth 20000 in
theorem wO_P_1 : Cond.methodLink "PieceTexts" 1 objectInit ∈ xT := xT_in (List.mem_append_right _ (List.mem_of_getElem? (i := 21) rfl)) rfl
set_option maxRecDepth 20000 in
theorem wf_P_37 : xfl "PieceTexts" 37 (TX_0 1) none ∈ xT := xT_in (List.mem_append_right _ (List.mem_of_getElem? (i := 38) rfl)) rfl
set_option maxRecDepth 20000 in
theorem wf_P_9 : xfl "PieceTexts" 9 (TX_0 0) none ∈ xT := xT_in (List.mem_append_right _ (List.mem_of_getElem? (i := 37) rfl)) rfl
set_option maxRecDepth 20000 in
theorem wl_P_210 : Cond.constantLong "PieceTexts" 210 255 ∈ xT := xT_in (List.mem_append_right _ (List.mem_of_getElem? (i := 103) rfl)) rfl
set_option maxRecDepth 20000 in
theorem wk_P_41 : Cond.classLink "PieceTexts" 41 "java/lang/IllegalStateException" ∈ xT := xT_in (List.mem_append_right _ (List.mem_of_getElem? (i := 171) rfl)) rfl
set_option maxRecDepth 20000 in
theorem wi_IllegalStateException : Cond.initialized "java/lang/IllegalStateException" ∈ xT := xT_in (List.mem_append_right _ (List.mem_of_getElem? (i := 8) rfl)) rfl
set_option maxRecDepth 20000 in
theorem wt_P_43 : Cond.stringRef "PieceTexts" 43 "too many bytes" ∈ xT := xT_in (List.mem_append_right _ (List.mem_of_getElem? (i := 180) rfl)) rfl
set_option maxRecDepth 20000 in
theorem wj_P_45 : ∀ w ∈ vx_atS "PieceTexts" 45 "java/lang/IllegalStateException" ["java/lang/RuntimeException", "java/lang/Exception"], w ∈ xT := xatS_in (by decide +kernel)
set_option maxRecDepth 20000 in
theorem wk_P_30 : Cond.classLink "PieceTexts" 30 "java/lang/IllegalArgumentException" ∈ xT := xT_in (List.mem_append_right _ (List.mem_of_getElem? (i := 104) rfl)) rfl
set_option maxRecDepth 20000 in
theorem wi_IllegalArgumentException : Cond.initialized "java/lang/IllegalArgumentException" ∈ xT := xT_in (List.mem_append_right _ (List.mem_of_getElem? (i := 7) rfl)) rfl
set_option maxRecDepth 20000 in
theorem wt_P_32 : Cond.stringRef "PieceTexts" 32 "the lowest byte is 0" ∈ xT := xT_in (List.mem_append_right _ (List.mem_of_getElem? (i := 145) rfl)) rfl
set_option maxRecDepth 20000 in
theorem wj_P_34 : ∀ w ∈ vx_atS "PieceTexts" 34 "java/lang/IllegalArgumentException" ["java/lang/RuntimeException", "java/lang/Exception"], w ∈ xT := xatS_in (by decide +kernel)
set_option maxRecDepth 20000 in
theorem wm_P_26 : xml "PieceTexts" 26 m_P_bytesOf.1 none ∈ xT := xT_in (List.mem_append_right _ (List.mem_of_getElem? (i := 100) rfl)) rfl
set_option maxRecDepth 20000 in
theorem wi_P : Cond.initialized "PieceTexts" ∈ xT := xT_in (List.mem_append_right _ (List.mem_of_getElem? (i := 1) rfl)) rfl
set_option maxRecDepth 20000 in
theorem wx_P_bytesOf : xcode m_P_bytesOf ∈ xT := xT_in (List.mem_append_right _ (List.mem_of_getElem? (i := 102) rfl)) rfl
set_option maxRecDepth 20000 in
theorem ws_P_bytesOf : Cond.static m_P_bytesOf.1 ∈ xT := xT_in (List.mem_append_right _ (List.mem_of_getElem? (i := 101) rfl)) rfl
theorem wc_P_bytesOf : xwS m_P_bytesOf 1 := ⟨ws_P_bytesOf, wi_P, wx_P_bytesOf, ⟨by decide, by decide⟩, by decide +kernel, by decide⟩
set_option maxRecDepth 20000 in
theorem wm_P_46 : xml "PieceTexts" 46 m_P_append.1 none ∈ xT := xT_in (List.mem_append_right _ (List.mem_of_getElem? (i := 187) rfl)) rfl
set_option maxRecDepth 20000 in
theorem wx_P_append : xcode m_P_append ∈ xT := xT_in (List.mem_append_right _ (List.mem_of_getElem? (i := 190) rfl)) rfl
set_option maxRecDepth 20000 in
theorem wv_P_append : Cond.instanceMethod m_P_append.1 ∈ xT := xT_in (List.mem_append_right _ (List.mem_of_getElem? (i := 189) rfl)) rfl
set_option maxRecDepth 20000 in
theorem wz_P_append : Cond.selects "PieceTexts" m_P_append.1 m_P_append.1 ∈ xT := xT_in (List.mem_append_left _ (List.mem_of_getElem? (i := 6) rfl)) rfl
theorem wc_P_append : xwV m_P_append "PieceTexts" 1 := ⟨wv_P_append, wz_P_append, wi_P, wx_P_append, ⟨by decide, by decide⟩, by decide +kernel, by decide⟩
set_option maxRecDepth 20000 in
theorem wf_R_18 : xfl "PieceTexts$Row" 18 (TX_2 7) (some "PieceTexts") ∈ xT := xT_in (List.mem_append_right _ (List.mem_of_getElem? (i := 340) rfl)) rfl
set_option maxRecDepth 20000 in
theorem wf_P_15 : xfl "PieceTexts" 15 (TX_0 2) none ∈ xT := xT_in (List.mem_append_right _ (List.mem_of_getElem? (i := 39) rfl)) rfl
set_option maxRecDepth 20000 in
theorem wm_P_137 : xml "PieceTexts" 137 m_R_charactersOf.1 (some "PieceTexts") ∈ xT := xT_in (List.mem_append_right _ (List.mem_of_getElem? (i := 62) rfl)) rfl
set_option maxRecDepth 20000 in
theorem wi_R : Cond.initialized "PieceTexts$Row" ∈ xT := xT_in (List.mem_append_right _ (List.mem_of_getElem? (i := 10) rfl)) rfl
set_option maxRecDepth 20000 in
theorem wx_R_charactersOf : xcode m_R_charactersOf ∈ xT := xT_in (List.mem_append_right _ (List.mem_of_getElem? (i := 64) rfl)) rfl
set_option maxRecDepth 20000 in
theorem ws_R_charactersOf : Cond.static m_R_charactersOf.1 ∈ xT := xT_in (List.mem_append_right _ (List.mem_of_getElem? (i := 63) rfl)) rfl
theorem wc_R_charactersOf : xwS m_R_charactersOf 1 := ⟨ws_R_charactersOf, wi_R, wx_R_charactersOf, ⟨by decide, by decide⟩, by decide +kernel, by decide⟩
set_option maxRecDepth 20000 in
theorem wk_P_54 : Cond.classLink "PieceTexts" 54 "java/lang/IndexOutOfBoundsException" ∈ xT := xT_in (List.mem_append_right _ (List.mem_of_getElem? (i := 207) rfl)) rfl
set_option maxRecDepth 20000 in
theorem wi_IndexOutOfBoundsException : Cond.initialized "java/lang/IndexOutOfBoundsException" ∈ xT := xT_in (List.mem_append_right _ (List.mem_of_getElem? (i := 9) rfl)) rfl
set_option maxRecDepth 20000 in
theorem wt_P_216 : Cond.stringRef "PieceTexts" 216 "no such text" ∈ xT := xT_in (List.mem_append_right _ (List.mem_of_getElem? (i := 216) rfl)) rfl
set_option maxRecDepth 20000 in
theorem wj_P_58 : ∀ w ∈ vx_atS "PieceTexts" 58 "java/lang/IndexOutOfBoundsException" ["java/lang/RuntimeException", "java/lang/Exception"], w ∈ xT := xatS_in (by decide +kernel)
set_option maxRecDepth 20000 in
theorem wm_P_144 : xml "PieceTexts" 144 m_P_isText.1 none ∈ xT := xT_in (List.mem_append_right _ (List.mem_of_getElem? (i := 54) rfl)) rfl
set_option maxRecDepth 20000 in
theorem wx_P_isText : xcode m_P_isText ∈ xT := xT_in (List.mem_append_right _ (List.mem_of_getElem? (i := 57) rfl)) rfl
set_option maxRecDepth 20000 in
theorem wv_P_isText : Cond.instanceMethod m_P_isText.1 ∈ xT := xT_in (List.mem_append_right _ (List.mem_of_getElem? (i := 56) rfl)) rfl
set_option maxRecDepth 20000 in
theorem wz_P_isText : Cond.selects "PieceTexts" m_P_isText.1 m_P_isText.1 ∈ xT := xT_in (List.mem_append_left _ (List.mem_of_getElem? (i := 0) rfl)) rfl
theorem wc_P_isText : xwV m_P_isText "PieceTexts" 1 := ⟨wv_P_isText, wz_P_isText, wi_P, wx_P_isText, ⟨by decide, by decide⟩, by decide +kernel, by decide⟩
set_option maxRecDepth 20000 in
theorem wm_P_59 : xml "PieceTexts" 59 m_P_rootOf.1 none ∈ xT := xT_in (List.mem_append_right _ (List.mem_of_getElem? (i := 58) rfl)) rfl
set_option maxRecDepth 20000 in
theorem wx_P_rootOf : xcode m_P_rootOf ∈ xT := xT_in (List.mem_append_right _ (List.mem_of_getElem? (i := 61) rfl)) rfl
set_option maxRecDepth 20000 in
theorem wv_P_rootOf : Cond.instanceMethod m_P_rootOf.1 ∈ xT := xT_in (List.mem_append_right _ (List.mem_of_getElem? (i := 60) rfl)) rfl
set_option maxRecDepth 20000 in
theorem wz_P_rootOf : Cond.selects "PieceTexts" m_P_rootOf.1 m_P_rootOf.1 ∈ xT := xT_in (List.mem_append_left _ (List.mem_of_getElem? (i := 1) rfl)) rfl
theorem wc_P_rootOf : xwV m_P_rootOf "PieceTexts" 1 := ⟨wv_P_rootOf, wz_P_rootOf, wi_P, wx_P_rootOf, ⟨by decide, by decide⟩, by decide +kernel, by decide⟩
set_option maxRecDepth 20000 in
theorem wm_P_107 : xml "PieceTexts" 107 m_P_demandText.1 none ∈ xT := xT_in (List.mem_append_right _ (List.mem_of_getElem? (i := 203) rfl)) rfl
set_option maxRecDepth 20000 in
theorem wx_P_demandText : xcode m_P_demandText ∈ xT := xT_in (List.mem_append_right _ (List.mem_of_getElem? (i := 206) rfl)) rfl
set_option maxRecDepth 20000 in
theorem wv_P_demandText : Cond.instanceMethod m_P_demandText.1 ∈ xT := xT_in (List.mem_append_right _ (List.mem_of_getElem? (i := 205) rfl)) rfl
set_option maxRecDepth 20000 in
theorem wz_P_demandText : Cond.selects "PieceTexts" m_P_demandText.1 m_P_demandText.1 ∈ xT := xT_in (List.mem_append_left _ (List.mem_of_getElem? (i := 8) rfl)) rfl
theorem wc_P_demandText : xwV m_P_demandText "PieceTexts" 1 := ⟨wv_P_demandText, wz_P_demandText, wi_P, wx_P_demandText, ⟨by decide, by decide⟩, by decide +kernel, by decide⟩
set_option maxRecDepth 20000 in
theorem wt_P_148 : Cond.stringRef "PieceTexts" 148 "no such place" ∈ xT := xT_in (List.mem_append_right _ (List.mem_of_getElem? (i := 223) rfl)) rfl
set_option maxRecDepth 20000 in
theorem wf_R_15 : xfl "PieceTexts$Row" 15 (TX_2 6) (some "PieceTexts") ∈ xT := xT_in (List.mem_append_right _ (List.mem_of_getElem? (i := 338) rfl)) rfl
set_option maxRecDepth 20000 in
theorem wm_P_69 : xml "PieceTexts" 69 m_R_piecesOf.1 (some "PieceTexts") ∈ xT := xT_in (List.mem_append_right _ (List.mem_of_getElem? (i := 77) rfl)) rfl
set_option maxRecDepth 20000 in
theorem wx_R_piecesOf : xcode m_R_piecesOf ∈ xT := xT_in (List.mem_append_right _ (List.mem_of_getElem? (i := 79) rfl)) rfl
set_option maxRecDepth 20000 in
theorem ws_R_piecesOf : Cond.static m_R_piecesOf.1 ∈ xT := xT_in (List.mem_append_right _ (List.mem_of_getElem? (i := 78) rfl)) rfl
theorem wc_R_piecesOf : xwS m_R_piecesOf 1 := ⟨ws_R_piecesOf, wi_R, wx_R_piecesOf, ⟨by decide, by decide⟩, by decide +kernel, by decide⟩
set_option maxRecDepth 20000 in
theorem wt_P_224 : Cond.stringRef "PieceTexts" 224 "too many pieces" ∈ xT := xT_in (List.mem_append_right _ (List.mem_of_getElem? (i := 264) rfl)) rfl
set_option maxRecDepth 20000 in
theorem wm_P_203 : xml "PieceTexts" 203 m_P_piecesInAll.1 none ∈ xT := xT_in (List.mem_append_right _ (List.mem_of_getElem? (i := 73) rfl)) rfl
set_option maxRecDepth 20000 in
theorem wx_P_piecesInAll : xcode m_P_piecesInAll ∈ xT := xT_in (List.mem_append_right _ (List.mem_of_getElem? (i := 76) rfl)) rfl
set_option maxRecDepth 20000 in
theorem wv_P_piecesInAll : Cond.instanceMethod m_P_piecesInAll.1 ∈ xT := xT_in (List.mem_append_right _ (List.mem_of_getElem? (i := 75) rfl)) rfl
set_option maxRecDepth 20000 in
theorem wz_P_piecesInAll : Cond.selects "PieceTexts" m_P_piecesInAll.1 m_P_piecesInAll.1 ∈ xT := xT_in (List.mem_append_left _ (List.mem_of_getElem? (i := 3) rfl)) rfl
theorem wc_P_piecesInAll : xwV m_P_piecesInAll "PieceTexts" 0 := ⟨wv_P_piecesInAll, wz_P_piecesInAll, wi_P, wx_P_piecesInAll, ⟨by decide, by decide⟩, by decide +kernel, by decide⟩
set_option maxRecDepth 20000 in
theorem wt_P_222 : Cond.stringRef "PieceTexts" 222 "too many characters" ∈ xT := xT_in (List.mem_append_right _ (List.mem_of_getElem? (i := 263) rfl)) rfl
set_option maxRecDepth 20000 in
theorem wm_P_200 : xml "PieceTexts" 200 m_P_charactersInAll.1 none ∈ xT := xT_in (List.mem_append_right _ (List.mem_of_getElem? (i := 69) rfl)) rfl
set_option maxRecDepth 20000 in
theorem wx_P_charactersInAll : xcode m_P_charactersInAll ∈ xT := xT_in (List.mem_append_right _ (List.mem_of_getElem? (i := 72) rfl)) rfl
set_option maxRecDepth 20000 in
theorem wv_P_charactersInAll : Cond.instanceMethod m_P_charactersInAll.1 ∈ xT := xT_in (List.mem_append_right _ (List.mem_of_getElem? (i := 71) rfl)) rfl
set_option maxRecDepth 20000 in
theorem wz_P_charactersInAll : Cond.selects "PieceTexts" m_P_charactersInAll.1 m_P_charactersInAll.1 ∈ xT := xT_in (List.mem_append_left _ (List.mem_of_getElem? (i := 2) rfl)) rfl
theorem wc_P_charactersInAll : xwV m_P_charactersInAll "PieceTexts" 0 := ⟨wv_P_charactersInAll, wz_P_charactersInAll, wi_P, wx_P_charactersInAll, ⟨by decide, by decide⟩, by decide +kernel, by decide⟩
set_option maxRecDepth 20000 in
theorem wf_R_37 : xfl "PieceTexts$Row" 37 (TX_2 4) (some "PieceTexts") ∈ xT := xT_in (List.mem_append_right _ (List.mem_of_getElem? (i := 335) rfl)) rfl
set_option maxRecDepth 20000 in
theorem wf_R_31 : xfl "PieceTexts$Row" 31 (TX_2 1) (some "PieceTexts") ∈ xT := xT_in (List.mem_append_right _ (List.mem_of_getElem? (i := 325) rfl)) rfl
set_option maxRecDepth 20000 in
theorem wm_R_34 : xml "PieceTexts$Row" 34 m_R_piecesOf.1 none ∈ xT := xT_in (List.mem_append_right _ (List.mem_of_getElem? (i := 90) rfl)) rfl
set_option maxRecDepth 20000 in
theorem wf_R_21 : xfl "PieceTexts$Row" 21 (TX_2 3) (some "PieceTexts") ∈ xT := xT_in (List.mem_append_right _ (List.mem_of_getElem? (i := 333) rfl)) rfl
set_option maxRecDepth 20000 in
theorem wm_R_25 : xml "PieceTexts$Row" 25 m_R_charactersOf.1 none ∈ xT := xT_in (List.mem_append_right _ (List.mem_of_getElem? (i := 234) rfl)) rfl
set_option maxRecDepth 20000 in
theorem wm_Y_46 : xml "PieceTexts$Tally" 46 m_R_orderAt.1 (some "PieceTexts") ∈ xT := xT_in (List.mem_append_right _ (List.mem_of_getElem? (i := 231) rfl)) rfl
set_option maxRecDepth 20000 in
theorem wx_R_orderAt : xcode m_R_orderAt ∈ xT := xT_in (List.mem_append_right _ (List.mem_of_getElem? (i := 233) rfl)) rfl
set_option maxRecDepth 20000 in
theorem ws_R_orderAt : Cond.static m_R_orderAt.1 ∈ xT := xT_in (List.mem_append_right _ (List.mem_of_getElem? (i := 232) rfl)) rfl
theorem wc_R_orderAt : xwS m_R_orderAt 2 := ⟨ws_R_orderAt, wi_R, wx_R_orderAt, ⟨by decide, by decide⟩, by decide +kernel, by decide⟩
set_option maxRecDepth 20000 in
theorem wm_Y_35 : xml "PieceTexts$Tally" 35 m_R_piecesOf.1 (some "PieceTexts") ∈ xT := xT_in (List.mem_append_right _ (List.mem_of_getElem? (i := 238) rfl)) rfl
set_option maxRecDepth 20000 in
theorem wm_R_51 : xml "PieceTexts$Row" 51 m_R_startOf.1 none ∈ xT := xT_in (List.mem_append_right _ (List.mem_of_getElem? (i := 249) rfl)) rfl
set_option maxRecDepth 20000 in
theorem wx_R_startOf : xcode m_R_startOf ∈ xT := xT_in (List.mem_append_right _ (List.mem_of_getElem? (i := 251) rfl)) rfl
set_option maxRecDepth 20000 in
theorem ws_R_startOf : Cond.static m_R_startOf.1 ∈ xT := xT_in (List.mem_append_right _ (List.mem_of_getElem? (i := 250) rfl)) rfl
theorem wc_R_startOf : xwS m_R_startOf 2 := ⟨ws_R_startOf, wi_R, wx_R_startOf, ⟨by decide, by decide⟩, by decide +kernel, by decide⟩
set_option maxRecDepth 20000 in
theorem wf_R_48 : xfl "PieceTexts$Row" 48 (TX_2 0) (some "PieceTexts") ∈ xT := xT_in (List.mem_append_right _ (List.mem_of_getElem? (i := 321) rfl)) rfl
set_option maxRecDepth 20000 in
theorem wm_R_44 : xml "PieceTexts$Row" 44 m_R_numbered.1 none ∈ xT := xT_in (List.mem_append_right _ (List.mem_of_getElem? (i := 246) rfl)) rfl
set_option maxRecDepth 20000 in
theorem wx_R_numbered : xcode m_R_numbered ∈ xT := xT_in (List.mem_append_right _ (List.mem_of_getElem? (i := 248) rfl)) rfl
set_option maxRecDepth 20000 in
theorem ws_R_numbered : Cond.static m_R_numbered.1 ∈ xT := xT_in (List.mem_append_right _ (List.mem_of_getElem? (i := 247) rfl)) rfl
theorem wc_R_numbered : xwS m_R_numbered 2 := ⟨ws_R_numbered, wi_R, wx_R_numbered, ⟨by decide, by decide⟩, by decide +kernel, by decide⟩
set_option maxRecDepth 20000 in
theorem wm_R_40 : xml "PieceTexts$Row" 40 m_R_orderAt.1 none ∈ xT := xT_in (List.mem_append_right _ (List.mem_of_getElem? (i := 245) rfl)) rfl
set_option maxRecDepth 20000 in
theorem wf_R_54 : xfl "PieceTexts$Row" 54 (TX_2 2) (some "PieceTexts") ∈ xT := xT_in (List.mem_append_right _ (List.mem_of_getElem? (i := 330) rfl)) rfl
set_option maxRecDepth 20000 in
theorem wm_Y_32 : xml "PieceTexts$Tally" 32 m_R_tagAt.1 (some "PieceTexts") ∈ xT := xT_in (List.mem_append_right _ (List.mem_of_getElem? (i := 252) rfl)) rfl
set_option maxRecDepth 20000 in
theorem wx_R_tagAt : xcode m_R_tagAt ∈ xT := xT_in (List.mem_append_right _ (List.mem_of_getElem? (i := 254) rfl)) rfl
set_option maxRecDepth 20000 in
theorem ws_R_tagAt : Cond.static m_R_tagAt.1 ∈ xT := xT_in (List.mem_append_right _ (List.mem_of_getElem? (i := 253) rfl)) rfl
theorem wc_R_tagAt : xwS m_R_tagAt 2 := ⟨ws_R_tagAt, wi_R, wx_R_tagAt, ⟨by decide, by decide⟩, by decide +kernel, by decide⟩
set_option maxRecDepth 20000 in
theorem wm_Y_29 : xml "PieceTexts$Tally" 29 m_R_sourceAt.1 (some "PieceTexts") ∈ xT := xT_in (List.mem_append_right _ (List.mem_of_getElem? (i := 242) rfl)) rfl
set_option maxRecDepth 20000 in
theorem wx_R_sourceAt : xcode m_R_sourceAt ∈ xT := xT_in (List.mem_append_right _ (List.mem_of_getElem? (i := 244) rfl)) rfl
set_option maxRecDepth 20000 in
theorem ws_R_sourceAt : Cond.static m_R_sourceAt.1 ∈ xT := xT_in (List.mem_append_right _ (List.mem_of_getElem? (i := 243) rfl)) rfl
theorem wc_R_sourceAt : xwS m_R_sourceAt 2 := ⟨ws_R_sourceAt, wi_R, wx_R_sourceAt, ⟨by decide, by decide⟩, by decide +kernel, by decide⟩
set_option maxRecDepth 20000 in
theorem wm_Y_23 : xml "PieceTexts$Tally" 23 m_R_charactersOf.1 (some "PieceTexts") ∈ xT := xT_in (List.mem_append_right _ (List.mem_of_getElem? (i := 258) rfl)) rfl
set_option maxRecDepth 20000 in
theorem wm_Y_20 : xml "PieceTexts$Tally" 20 m_Y_meldsRight.1 none ∈ xT := xT_in (List.mem_append_right _ (List.mem_of_getElem? (i := 255) rfl)) rfl
set_option maxRecDepth 20000 in
theorem wi_Y : Cond.initialized "PieceTexts$Tally" ∈ xT := xT_in (List.mem_append_right _ (List.mem_of_getElem? (i := 11) rfl)) rfl
set_option maxRecDepth 20000 in
theorem wx_Y_meldsRight : xcode m_Y_meldsRight ∈ xT := xT_in (List.mem_append_right _ (List.mem_of_getElem? (i := 257) rfl)) rfl
set_option maxRecDepth 20000 in
theorem ws_Y_meldsRight : Cond.static m_Y_meldsRight.1 ∈ xT := xT_in (List.mem_append_right _ (List.mem_of_getElem? (i := 256) rfl)) rfl
theorem wc_Y_meldsRight : xwS m_Y_meldsRight 4 := ⟨ws_Y_meldsRight, wi_Y, wx_Y_meldsRight, ⟨by decide, by decide⟩, by decide +kernel, by decide⟩
set_option maxRecDepth 20000 in
theorem wm_Y_16 : xml "PieceTexts$Tally" 16 m_Y_meldsLeft.1 none ∈ xT := xT_in (List.mem_append_right _ (List.mem_of_getElem? (i := 239) rfl)) rfl
set_option maxRecDepth 20000 in
theorem wx_Y_meldsLeft : xcode m_Y_meldsLeft ∈ xT := xT_in (List.mem_append_right _ (List.mem_of_getElem? (i := 241) rfl)) rfl
set_option maxRecDepth 20000 in
theorem ws_Y_meldsLeft : Cond.static m_Y_meldsLeft.1 ∈ xT := xT_in (List.mem_append_right _ (List.mem_of_getElem? (i := 240) rfl)) rfl
theorem wc_Y_meldsLeft : xwS m_Y_meldsLeft 4 := ⟨ws_Y_meldsLeft, wi_Y, wx_Y_meldsLeft, ⟨by decide, by decide⟩, by decide +kernel, by decide⟩
set_option maxRecDepth 20000 in
theorem wm_Y_13 : xml "PieceTexts$Tally" 13 m_Y_behind.1 none ∈ xT := xT_in (List.mem_append_right _ (List.mem_of_getElem? (i := 235) rfl)) rfl
set_option maxRecDepth 20000 in
theorem wx_Y_behind : xcode m_Y_behind ∈ xT := xT_in (List.mem_append_right _ (List.mem_of_getElem? (i := 237) rfl)) rfl
set_option maxRecDepth 20000 in
theorem ws_Y_behind : Cond.static m_Y_behind.1 ∈ xT := xT_in (List.mem_append_right _ (List.mem_of_getElem? (i := 236) rfl)) rfl
theorem wc_Y_behind : xwS m_Y_behind 2 := ⟨ws_Y_behind, wi_Y, wx_Y_behind, ⟨by decide, by decide⟩, by decide +kernel, by decide⟩
set_option maxRecDepth 20000 in
theorem wm_Y_7 : xml "PieceTexts$Tally" 7 m_Y_before.1 none ∈ xT := xT_in (List.mem_append_right _ (List.mem_of_getElem? (i := 228) rfl)) rfl
set_option maxRecDepth 20000 in
theorem wx_Y_before : xcode m_Y_before ∈ xT := xT_in (List.mem_append_right _ (List.mem_of_getElem? (i := 230) rfl)) rfl
set_option maxRecDepth 20000 in
theorem ws_Y_before : Cond.static m_Y_before.1 ∈ xT := xT_in (List.mem_append_right _ (List.mem_of_getElem? (i := 229) rfl)) rfl
theorem wc_Y_before : xwS m_Y_before 2 := ⟨ws_Y_before, wi_Y, wx_Y_before, ⟨by decide, by decide⟩, by decide +kernel, by decide⟩
set_option maxRecDepth 20000 in
theorem wf_T_35 : xfl "PieceTexts$Trees" 35 (TX_2 3) (some "PieceTexts") ∈ xT := xT_in (List.mem_append_right _ (List.mem_of_getElem? (i := 332) rfl)) rfl
set_option maxRecDepth 20000 in
theorem wf_T_9 : xfl "PieceTexts$Trees" 9 (TX_4 0) none ∈ xT := xT_in (List.mem_append_right _ (List.mem_of_getElem? (i := 32) rfl)) rfl
set_option maxRecDepth 20000 in
theorem wf_T_18 : xfl "PieceTexts$Trees" 18 (TX_2 4) (some "PieceTexts") ∈ xT := xT_in (List.mem_append_right _ (List.mem_of_getElem? (i := 334) rfl)) rfl
set_option maxRecDepth 20000 in
theorem wf_R_9 : xfl "PieceTexts$Row" 9 (TX_2 5) (some "PieceTexts") ∈ xT := xT_in (List.mem_append_right _ (List.mem_of_getElem? (i := 336) rfl)) rfl
set_option maxRecDepth 20000 in
theorem wf_T_129 : xfl "PieceTexts$Trees" 129 (TX_2 7) (some "PieceTexts") ∈ xT := xT_in (List.mem_append_right _ (List.mem_of_getElem? (i := 341) rfl)) rfl
set_option maxRecDepth 20000 in
theorem wf_T_126 : xfl "PieceTexts$Trees" 126 (TX_2 6) (some "PieceTexts") ∈ xT := xT_in (List.mem_append_right _ (List.mem_of_getElem? (i := 339) rfl)) rfl
set_option maxRecDepth 20000 in
theorem wf_T_123 : xfl "PieceTexts$Trees" 123 (TX_2 5) (some "PieceTexts") ∈ xT := xT_in (List.mem_append_right _ (List.mem_of_getElem? (i := 337) rfl)) rfl
set_option maxRecDepth 20000 in
theorem wf_T_25 : xfl "PieceTexts$Trees" 25 (TX_2 1) (some "PieceTexts") ∈ xT := xT_in (List.mem_append_right _ (List.mem_of_getElem? (i := 324) rfl)) rfl
set_option maxRecDepth 20000 in
theorem wh_T_92 : Cond.methodLink "PieceTexts$Trees" 92 Lib.Math.max.name ∈ xT := xT_in (List.mem_append_right _ (List.mem_of_getElem? (i := 299) rfl)) rfl
set_option maxRecDepth 20000 in
theorem whs_max : Cond.static Lib.Math.max.name ∈ xT := xT_in (List.mem_append_right _ (List.mem_of_getElem? (i := 300) rfl)) rfl
set_option maxRecDepth 20000 in
theorem wi_Math : Cond.initialized "java/lang/Math" ∈ xT := xT_in (List.mem_append_right _ (List.mem_of_getElem? (i := 13) rfl)) rfl
set_option maxRecDepth 20000 in
theorem whc_max : Cond.code Lib.Math.max.name Lib.Math.max.code 2 (some .int) ∈ xT := xT_in (List.mem_append_right _ (List.mem_of_getElem? (i := 301) rfl)) rfl
set_option maxRecDepth 20000 in
theorem wm_T_108 : xml "PieceTexts$Trees" 108 m_T_sum.1 none ∈ xT := xT_in (List.mem_append_right _ (List.mem_of_getElem? (i := 296) rfl)) rfl
set_option maxRecDepth 20000 in
theorem wx_T_sum : xcode m_T_sum ∈ xT := xT_in (List.mem_append_right _ (List.mem_of_getElem? (i := 298) rfl)) rfl
set_option maxRecDepth 20000 in
theorem ws_T_sum : Cond.static m_T_sum.1 ∈ xT := xT_in (List.mem_append_right _ (List.mem_of_getElem? (i := 297) rfl)) rfl
theorem wc_T_sum : xwS m_T_sum 1 := ⟨ws_T_sum, wi_T, wx_T_sum, ⟨by decide, by decide⟩, by decide +kernel, by decide⟩
set_option maxRecDepth 20000 in
theorem wm_T_117 : xml "PieceTexts$Trees" 117 m_T_raiseRight.1 none ∈ xT := xT_in (List.mem_append_right _ (List.mem_of_getElem? (i := 302) rfl)) rfl
set_option maxRecDepth 20000 in
theorem wx_T_raiseRight : xcode m_T_raiseRight ∈ xT := xT_in (List.mem_append_right _ (List.mem_of_getElem? (i := 304) rfl)) rfl
set_option maxRecDepth 20000 in
theorem ws_T_raiseRight : Cond.static m_T_raiseRight.1 ∈ xT := xT_in (List.mem_append_right _ (List.mem_of_getElem? (i := 303) rfl)) rfl
theorem wc_T_raiseRight : xwS m_T_raiseRight 1 := ⟨ws_T_raiseRight, wi_T, wx_T_raiseRight, ⟨by decide, by decide⟩, by decide +kernel, by decide⟩
set_option maxRecDepth 20000 in
theorem wm_T_114 : xml "PieceTexts$Trees" 114 m_R_heightOf.1 (some "PieceTexts") ∈ xT := xT_in (List.mem_append_right _ (List.mem_of_getElem? (i := 292) rfl)) rfl
set_option maxRecDepth 20000 in
theorem wx_R_heightOf : xcode m_R_heightOf ∈ xT := xT_in (List.mem_append_right _ (List.mem_of_getElem? (i := 89) rfl)) rfl
set_option maxRecDepth 20000 in
theorem ws_R_heightOf : Cond.static m_R_heightOf.1 ∈ xT := xT_in (List.mem_append_right _ (List.mem_of_getElem? (i := 88) rfl)) rfl
theorem wc_R_heightOf : xwS m_R_heightOf 1 := ⟨ws_R_heightOf, wi_R, wx_R_heightOf, ⟨by decide, by decide⟩, by decide +kernel, by decide⟩
set_option maxRecDepth 20000 in
theorem wm_T_120 : xml "PieceTexts$Trees" 120 m_T_raiseLeft.1 none ∈ xT := xT_in (List.mem_append_right _ (List.mem_of_getElem? (i := 305) rfl)) rfl
set_option maxRecDepth 20000 in
theorem wx_T_raiseLeft : xcode m_T_raiseLeft ∈ xT := xT_in (List.mem_append_right _ (List.mem_of_getElem? (i := 307) rfl)) rfl
set_option maxRecDepth 20000 in
theorem ws_T_raiseLeft : Cond.static m_T_raiseLeft.1 ∈ xT := xT_in (List.mem_append_right _ (List.mem_of_getElem? (i := 306) rfl)) rfl
theorem wc_T_raiseLeft : xwS m_T_raiseLeft 1 := ⟨ws_T_raiseLeft, wi_T, wx_T_raiseLeft, ⟨by decide, by decide⟩, by decide +kernel, by decide⟩
set_option maxRecDepth 20000 in
theorem wm_T_111 : xml "PieceTexts$Trees" 111 m_T_balance.1 none ∈ xT := xT_in (List.mem_append_right _ (List.mem_of_getElem? (i := 293) rfl)) rfl
set_option maxRecDepth 20000 in
theorem wx_T_balance : xcode m_T_balance ∈ xT := xT_in (List.mem_append_right _ (List.mem_of_getElem? (i := 295) rfl)) rfl
set_option maxRecDepth 20000 in
theorem ws_T_balance : Cond.static m_T_balance.1 ∈ xT := xT_in (List.mem_append_right _ (List.mem_of_getElem? (i := 294) rfl)) rfl
theorem wc_T_balance : xwS m_T_balance 1 := ⟨ws_T_balance, wi_T, wx_T_balance, ⟨by decide, by decide⟩, by decide +kernel, by decide⟩
set_option maxRecDepth 20000 in
theorem wm_T_61 : xml "PieceTexts$Trees" 61 m_T_join.1 none ∈ xT := xT_in (List.mem_append_right _ (List.mem_of_getElem? (i := 289) rfl)) rfl
set_option maxRecDepth 20000 in
theorem wx_T_join : xcode m_T_join ∈ xT := xT_in (List.mem_append_right _ (List.mem_of_getElem? (i := 291) rfl)) rfl
set_option maxRecDepth 20000 in
theorem ws_T_join : Cond.static m_T_join.1 ∈ xT := xT_in (List.mem_append_right _ (List.mem_of_getElem? (i := 290) rfl)) rfl
theorem wc_T_join : xwS m_T_join 4 := ⟨ws_T_join, wi_T, wx_T_join, ⟨by decide, by decide⟩, by decide +kernel, by decide⟩
set_option maxRecDepth 20000 in
theorem wm_T_75 : xml "PieceTexts$Trees" 75 m_T_withoutFirst.1 none ∈ xT := xT_in (List.mem_append_right _ (List.mem_of_getElem? (i := 373) rfl)) rfl
set_option maxRecDepth 20000 in
theorem wx_T_withoutFirst : xcode m_T_withoutFirst ∈ xT := xT_in (List.mem_append_right _ (List.mem_of_getElem? (i := 375) rfl)) rfl
set_option maxRecDepth 20000 in
theorem ws_T_withoutFirst : Cond.static m_T_withoutFirst.1 ∈ xT := xT_in (List.mem_append_right _ (List.mem_of_getElem? (i := 374) rfl)) rfl
theorem wc_T_withoutFirst : xwS m_T_withoutFirst 2 := ⟨ws_T_withoutFirst, wi_T, wx_T_withoutFirst, ⟨by decide, by decide⟩, by decide +kernel, by decide⟩
set_option maxRecDepth 20000 in
theorem wm_T_79 : xml "PieceTexts$Trees" 79 m_T_withoutLast.1 none ∈ xT := xT_in (List.mem_append_right _ (List.mem_of_getElem? (i := 380) rfl)) rfl
set_option maxRecDepth 20000 in
theorem wx_T_withoutLast : xcode m_T_withoutLast ∈ xT := xT_in (List.mem_append_right _ (List.mem_of_getElem? (i := 382) rfl)) rfl
set_option maxRecDepth 20000 in
theorem ws_T_withoutLast : Cond.static m_T_withoutLast.1 ∈ xT := xT_in (List.mem_append_right _ (List.mem_of_getElem? (i := 381) rfl)) rfl
theorem wc_T_withoutLast : xwS m_T_withoutLast 2 := ⟨ws_T_withoutLast, wi_T, wx_T_withoutLast, ⟨by decide, by decide⟩, by decide +kernel, by decide⟩
set_option maxRecDepth 20000 in
theorem wm_T_42 : xml "PieceTexts$Trees" 42 m_T_giveBack.1 none ∈ xT := xT_in (List.mem_append_right _ (List.mem_of_getElem? (i := 376) rfl)) rfl
set_option maxRecDepth 20000 in
theorem wx_T_giveBack : xcode m_T_giveBack ∈ xT := xT_in (List.mem_append_right _ (List.mem_of_getElem? (i := 379) rfl)) rfl
set_option maxRecDepth 20000 in
theorem wv_T_giveBack : Cond.instanceMethod m_T_giveBack.1 ∈ xT := xT_in (List.mem_append_right _ (List.mem_of_getElem? (i := 378) rfl)) rfl
set_option maxRecDepth 20000 in
theorem wz_T_giveBack : Cond.selects "PieceTexts$Trees" m_T_giveBack.1 m_T_giveBack.1 ∈ xT := xT_in (List.mem_append_left _ (List.mem_of_getElem? (i := 14) rfl)) rfl
theorem wc_T_giveBack : xwV m_T_giveBack "PieceTexts$Trees" 1 := ⟨wv_T_giveBack, wz_T_giveBack, wi_T, wx_T_giveBack, ⟨by decide, by decide⟩, by decide +kernel, by decide⟩
set_option maxRecDepth 20000 in
theorem wf_T_28 : xfl "PieceTexts$Trees" 28 (TX_2 2) (some "PieceTexts") ∈ xT := xT_in (List.mem_append_right _ (List.mem_of_getElem? (i := 328) rfl)) rfl
set_option maxRecDepth 20000 in
theorem wf_T_21 : xfl "PieceTexts$Trees" 21 (TX_2 0) (some "PieceTexts") ∈ xT := xT_in (List.mem_append_right _ (List.mem_of_getElem? (i := 319) rfl)) rfl
set_option maxRecDepth 20000 in
theorem wm_T_72 : xml "PieceTexts$Trees" 72 m_T_firstOf.1 none ∈ xT := xT_in (List.mem_append_right _ (List.mem_of_getElem? (i := 370) rfl)) rfl
set_option maxRecDepth 20000 in
theorem wx_T_firstOf : xcode m_T_firstOf ∈ xT := xT_in (List.mem_append_right _ (List.mem_of_getElem? (i := 372) rfl)) rfl
set_option maxRecDepth 20000 in
theorem ws_T_firstOf : Cond.static m_T_firstOf.1 ∈ xT := xT_in (List.mem_append_right _ (List.mem_of_getElem? (i := 371) rfl)) rfl
theorem wc_T_firstOf : xwS m_T_firstOf 1 := ⟨ws_T_firstOf, wi_T, wx_T_firstOf, ⟨by decide, by decide⟩, by decide +kernel, by decide⟩
set_option maxRecDepth 20000 in
theorem wm_T_69 : xml "PieceTexts$Trees" 69 m_T_lastOf.1 none ∈ xT := xT_in (List.mem_append_right _ (List.mem_of_getElem? (i := 367) rfl)) rfl
set_option maxRecDepth 20000 in
theorem wx_T_lastOf : xcode m_T_lastOf ∈ xT := xT_in (List.mem_append_right _ (List.mem_of_getElem? (i := 369) rfl)) rfl
set_option maxRecDepth 20000 in
theorem ws_T_lastOf : Cond.static m_T_lastOf.1 ∈ xT := xT_in (List.mem_append_right _ (List.mem_of_getElem? (i := 368) rfl)) rfl
theorem wc_T_lastOf : xwS m_T_lastOf 1 := ⟨ws_T_lastOf, wi_T, wx_T_lastOf, ⟨by decide, by decide⟩, by decide +kernel, by decide⟩
set_option maxRecDepth 20000 in
theorem wO_H_1 : Cond.methodLink "PieceTexts$Halves" 1 objectInit ∈ xT := xT_in (List.mem_append_right _ (List.mem_of_getElem? (i := 274) rfl)) rfl
set_option maxRecDepth 20000 in
theorem wO_N_1 : Cond.methodLink "PieceTexts$Piece" 1 objectInit ∈ xT := xT_in (List.mem_append_right _ (List.mem_of_getElem? (i := 317) rfl)) rfl
set_option maxRecDepth 20000 in
theorem wm_T_17 : xml "PieceTexts$Trees" 17 m_N_init.1 (some "PieceTexts") ∈ xT := xT_in (List.mem_append_right _ (List.mem_of_getElem? (i := 314) rfl)) rfl
set_option maxRecDepth 20000 in
theorem wi_N : Cond.initialized "PieceTexts$Piece" ∈ xT := xT_in (List.mem_append_right _ (List.mem_of_getElem? (i := 14) rfl)) rfl
set_option maxRecDepth 20000 in
theorem wx_N_init : xcode m_N_init ∈ xT := xT_in (List.mem_append_right _ (List.mem_of_getElem? (i := 316) rfl)) rfl
set_option maxRecDepth 20000 in
theorem wv_N_init : Cond.instanceMethod m_N_init.1 ∈ xT := xT_in (List.mem_append_right _ (List.mem_of_getElem? (i := 315) rfl)) rfl
theorem wc_N_init : xwI m_N_init 0 := ⟨wv_N_init, rfl, ⟨_, _, rfl⟩, wi_N, wx_N_init, ⟨by decide, by decide⟩, by decide +kernel, by decide⟩
set_option maxRecDepth 20000 in
theorem wk_T_15 : Cond.classLink "PieceTexts$Trees" 15 "PieceTexts$Piece" ∈ xT := xT_in (List.mem_append_right _ (List.mem_of_getElem? (i := 312) rfl)) rfl
set_option maxRecDepth 20000 in
theorem wn_2 : Cond.instantiable "PieceTexts$Piece" 8 ∈ xT := xT_in (List.mem_append_right _ (List.mem_of_getElem? (i := 313) rfl)) rfl
set_option maxRecDepth 20000 in
theorem wm_T_31 : xml "PieceTexts$Trees" 31 m_T_alone.1 none ∈ xT := xT_in (List.mem_append_right _ (List.mem_of_getElem? (i := 359) rfl)) rfl
set_option maxRecDepth 20000 in
theorem wx_T_alone : xcode m_T_alone ∈ xT := xT_in (List.mem_append_right _ (List.mem_of_getElem? (i := 361) rfl)) rfl
set_option maxRecDepth 20000 in
theorem ws_T_alone : Cond.static m_T_alone.1 ∈ xT := xT_in (List.mem_append_right _ (List.mem_of_getElem? (i := 360) rfl)) rfl
theorem wc_T_alone : xwS m_T_alone 1 := ⟨ws_T_alone, wi_T, wx_T_alone, ⟨by decide, by decide⟩, by decide +kernel, by decide⟩
set_option maxRecDepth 20000 in
theorem wf_T_54 : xfl "PieceTexts$Trees" 54 (TX_1 1) (some "PieceTexts") ∈ xT := xT_in (List.mem_append_right _ (List.mem_of_getElem? (i := 278) rfl)) rfl
set_option maxRecDepth 20000 in
theorem wf_T_53 : xfl "PieceTexts$Trees" 53 (TX_1 0) (some "PieceTexts") ∈ xT := xT_in (List.mem_append_right _ (List.mem_of_getElem? (i := 276) rfl)) rfl
set_option maxRecDepth 20000 in
theorem wm_T_65 : xml "PieceTexts$Trees" 65 m_T_take.1 none ∈ xT := xT_in (List.mem_append_right _ (List.mem_of_getElem? (i := 308) rfl)) rfl
set_option maxRecDepth 20000 in
theorem wx_T_take : xcode m_T_take ∈ xT := xT_in (List.mem_append_right _ (List.mem_of_getElem? (i := 311) rfl)) rfl
set_option maxRecDepth 20000 in
theorem wv_T_take : Cond.instanceMethod m_T_take.1 ∈ xT := xT_in (List.mem_append_right _ (List.mem_of_getElem? (i := 310) rfl)) rfl
set_option maxRecDepth 20000 in
theorem wz_T_take : Cond.selects "PieceTexts$Trees" m_T_take.1 m_T_take.1 ∈ xT := xT_in (List.mem_append_left _ (List.mem_of_getElem? (i := 12) rfl)) rfl
theorem wc_T_take : xwV m_T_take "PieceTexts$Trees" 3 := ⟨wv_T_take, wz_T_take, wi_T, wx_T_take, ⟨by decide, by decide⟩, by decide +kernel, by decide⟩
set_option maxRecDepth 20000 in
theorem wm_T_49 : xml "PieceTexts$Trees" 49 m_T_partInto.1 none ∈ xT := xT_in (List.mem_append_right _ (List.mem_of_getElem? (i := 284) rfl)) rfl
set_option maxRecDepth 20000 in
theorem wx_T_partInto : xcode m_T_partInto ∈ xT := xT_in (List.mem_append_right _ (List.mem_of_getElem? (i := 287) rfl)) rfl
set_option maxRecDepth 20000 in
theorem wv_T_partInto : Cond.instanceMethod m_T_partInto.1 ∈ xT := xT_in (List.mem_append_right _ (List.mem_of_getElem? (i := 286) rfl)) rfl
set_option maxRecDepth 20000 in
theorem wz_T_partInto : Cond.selects "PieceTexts$Trees" m_T_partInto.1 m_T_partInto.1 ∈ xT := xT_in (List.mem_append_left _ (List.mem_of_getElem? (i := 11) rfl)) rfl
theorem wc_T_partInto : xwV m_T_partInto "PieceTexts$Trees" 4 := ⟨wv_T_partInto, wz_T_partInto, wi_T, wx_T_partInto, ⟨by decide, by decide⟩, by decide +kernel, by decide⟩
set_option maxRecDepth 20000 in
theorem wm_T_55 : xml "PieceTexts$Trees" 55 m_R_charactersOf.1 (some "PieceTexts") ∈ xT := xT_in (List.mem_append_right _ (List.mem_of_getElem? (i := 288) rfl)) rfl
set_option maxRecDepth 20000 in
theorem wm_T_48 : xml "PieceTexts$Trees" 48 m_H_init.1 (some "PieceTexts") ∈ xT := xT_in (List.mem_append_right _ (List.mem_of_getElem? (i := 271) rfl)) rfl
set_option maxRecDepth 20000 in
theorem wi_H : Cond.initialized "PieceTexts$Halves" ∈ xT := xT_in (List.mem_append_right _ (List.mem_of_getElem? (i := 12) rfl)) rfl
set_option maxRecDepth 20000 in
theorem wx_H_init : xcode m_H_init ∈ xT := xT_in (List.mem_append_right _ (List.mem_of_getElem? (i := 273) rfl)) rfl
set_option maxRecDepth 20000 in
theorem wv_H_init : Cond.instanceMethod m_H_init.1 ∈ xT := xT_in (List.mem_append_right _ (List.mem_of_getElem? (i := 272) rfl)) rfl
theorem wc_H_init : xwI m_H_init 0 := ⟨wv_H_init, rfl, ⟨_, _, rfl⟩, wi_H, wx_H_init, ⟨by decide, by decide⟩, by decide +kernel, by decide⟩
set_option maxRecDepth 20000 in
theorem wk_T_46 : Cond.classLink "PieceTexts$Trees" 46 "PieceTexts$Halves" ∈ xT := xT_in (List.mem_append_right _ (List.mem_of_getElem? (i := 269) rfl)) rfl
set_option maxRecDepth 20000 in
theorem wn_1 : Cond.instantiable "PieceTexts$Halves" 2 ∈ xT := xT_in (List.mem_append_right _ (List.mem_of_getElem? (i := 270) rfl)) rfl
set_option maxRecDepth 20000 in
theorem wm_P_99 : xml "PieceTexts" 99 m_P_become.1 none ∈ xT := xT_in (List.mem_append_right _ (List.mem_of_getElem? (i := 383) rfl)) rfl
set_option maxRecDepth 20000 in
theorem wx_P_become : xcode m_P_become ∈ xT := xT_in (List.mem_append_right _ (List.mem_of_getElem? (i := 386) rfl)) rfl
set_option maxRecDepth 20000 in
theorem wv_P_become : Cond.instanceMethod m_P_become.1 ∈ xT := xT_in (List.mem_append_right _ (List.mem_of_getElem? (i := 385) rfl)) rfl
set_option maxRecDepth 20000 in
theorem wz_P_become : Cond.selects "PieceTexts" m_P_become.1 m_P_become.1 ∈ xT := xT_in (List.mem_append_left _ (List.mem_of_getElem? (i := 15) rfl)) rfl
theorem wc_P_become : xwV m_P_become "PieceTexts" 2 := ⟨wv_P_become, wz_P_become, wi_P, wx_P_become, ⟨by decide, by decide⟩, by decide +kernel, by decide⟩
set_option maxRecDepth 20000 in
theorem wm_P_92 : xml "PieceTexts" 92 m_T_meet.1 (some "PieceTexts") ∈ xT := xT_in (List.mem_append_right _ (List.mem_of_getElem? (i := 363) rfl)) rfl
set_option maxRecDepth 20000 in
theorem wx_T_meet : xcode m_T_meet ∈ xT := xT_in (List.mem_append_right _ (List.mem_of_getElem? (i := 366) rfl)) rfl
set_option maxRecDepth 20000 in
theorem wv_T_meet : Cond.instanceMethod m_T_meet.1 ∈ xT := xT_in (List.mem_append_right _ (List.mem_of_getElem? (i := 365) rfl)) rfl
set_option maxRecDepth 20000 in
theorem wz_T_meet : Cond.selects "PieceTexts$Trees" m_T_meet.1 m_T_meet.1 ∈ xT := xT_in (List.mem_append_left _ (List.mem_of_getElem? (i := 13) rfl)) rfl
theorem wc_T_meet : xwV m_T_meet "PieceTexts$Trees" 2 := ⟨wv_T_meet, wz_T_meet, wi_T, wx_T_meet, ⟨by decide, by decide⟩, by decide +kernel, by decide⟩
set_option maxRecDepth 20000 in
theorem wf_P_96 : xfl "PieceTexts" 96 (TX_1 1) (some "PieceTexts") ∈ xT := xT_in (List.mem_append_right _ (List.mem_of_getElem? (i := 277) rfl)) rfl
set_option maxRecDepth 20000 in
theorem wf_P_86 : xfl "PieceTexts" 86 (TX_1 0) (some "PieceTexts") ∈ xT := xT_in (List.mem_append_right _ (List.mem_of_getElem? (i := 275) rfl)) rfl
set_option maxRecDepth 20000 in
theorem wf_P_22 : xfl "PieceTexts" 22 (TX_0 3) none ∈ xT := xT_in (List.mem_append_right _ (List.mem_of_getElem? (i := 40) rfl)) rfl
set_option maxRecDepth 20000 in
theorem wm_P_82 : xml "PieceTexts" 82 m_T_take.1 (some "PieceTexts") ∈ xT := xT_in (List.mem_append_right _ (List.mem_of_getElem? (i := 362) rfl)) rfl
set_option maxRecDepth 20000 in
theorem wm_P_78 : xml "PieceTexts" 78 m_T_part.1 (some "PieceTexts") ∈ xT := xT_in (List.mem_append_right _ (List.mem_of_getElem? (i := 265) rfl)) rfl
set_option maxRecDepth 20000 in
theorem wx_T_part : xcode m_T_part ∈ xT := xT_in (List.mem_append_right _ (List.mem_of_getElem? (i := 268) rfl)) rfl
set_option maxRecDepth 20000 in
theorem wv_T_part : Cond.instanceMethod m_T_part.1 ∈ xT := xT_in (List.mem_append_right _ (List.mem_of_getElem? (i := 267) rfl)) rfl
set_option maxRecDepth 20000 in
theorem wz_T_part : Cond.selects "PieceTexts$Trees" m_T_part.1 m_T_part.1 ∈ xT := xT_in (List.mem_append_left _ (List.mem_of_getElem? (i := 10) rfl)) rfl
theorem wc_T_part : xwV m_T_part "PieceTexts$Trees" 2 := ⟨wv_T_part, wz_T_part, wi_T, wx_T_part, ⟨by decide, by decide⟩, by decide +kernel, by decide⟩
set_option maxRecDepth 20000 in
theorem wm_P_75 : xml "PieceTexts" 75 m_P_demandRoom.1 none ∈ xT := xT_in (List.mem_append_right _ (List.mem_of_getElem? (i := 259) rfl)) rfl
set_option maxRecDepth 20000 in
theorem wx_P_demandRoom : xcode m_P_demandRoom ∈ xT := xT_in (List.mem_append_right _ (List.mem_of_getElem? (i := 262) rfl)) rfl
set_option maxRecDepth 20000 in
theorem wv_P_demandRoom : Cond.instanceMethod m_P_demandRoom.1 ∈ xT := xT_in (List.mem_append_right _ (List.mem_of_getElem? (i := 261) rfl)) rfl
set_option maxRecDepth 20000 in
theorem wz_P_demandRoom : Cond.selects "PieceTexts" m_P_demandRoom.1 m_P_demandRoom.1 ∈ xT := xT_in (List.mem_append_left _ (List.mem_of_getElem? (i := 9) rfl)) rfl
theorem wc_P_demandRoom : xwV m_P_demandRoom "PieceTexts" 2 := ⟨wv_P_demandRoom, wz_P_demandRoom, wi_P, wx_P_demandRoom, ⟨by decide, by decide⟩, by decide +kernel, by decide⟩
set_option maxRecDepth 20000 in
theorem wm_P_63 : xml "PieceTexts" 63 m_Y_afterPut.1 (some "PieceTexts") ∈ xT := xT_in (List.mem_append_right _ (List.mem_of_getElem? (i := 225) rfl)) rfl
set_option maxRecDepth 20000 in
theorem wx_Y_afterPut : xcode m_Y_afterPut ∈ xT := xT_in (List.mem_append_right _ (List.mem_of_getElem? (i := 227) rfl)) rfl
set_option maxRecDepth 20000 in
theorem ws_Y_afterPut : Cond.static m_Y_afterPut.1 ∈ xT := xT_in (List.mem_append_right _ (List.mem_of_getElem? (i := 226) rfl)) rfl
theorem wc_Y_afterPut : xwS m_Y_afterPut 5 := ⟨ws_Y_afterPut, wi_Y, wx_Y_afterPut, ⟨by decide, by decide⟩, by decide +kernel, by decide⟩
set_option maxRecDepth 20000 in
theorem wm_P_50 : xml "PieceTexts" 50 m_P_demandEdge.1 none ∈ xT := xT_in (List.mem_append_right _ (List.mem_of_getElem? (i := 199) rfl)) rfl
set_option maxRecDepth 20000 in
theorem wx_P_demandEdge : xcode m_P_demandEdge ∈ xT := xT_in (List.mem_append_right _ (List.mem_of_getElem? (i := 202) rfl)) rfl
set_option maxRecDepth 20000 in
theorem wv_P_demandEdge : Cond.instanceMethod m_P_demandEdge.1 ∈ xT := xT_in (List.mem_append_right _ (List.mem_of_getElem? (i := 201) rfl)) rfl
set_option maxRecDepth 20000 in
theorem wz_P_demandEdge : Cond.selects "PieceTexts" m_P_demandEdge.1 m_P_demandEdge.1 ∈ xT := xT_in (List.mem_append_left _ (List.mem_of_getElem? (i := 7) rfl)) rfl
theorem wc_P_demandEdge : xwV m_P_demandEdge "PieceTexts" 2 := ⟨wv_P_demandEdge, wz_P_demandEdge, wi_P, wx_P_demandEdge, ⟨by decide, by decide⟩, by decide +kernel, by decide⟩
set_option maxRecDepth 20000 in
theorem wt_P_56 : Cond.stringRef "PieceTexts" 56 "no such bytes" ∈ xT := xT_in (List.mem_append_right _ (List.mem_of_getElem? (i := 224) rfl)) rfl
set_option maxRecDepth 20000 in
theorem wt_P_220 : Cond.stringRef "PieceTexts" 220 "not another text without characters" ∈ xT := xT_in (List.mem_append_right _ (List.mem_of_getElem? (i := 403) rfl)) rfl
set_option maxRecDepth 20000 in
theorem wt_P_218 : Cond.stringRef "PieceTexts" 218 "no such range" ∈ xT := xT_in (List.mem_append_right _ (List.mem_of_getElem? (i := 398) rfl)) rfl
set_option maxRecDepth 20000 in
theorem wm_P_118 : xml "PieceTexts" 118 m_Y_within.1 (some "PieceTexts") ∈ xT := xT_in (List.mem_append_right _ (List.mem_of_getElem? (i := 407) rfl)) rfl
set_option maxRecDepth 20000 in
theorem wx_Y_within : xcode m_Y_within ∈ xT := xT_in (List.mem_append_right _ (List.mem_of_getElem? (i := 409) rfl)) rfl
set_option maxRecDepth 20000 in
theorem ws_Y_within : Cond.static m_Y_within.1 ∈ xT := xT_in (List.mem_append_right _ (List.mem_of_getElem? (i := 408) rfl)) rfl
theorem wc_Y_within : xwS m_Y_within 3 := ⟨ws_Y_within, wi_Y, wx_Y_within, ⟨by decide, by decide⟩, by decide +kernel, by decide⟩
set_option maxRecDepth 20000 in
theorem wm_P_114 : xml "PieceTexts" 114 m_Y_afterCut.1 (some "PieceTexts") ∈ xT := xT_in (List.mem_append_right _ (List.mem_of_getElem? (i := 404) rfl)) rfl
set_option maxRecDepth 20000 in
theorem wx_Y_afterCut : xcode m_Y_afterCut ∈ xT := xT_in (List.mem_append_right _ (List.mem_of_getElem? (i := 406) rfl)) rfl
set_option maxRecDepth 20000 in
theorem ws_Y_afterCut : Cond.static m_Y_afterCut.1 ∈ xT := xT_in (List.mem_append_right _ (List.mem_of_getElem? (i := 405) rfl)) rfl
theorem wc_Y_afterCut : xwS m_Y_afterCut 3 := ⟨ws_Y_afterCut, wi_Y, wx_Y_afterCut, ⟨by decide, by decide⟩, by decide +kernel, by decide⟩
set_option maxRecDepth 20000 in
theorem wm_P_111 : xml "PieceTexts" 111 m_P_demandFree.1 none ∈ xT := xT_in (List.mem_append_right _ (List.mem_of_getElem? (i := 399) rfl)) rfl
set_option maxRecDepth 20000 in
theorem wx_P_demandFree : xcode m_P_demandFree ∈ xT := xT_in (List.mem_append_right _ (List.mem_of_getElem? (i := 402) rfl)) rfl
set_option maxRecDepth 20000 in
theorem wv_P_demandFree : Cond.instanceMethod m_P_demandFree.1 ∈ xT := xT_in (List.mem_append_right _ (List.mem_of_getElem? (i := 401) rfl)) rfl
set_option maxRecDepth 20000 in
theorem wz_P_demandFree : Cond.selects "PieceTexts" m_P_demandFree.1 m_P_demandFree.1 ∈ xT := xT_in (List.mem_append_left _ (List.mem_of_getElem? (i := 17) rfl)) rfl
theorem wc_P_demandFree : xwV m_P_demandFree "PieceTexts" 2 := ⟨wv_P_demandFree, wz_P_demandFree, wi_P, wx_P_demandFree, ⟨by decide, by decide⟩, by decide +kernel, by decide⟩
set_option maxRecDepth 20000 in
theorem wm_P_103 : xml "PieceTexts" 103 m_P_demandRange.1 none ∈ xT := xT_in (List.mem_append_right _ (List.mem_of_getElem? (i := 394) rfl)) rfl
set_option maxRecDepth 20000 in
theorem wx_P_demandRange : xcode m_P_demandRange ∈ xT := xT_in (List.mem_append_right _ (List.mem_of_getElem? (i := 397) rfl)) rfl
set_option maxRecDepth 20000 in
theorem wv_P_demandRange : Cond.instanceMethod m_P_demandRange.1 ∈ xT := xT_in (List.mem_append_right _ (List.mem_of_getElem? (i := 396) rfl)) rfl
set_option maxRecDepth 20000 in
theorem wz_P_demandRange : Cond.selects "PieceTexts" m_P_demandRange.1 m_P_demandRange.1 ∈ xT := xT_in (List.mem_append_left _ (List.mem_of_getElem? (i := 16) rfl)) rfl
theorem wc_P_demandRange : xwV m_P_demandRange "PieceTexts" 3 := ⟨wv_P_demandRange, wz_P_demandRange, wi_P, wx_P_demandRange, ⟨by decide, by decide⟩, by decide +kernel, by decide⟩
set_option maxRecDepth 20000 in
theorem wm_P_123 : xml "PieceTexts" 123 m_Y_afterPaste.1 (some "PieceTexts") ∈ xT := xT_in (List.mem_append_right _ (List.mem_of_getElem? (i := 418) rfl)) rfl
set_option maxRecDepth 20000 in
theorem wx_Y_afterPaste : xcode m_Y_afterPaste ∈ xT := xT_in (List.mem_append_right _ (List.mem_of_getElem? (i := 420) rfl)) rfl
set_option maxRecDepth 20000 in
theorem ws_Y_afterPaste : Cond.static m_Y_afterPaste.1 ∈ xT := xT_in (List.mem_append_right _ (List.mem_of_getElem? (i := 419) rfl)) rfl
theorem wc_Y_afterPaste : xwS m_Y_afterPaste 3 := ⟨ws_Y_afterPaste, wi_Y, wx_Y_afterPaste, ⟨by decide, by decide⟩, by decide +kernel, by decide⟩
set_option maxRecDepth 20000 in
theorem wt_P_121 : Cond.stringRef "PieceTexts" 121 "a text can't be pasted into itself" ∈ xT := xT_in (List.mem_append_right _ (List.mem_of_getElem? (i := 417) rfl)) rfl
set_option maxRecDepth 20000 in
theorem wh_T_82 : Cond.methodLink "PieceTexts$Trees" 82 Lib.Math.min.name ∈ xT := xT_in (List.mem_append_right _ (List.mem_of_getElem? (i := 432) rfl)) rfl
set_option maxRecDepth 20000 in
theorem whs_min : Cond.static Lib.Math.min.name ∈ xT := xT_in (List.mem_append_right _ (List.mem_of_getElem? (i := 433) rfl)) rfl
set_option maxRecDepth 20000 in
theorem whc_min : Cond.code Lib.Math.min.name Lib.Math.min.code 2 (some .int) ∈ xT := xT_in (List.mem_append_right _ (List.mem_of_getElem? (i := 434) rfl)) rfl
set_option maxRecDepth 20000 in
theorem wm_T_88 : xml "PieceTexts$Trees" 88 m_T_twin.1 none ∈ xT := xT_in (List.mem_append_right _ (List.mem_of_getElem? (i := 435) rfl)) rfl
set_option maxRecDepth 20000 in
theorem wx_T_twin : xcode m_T_twin ∈ xT := xT_in (List.mem_append_right _ (List.mem_of_getElem? (i := 431) rfl)) rfl
set_option maxRecDepth 20000 in
theorem wv_T_twin : Cond.instanceMethod m_T_twin.1 ∈ xT := xT_in (List.mem_append_right _ (List.mem_of_getElem? (i := 430) rfl)) rfl
set_option maxRecDepth 20000 in
theorem wz_T_twin : Cond.selects "PieceTexts$Trees" m_T_twin.1 m_T_twin.1 ∈ xT := xT_in (List.mem_append_left _ (List.mem_of_getElem? (i := 18) rfl)) rfl
theorem wc_T_twin : xwV m_T_twin "PieceTexts$Trees" 4 := ⟨wv_T_twin, wz_T_twin, wi_T, wx_T_twin, ⟨by decide, by decide⟩, by decide +kernel, by decide⟩
set_option maxRecDepth 20000 in
theorem wm_P_127 : xml "PieceTexts" 127 m_T_twin.1 (some "PieceTexts") ∈ xT := xT_in (List.mem_append_right _ (List.mem_of_getElem? (i := 428) rfl)) rfl
set_option maxRecDepth 20000 in
theorem wm_Y_49 : xml "PieceTexts$Tally" 49 m_R_numbered.1 (some "PieceTexts") ∈ xT := xT_in (List.mem_append_right _ (List.mem_of_getElem? (i := 452) rfl)) rfl
set_option maxRecDepth 20000 in
theorem wm_Y_38 : xml "PieceTexts$Tally" 38 m_Y_tagged.1 none ∈ xT := xT_in (List.mem_append_right _ (List.mem_of_getElem? (i := 446) rfl)) rfl
set_option maxRecDepth 20000 in
theorem wx_Y_tagged : xcode m_Y_tagged ∈ xT := xT_in (List.mem_append_right _ (List.mem_of_getElem? (i := 448) rfl)) rfl
set_option maxRecDepth 20000 in
theorem ws_Y_tagged : Cond.static m_Y_tagged.1 ∈ xT := xT_in (List.mem_append_right _ (List.mem_of_getElem? (i := 447) rfl)) rfl
theorem wc_Y_tagged : xwS m_Y_tagged 3 := ⟨ws_Y_tagged, wi_Y, wx_Y_tagged, ⟨by decide, by decide⟩, by decide +kernel, by decide⟩
set_option maxRecDepth 20000 in
theorem wf_Y_62 : xfl "PieceTexts$Tally" 62 (TX_2 2) (some "PieceTexts") ∈ xT := xT_in (List.mem_append_right _ (List.mem_of_getElem? (i := 329) rfl)) rfl
set_option maxRecDepth 20000 in
theorem wf_Y_53 : xfl "PieceTexts$Tally" 53 (TX_2 0) (some "PieceTexts") ∈ xT := xT_in (List.mem_append_right _ (List.mem_of_getElem? (i := 320) rfl)) rfl
set_option maxRecDepth 20000 in
theorem wf_Y_59 : xfl "PieceTexts$Tally" 59 (TX_2 1) (some "PieceTexts") ∈ xT := xT_in (List.mem_append_right _ (List.mem_of_getElem? (i := 326) rfl)) rfl
set_option maxRecDepth 20000 in
theorem wm_Y_42 : xml "PieceTexts$Tally" 42 m_Y_withinTagged.1 none ∈ xT := xT_in (List.mem_append_right _ (List.mem_of_getElem? (i := 449) rfl)) rfl
set_option maxRecDepth 20000 in
theorem wx_Y_withinTagged : xcode m_Y_withinTagged ∈ xT := xT_in (List.mem_append_right _ (List.mem_of_getElem? (i := 451) rfl)) rfl
set_option maxRecDepth 20000 in
theorem ws_Y_withinTagged : Cond.static m_Y_withinTagged.1 ∈ xT := xT_in (List.mem_append_right _ (List.mem_of_getElem? (i := 450) rfl)) rfl
theorem wc_Y_withinTagged : xwS m_Y_withinTagged 5 := ⟨ws_Y_withinTagged, wi_Y, wx_Y_withinTagged, ⟨by decide, by decide⟩, by decide +kernel, by decide⟩
set_option maxRecDepth 20000 in
theorem wm_T_104 : xml "PieceTexts$Trees" 104 m_T_meet.1 none ∈ xT := xT_in (List.mem_append_right _ (List.mem_of_getElem? (i := 459) rfl)) rfl
set_option maxRecDepth 20000 in
theorem wm_T_98 : xml "PieceTexts$Trees" 98 m_Y_tagged.1 (some "PieceTexts") ∈ xT := xT_in (List.mem_append_right _ (List.mem_of_getElem? (i := 458) rfl)) rfl
set_option maxRecDepth 20000 in
theorem wm_T_95 : xml "PieceTexts$Trees" 95 m_T_retag.1 none ∈ xT := xT_in (List.mem_append_right _ (List.mem_of_getElem? (i := 457) rfl)) rfl
set_option maxRecDepth 20000 in
theorem wx_T_retag : xcode m_T_retag ∈ xT := xT_in (List.mem_append_right _ (List.mem_of_getElem? (i := 456) rfl)) rfl
set_option maxRecDepth 20000 in
theorem wv_T_retag : Cond.instanceMethod m_T_retag.1 ∈ xT := xT_in (List.mem_append_right _ (List.mem_of_getElem? (i := 455) rfl)) rfl
set_option maxRecDepth 20000 in
theorem wz_T_retag : Cond.selects "PieceTexts$Trees" m_T_retag.1 m_T_retag.1 ∈ xT := xT_in (List.mem_append_left _ (List.mem_of_getElem? (i := 19) rfl)) rfl
theorem wc_T_retag : xwV m_T_retag "PieceTexts$Trees" 4 := ⟨wv_T_retag, wz_T_retag, wi_T, wx_T_retag, ⟨by decide, by decide⟩, by decide +kernel, by decide⟩
set_option maxRecDepth 20000 in
theorem wm_P_134 : xml "PieceTexts" 134 m_T_retag.1 (some "PieceTexts") ∈ xT := xT_in (List.mem_append_right _ (List.mem_of_getElem? (i := 453) rfl)) rfl
set_option maxRecDepth 20000 in
theorem wm_P_131 : xml "PieceTexts" 131 m_Y_afterTag.1 (some "PieceTexts") ∈ xT := xT_in (List.mem_append_right _ (List.mem_of_getElem? (i := 443) rfl)) rfl
set_option maxRecDepth 20000 in
theorem wx_Y_afterTag : xcode m_Y_afterTag ∈ xT := xT_in (List.mem_append_right _ (List.mem_of_getElem? (i := 445) rfl)) rfl
set_option maxRecDepth 20000 in
theorem ws_Y_afterTag : Cond.static m_Y_afterTag.1 ∈ xT := xT_in (List.mem_append_right _ (List.mem_of_getElem? (i := 444) rfl)) rfl
theorem wc_Y_afterTag : xwS m_Y_afterTag 5 := ⟨ws_Y_afterTag, wi_Y, wx_Y_afterTag, ⟨by decide, by decide⟩, by decide +kernel, by decide⟩
set_option maxRecDepth 20000 in
theorem wm_T_38 : xml "PieceTexts$Trees" 38 m_T_giveBackAll.1 none ∈ xT := xT_in (List.mem_append_right _ (List.mem_of_getElem? (i := 471) rfl)) rfl
set_option maxRecDepth 20000 in
theorem wx_T_giveBackAll : xcode m_T_giveBackAll ∈ xT := xT_in (List.mem_append_right _ (List.mem_of_getElem? (i := 470) rfl)) rfl
set_option maxRecDepth 20000 in
theorem wv_T_giveBackAll : Cond.instanceMethod m_T_giveBackAll.1 ∈ xT := xT_in (List.mem_append_right _ (List.mem_of_getElem? (i := 469) rfl)) rfl
set_option maxRecDepth 20000 in
theorem wz_T_giveBackAll : Cond.selects "PieceTexts$Trees" m_T_giveBackAll.1 m_T_giveBackAll.1 ∈ xT := xT_in (List.mem_append_left _ (List.mem_of_getElem? (i := 20) rfl)) rfl
theorem wc_T_giveBackAll : xwV m_T_giveBackAll "PieceTexts$Trees" 2 := ⟨wv_T_giveBackAll, wz_T_giveBackAll, wi_T, wx_T_giveBackAll, ⟨by decide, by decide⟩, by decide +kernel, by decide⟩
set_option maxRecDepth 20000 in
theorem wm_P_140 : xml "PieceTexts" 140 m_T_giveBackAll.1 (some "PieceTexts") ∈ xT := xT_in (List.mem_append_right _ (List.mem_of_getElem? (i := 467) rfl)) rfl
set_option maxRecDepth 20000 in
theorem wm_P_154 : xml "PieceTexts" 154 m_P_byteAt.1 none ∈ xT := xT_in (List.mem_append_right _ (List.mem_of_getElem? (i := 480) rfl)) rfl
set_option maxRecDepth 20000 in
theorem wx_P_byteAt : xcode m_P_byteAt ∈ xT := xT_in (List.mem_append_right _ (List.mem_of_getElem? (i := 483) rfl)) rfl
set_option maxRecDepth 20000 in
theorem wv_P_byteAt : Cond.instanceMethod m_P_byteAt.1 ∈ xT := xT_in (List.mem_append_right _ (List.mem_of_getElem? (i := 482) rfl)) rfl
set_option maxRecDepth 20000 in
theorem wz_P_byteAt : Cond.selects "PieceTexts" m_P_byteAt.1 m_P_byteAt.1 ∈ xT := xT_in (List.mem_append_left _ (List.mem_of_getElem? (i := 21) rfl)) rfl
theorem wc_P_byteAt : xwV m_P_byteAt "PieceTexts" 1 := ⟨wv_P_byteAt, wz_P_byteAt, wi_P, wx_P_byteAt, ⟨by decide, by decide⟩, by decide +kernel, by decide⟩
set_option maxRecDepth 20000 in
theorem wm_P_150 : xml "PieceTexts" 150 m_R_sourceAt.1 (some "PieceTexts") ∈ xT := xT_in (List.mem_append_right _ (List.mem_of_getElem? (i := 479) rfl)) rfl
set_option maxRecDepth 20000 in
theorem wm_P_158 : xml "PieceTexts" 158 m_R_tagAt.1 (some "PieceTexts") ∈ xT := xT_in (List.mem_append_right _ (List.mem_of_getElem? (i := 484) rfl)) rfl
set_option maxRecDepth 20000 in
theorem wm_P_161 : xml "PieceTexts" 161 m_R_orderAt.1 (some "PieceTexts") ∈ xT := xT_in (List.mem_append_right _ (List.mem_of_getElem? (i := 485) rfl)) rfl
set_option maxRecDepth 20000 in
theorem wt_P_164 : Cond.stringRef "PieceTexts" 164 "no such property of a character" ∈ xT := xT_in (List.mem_append_right _ (List.mem_of_getElem? (i := 486) rfl)) rfl
set_option maxRecDepth 20000 in
theorem wt_P_170 : Cond.stringRef "PieceTexts" 170 "no such piece" ∈ xT := xT_in (List.mem_append_right _ (List.mem_of_getElem? (i := 495) rfl)) rfl
set_option maxRecDepth 20000 in
theorem wm_P_172 : xml "PieceTexts" 172 m_R_startOf.1 (some "PieceTexts") ∈ xT := xT_in (List.mem_append_right _ (List.mem_of_getElem? (i := 496) rfl)) rfl
set_option maxRecDepth 20000 in
theorem wf_P_175 : xfl "PieceTexts" 175 (TX_2 0) (some "PieceTexts") ∈ xT := xT_in (List.mem_append_right _ (List.mem_of_getElem? (i := 322) rfl)) rfl
set_option maxRecDepth 20000 in
theorem wf_P_178 : xfl "PieceTexts" 178 (TX_2 1) (some "PieceTexts") ∈ xT := xT_in (List.mem_append_right _ (List.mem_of_getElem? (i := 327) rfl)) rfl
set_option maxRecDepth 20000 in
theorem wf_P_181 : xfl "PieceTexts" 181 (TX_2 2) (some "PieceTexts") ∈ xT := xT_in (List.mem_append_right _ (List.mem_of_getElem? (i := 331) rfl)) rfl
set_option maxRecDepth 20000 in
theorem wt_P_184 : Cond.stringRef "PieceTexts" 184 "no such property of a piece" ∈ xT := xT_in (List.mem_append_right _ (List.mem_of_getElem? (i := 497) rfl)) rfl
set_option maxRecDepth 20000 in
theorem wm_P_166 : xml "PieceTexts" 166 m_R_numbered.1 (some "PieceTexts") ∈ xT := xT_in (List.mem_append_right _ (List.mem_of_getElem? (i := 494) rfl)) rfl
set_option maxRecDepth 20000 in
theorem wf_D_33 : xfl "PieceTexts$Reader" 33 (TX_3 3) none ∈ xT := xT_in (List.mem_append_right _ (List.mem_of_getElem? (i := 517) rfl)) rfl
set_option maxRecDepth 20000 in
theorem wm_D_30 : xml "PieceTexts$Reader" 30 m_R_startOf.1 (some "PieceTexts") ∈ xT := xT_in (List.mem_append_right _ (List.mem_of_getElem? (i := 513) rfl)) rfl
set_option maxRecDepth 20000 in
theorem wf_D_19 : xfl "PieceTexts$Reader" 19 (TX_3 1) none ∈ xT := xT_in (List.mem_append_right _ (List.mem_of_getElem? (i := 515) rfl)) rfl
set_option maxRecDepth 20000 in
theorem wf_D_27 : xfl "PieceTexts$Reader" 27 (TX_3 2) none ∈ xT := xT_in (List.mem_append_right _ (List.mem_of_getElem? (i := 516) rfl)) rfl
set_option maxRecDepth 20000 in
theorem wm_D_23 : xml "PieceTexts$Reader" 23 m_R_numbered.1 (some "PieceTexts") ∈ xT := xT_in (List.mem_append_right _ (List.mem_of_getElem? (i := 512) rfl)) rfl
set_option maxRecDepth 20000 in
theorem wm_D_13 : xml "PieceTexts$Reader" 13 m_R_orderAt.1 (some "PieceTexts") ∈ xT := xT_in (List.mem_append_right _ (List.mem_of_getElem? (i := 511) rfl)) rfl
set_option maxRecDepth 20000 in
theorem wf_D_7p : Cond.fieldLink "PieceTexts$Reader" 7 (TX_3 0).1 (TX_3 0).2.1 (TX_3 0).2.2.1 ∈ xT := xT_in (List.mem_append_right _ (List.mem_of_getElem? (i := 514) rfl)) rfl
set_option maxRecDepth 20000 in
theorem wO_D_1 : Cond.methodLink "PieceTexts$Reader" 1 objectInit ∈ xT := xT_in (List.mem_append_right _ (List.mem_of_getElem? (i := 510) rfl)) rfl
set_option maxRecDepth 20000 in
theorem wf_D_7 : xfl "PieceTexts$Reader" 7 (TX_3 0) none ∈ xT := xT_in (List.mem_append_right _ (List.mem_of_getElem? (i := 514) rfl)) rfl
set_option maxRecDepth 20000 in
theorem wf_D_41 : xfl "PieceTexts$Reader" 41 (TX_2 1) (some "PieceTexts") ∈ xT := xT_in (List.mem_append_right _ (List.mem_of_getElem? (i := 323) rfl)) rfl
set_option maxRecDepth 20000 in
theorem wf_D_36 : xfl "PieceTexts$Reader" 36 (TX_2 0) (some "PieceTexts") ∈ xT := xT_in (List.mem_append_right _ (List.mem_of_getElem? (i := 318) rfl)) rfl
set_option maxRecDepth 20000 in
theorem wm_P_188 : xml "PieceTexts" 188 m_D_init.1 (some "PieceTexts") ∈ xT := xT_in (List.mem_append_right _ (List.mem_of_getElem? (i := 507) rfl)) rfl
set_option maxRecDepth 20000 in
theorem wi_D : Cond.initialized "PieceTexts$Reader" ∈ xT := xT_in (List.mem_append_right _ (List.mem_of_getElem? (i := 15) rfl)) rfl
set_option maxRecDepth 20000 in
theorem wx_D_init : xcode m_D_init ∈ xT := xT_in (List.mem_append_right _ (List.mem_of_getElem? (i := 509) rfl)) rfl
set_option maxRecDepth 20000 in
theorem wv_D_init : Cond.instanceMethod m_D_init.1 ∈ xT := xT_in (List.mem_append_right _ (List.mem_of_getElem? (i := 508) rfl)) rfl
theorem wc_D_init : xwI m_D_init 2 := ⟨wv_D_init, rfl, ⟨_, _, rfl⟩, wi_D, wx_D_init, ⟨by decide, by decide⟩, by decide +kernel, by decide⟩
set_option maxRecDepth 20000 in
theorem wk_P_186 : Cond.classLink "PieceTexts" 186 "PieceTexts$Reader" ∈ xT := xT_in (List.mem_append_right _ (List.mem_of_getElem? (i := 505) rfl)) rfl
set_option maxRecDepth 20000 in
theorem wn_3 : Cond.instantiable "PieceTexts$Reader" 4 ∈ xT := xT_in (List.mem_append_right _ (List.mem_of_getElem? (i := 506) rfl)) rfl
set_option maxRecDepth 20000 in
theorem wm_P_190 : xml "PieceTexts" 190 m_D_nextSource.1 (some "PieceTexts") ∈ xT := xT_in (List.mem_append_right _ (List.mem_of_getElem? (i := 527) rfl)) rfl
set_option maxRecDepth 20000 in
theorem wx_D_nextSource : xcode m_D_nextSource ∈ xT := xT_in (List.mem_append_right _ (List.mem_of_getElem? (i := 530) rfl)) rfl
set_option maxRecDepth 20000 in
theorem wv_D_nextSource : Cond.instanceMethod m_D_nextSource.1 ∈ xT := xT_in (List.mem_append_right _ (List.mem_of_getElem? (i := 529) rfl)) rfl
set_option maxRecDepth 20000 in
theorem wz_D_nextSource : Cond.selects "PieceTexts$Reader" m_D_nextSource.1 m_D_nextSource.1 ∈ xT := xT_in (List.mem_append_left _ (List.mem_of_getElem? (i := 22) rfl)) rfl
theorem wc_D_nextSource : xwV m_D_nextSource "PieceTexts$Reader" 0 := ⟨wv_D_nextSource, wz_D_nextSource, wi_D, wx_D_nextSource, ⟨by decide, by decide⟩, by decide +kernel, by decide⟩
set_option maxRecDepth 20000 in
theorem wh_P_194 : Cond.methodLink "PieceTexts" 194 Lib.Math.max.name ∈ xT := xT_in (List.mem_append_right _ (List.mem_of_getElem? (i := 538) rfl)) rfl
set_option maxRecDepth 20000 in
theorem wm_R_57 : xml "PieceTexts$Row" 57 m_R_heightOf.1 none ∈ xT := xT_in (List.mem_append_right _ (List.mem_of_getElem? (i := 87) rfl)) rfl
set_option maxRecDepth 20000 in
theorem wm_P_212 : xml "PieceTexts" 212 m_R_isShallow.1 (some "PieceTexts") ∈ xT := xT_in (List.mem_append_right _ (List.mem_of_getElem? (i := 84) rfl)) rfl
set_option maxRecDepth 20000 in
theorem wx_R_isShallow : xcode m_R_isShallow ∈ xT := xT_in (List.mem_append_right _ (List.mem_of_getElem? (i := 86) rfl)) rfl
set_option maxRecDepth 20000 in
theorem ws_R_isShallow : Cond.static m_R_isShallow.1 ∈ xT := xT_in (List.mem_append_right _ (List.mem_of_getElem? (i := 85) rfl)) rfl
theorem wc_R_isShallow : xwS m_R_isShallow 1 := ⟨ws_R_isShallow, wi_R, wx_R_isShallow, ⟨by decide, by decide⟩, by decide +kernel, by decide⟩
set_option maxRecDepth 20000 in
theorem wm_P_206 : xml "PieceTexts" 206 m_P_allShallow.1 none ∈ xT := xT_in (List.mem_append_right _ (List.mem_of_getElem? (i := 80) rfl)) rfl
set_option maxRecDepth 20000 in
theorem wx_P_allShallow : xcode m_P_allShallow ∈ xT := xT_in (List.mem_append_right _ (List.mem_of_getElem? (i := 83) rfl)) rfl
set_option maxRecDepth 20000 in
theorem wv_P_allShallow : Cond.instanceMethod m_P_allShallow.1 ∈ xT := xT_in (List.mem_append_right _ (List.mem_of_getElem? (i := 82) rfl)) rfl
set_option maxRecDepth 20000 in
theorem wz_P_allShallow : Cond.selects "PieceTexts" m_P_allShallow.1 m_P_allShallow.1 ∈ xT := xT_in (List.mem_append_left _ (List.mem_of_getElem? (i := 4) rfl)) rfl
theorem wc_P_allShallow : xwV m_P_allShallow "PieceTexts" 0 := ⟨wv_P_allShallow, wz_P_allShallow, wi_P, wx_P_allShallow, ⟨by decide, by decide⟩, by decide +kernel, by decide⟩
set_option maxRecDepth 20000 in
theorem wf_M_25p : Cond.fieldLink "PieceTextsModel" 25 (TX_5 7).1 (TX_5 7).2.1 (TX_5 7).2.2.1 ∈ xT := xT_in (List.mem_append_right _ (List.mem_of_getElem? (i := 552) rfl)) rfl
set_option maxRecDepth 20000 in
theorem wa_3 : Cond.arrayClass .int ∈ xT := xT_in (List.mem_append_right _ (List.mem_of_getElem? (i := 570) rfl)) rfl
set_option maxRecDepth 20000 in
theorem wf_M_22p : Cond.fieldLink "PieceTextsModel" 22 (TX_5 6).1 (TX_5 6).2.1 (TX_5 6).2.2.1 ∈ xT := xT_in (List.mem_append_right _ (List.mem_of_getElem? (i := 551) rfl)) rfl
set_option maxRecDepth 20000 in
theorem wf_M_19p : Cond.fieldLink "PieceTextsModel" 19 (TX_5 5).1 (TX_5 5).2.1 (TX_5 5).2.2.1 ∈ xT := xT_in (List.mem_append_right _ (List.mem_of_getElem? (i := 550) rfl)) rfl
set_option maxRecDepth 20000 in
theorem wf_M_16p : Cond.fieldLink "PieceTextsModel" 16 (TX_5 4).1 (TX_5 4).2.1 (TX_5 4).2.2.1 ∈ xT := xT_in (List.mem_append_right _ (List.mem_of_getElem? (i := 549) rfl)) rfl
set_option maxRecDepth 20000 in
theorem wf_M_13p : Cond.fieldLink "PieceTextsModel" 13 (TX_5 3).1 (TX_5 3).2.1 (TX_5 3).2.2.1 ∈ xT := xT_in (List.mem_append_right _ (List.mem_of_getElem? (i := 548) rfl)) rfl
set_option maxRecDepth 20000 in
theorem wf_M_7p : Cond.fieldLink "PieceTextsModel" 7 (TX_5 2).1 (TX_5 2).2.1 (TX_5 2).2.2.1 ∈ xT := xT_in (List.mem_append_right _ (List.mem_of_getElem? (i := 547) rfl)) rfl
set_option maxRecDepth 20000 in
theorem wO_M_1 : Cond.methodLink "PieceTextsModel" 1 objectInit ∈ xT := xT_in (List.mem_append_right _ (List.mem_of_getElem? (i := 544) rfl)) rfl
set_option maxRecDepth 20000 in
theorem wf_M_28 : xfl "PieceTextsModel" 28 (TX_5 0) none ∈ xT := xT_in (List.mem_append_right _ (List.mem_of_getElem? (i := 545) rfl)) rfl
set_option maxRecDepth 20000 in
theorem wf_M_13 : xfl "PieceTextsModel" 13 (TX_5 3) none ∈ xT := xT_in (List.mem_append_right _ (List.mem_of_getElem? (i := 548) rfl)) rfl
set_option maxRecDepth 20000 in
theorem wm_M_36 : xml "PieceTextsModel" 36 m_M_size.1 none ∈ xT := xT_in (List.mem_append_right _ (List.mem_of_getElem? (i := 595) rfl)) rfl
set_option maxRecDepth 20000 in
theorem wi_M : Cond.initialized "PieceTextsModel" ∈ xT := xT_in (List.mem_append_right _ (List.mem_of_getElem? (i := 3) rfl)) rfl
set_option maxRecDepth 20000 in
theorem wx_M_size : xcode m_M_size ∈ xT := xT_in (List.mem_append_right _ (List.mem_of_getElem? (i := 598) rfl)) rfl
set_option maxRecDepth 20000 in
theorem wv_M_size : Cond.instanceMethod m_M_size.1 ∈ xT := xT_in (List.mem_append_right _ (List.mem_of_getElem? (i := 597) rfl)) rfl
set_option maxRecDepth 20000 in
theorem wz_M_size : Cond.selects "PieceTextsModel" m_M_size.1 m_M_size.1 ∈ xT := xT_in (List.mem_append_left _ (List.mem_of_getElem? (i := 25) rfl)) rfl
theorem wc_M_size : xwV m_M_size "PieceTextsModel" 1 := ⟨wv_M_size, wz_M_size, wi_M, wx_M_size, ⟨by decide, by decide⟩, by decide +kernel, by decide⟩
set_option maxRecDepth 20000 in
theorem wm_M_32 : xml "PieceTextsModel" 32 m_M_isText.1 none ∈ xT := xT_in (List.mem_append_right _ (List.mem_of_getElem? (i := 592) rfl)) rfl
set_option maxRecDepth 20000 in
theorem wx_M_isText : xcode m_M_isText ∈ xT := xT_in (List.mem_append_right _ (List.mem_of_getElem? (i := 594) rfl)) rfl
set_option maxRecDepth 20000 in
theorem ws_M_isText : Cond.static m_M_isText.1 ∈ xT := xT_in (List.mem_append_right _ (List.mem_of_getElem? (i := 593) rfl)) rfl
theorem wc_M_isText : xwS m_M_isText 1 := ⟨ws_M_isText, wi_M, wx_M_isText, ⟨by decide, by decide⟩, by decide +kernel, by decide⟩
set_option maxRecDepth 20000 in
theorem wm_M_40 : xml "PieceTextsModel" 40 m_M_isPlace.1 none ∈ xT := xT_in (List.mem_append_right _ (List.mem_of_getElem? (i := 588) rfl)) rfl
set_option maxRecDepth 20000 in
theorem wx_M_isPlace : xcode m_M_isPlace ∈ xT := xT_in (List.mem_append_right _ (List.mem_of_getElem? (i := 591) rfl)) rfl
set_option maxRecDepth 20000 in
theorem wv_M_isPlace : Cond.instanceMethod m_M_isPlace.1 ∈ xT := xT_in (List.mem_append_right _ (List.mem_of_getElem? (i := 590) rfl)) rfl
set_option maxRecDepth 20000 in
theorem wz_M_isPlace : Cond.selects "PieceTextsModel" m_M_isPlace.1 m_M_isPlace.1 ∈ xT := xT_in (List.mem_append_left _ (List.mem_of_getElem? (i := 24) rfl)) rfl
theorem wc_M_isPlace : xwV m_M_isPlace "PieceTextsModel" 2 := ⟨wv_M_isPlace, wz_M_isPlace, wi_M, wx_M_isPlace, ⟨by decide, by decide⟩, by decide +kernel, by decide⟩
set_option maxRecDepth 20000 in
theorem wl_M_44 : Cond.constantLong "PieceTextsModel" 44 255 ∈ xT := xT_in (List.mem_append_right _ (List.mem_of_getElem? (i := 579) rfl)) rfl
set_option maxRecDepth 20000 in
theorem wm_M_49 : xml "PieceTextsModel" 49 m_M_raise.1 none ∈ xT := xT_in (List.mem_append_right _ (List.mem_of_getElem? (i := 580) rfl)) rfl
set_option maxRecDepth 20000 in
theorem wx_M_raise : xcode m_M_raise ∈ xT := xT_in (List.mem_append_right _ (List.mem_of_getElem? (i := 583) rfl)) rfl
set_option maxRecDepth 20000 in
theorem wv_M_raise : Cond.instanceMethod m_M_raise.1 ∈ xT := xT_in (List.mem_append_right _ (List.mem_of_getElem? (i := 582) rfl)) rfl
set_option maxRecDepth 20000 in
theorem wz_M_raise : Cond.selects "PieceTextsModel" m_M_raise.1 m_M_raise.1 ∈ xT := xT_in (List.mem_append_left _ (List.mem_of_getElem? (i := 23) rfl)) rfl
theorem wc_M_raise : xwV m_M_raise "PieceTextsModel" 1 := ⟨wv_M_raise, wz_M_raise, wi_M, wx_M_raise, ⟨by decide, by decide⟩, by decide +kernel, by decide⟩
set_option maxRecDepth 20000 in
theorem wf_M_46 : xfl "PieceTextsModel" 46 (TX_5 1) none ∈ xT := xT_in (List.mem_append_right _ (List.mem_of_getElem? (i := 546) rfl)) rfl
set_option maxRecDepth 20000 in
theorem wf_M_7 : xfl "PieceTextsModel" 7 (TX_5 2) none ∈ xT := xT_in (List.mem_append_right _ (List.mem_of_getElem? (i := 547) rfl)) rfl
set_option maxRecDepth 20000 in
theorem wf_M_19 : xfl "PieceTextsModel" 19 (TX_5 5) none ∈ xT := xT_in (List.mem_append_right _ (List.mem_of_getElem? (i := 550) rfl)) rfl
set_option maxRecDepth 20000 in
theorem wf_M_25 : xfl "PieceTextsModel" 25 (TX_5 7) none ∈ xT := xT_in (List.mem_append_right _ (List.mem_of_getElem? (i := 552) rfl)) rfl
set_option maxRecDepth 20000 in
theorem wf_M_16 : xfl "PieceTextsModel" 16 (TX_5 4) none ∈ xT := xT_in (List.mem_append_right _ (List.mem_of_getElem? (i := 549) rfl)) rfl
set_option maxRecDepth 20000 in
theorem wf_M_22 : xfl "PieceTextsModel" 22 (TX_5 6) none ∈ xT := xT_in (List.mem_append_right _ (List.mem_of_getElem? (i := 551) rfl)) rfl
set_option maxRecDepth 20000 in
theorem wm_M_52 : xml "PieceTextsModel" 52 m_M_parts.1 none ∈ xT := xT_in (List.mem_append_right _ (List.mem_of_getElem? (i := 611) rfl)) rfl
set_option maxRecDepth 20000 in
theorem wx_M_parts : xcode m_M_parts ∈ xT := xT_in (List.mem_append_right _ (List.mem_of_getElem? (i := 614) rfl)) rfl
set_option maxRecDepth 20000 in
theorem wv_M_parts : Cond.instanceMethod m_M_parts.1 ∈ xT := xT_in (List.mem_append_right _ (List.mem_of_getElem? (i := 613) rfl)) rfl
set_option maxRecDepth 20000 in
theorem wz_M_parts : Cond.selects "PieceTextsModel" m_M_parts.1 m_M_parts.1 ∈ xT := xT_in (List.mem_append_left _ (List.mem_of_getElem? (i := 29) rfl)) rfl
theorem wc_M_parts : xwV m_M_parts "PieceTextsModel" 2 := ⟨wv_M_parts, wz_M_parts, wi_M, wx_M_parts, ⟨by decide, by decide⟩, by decide +kernel, by decide⟩
set_option maxRecDepth 20000 in
theorem wm_M_55 : xml "PieceTextsModel" 55 m_M_pieces.1 none ∈ xT := xT_in (List.mem_append_right _ (List.mem_of_getElem? (i := 607) rfl)) rfl
set_option maxRecDepth 20000 in
theorem wx_M_pieces : xcode m_M_pieces ∈ xT := xT_in (List.mem_append_right _ (List.mem_of_getElem? (i := 610) rfl)) rfl
set_option maxRecDepth 20000 in
theorem wv_M_pieces : Cond.instanceMethod m_M_pieces.1 ∈ xT := xT_in (List.mem_append_right _ (List.mem_of_getElem? (i := 609) rfl)) rfl
set_option maxRecDepth 20000 in
theorem wz_M_pieces : Cond.selects "PieceTextsModel" m_M_pieces.1 m_M_pieces.1 ∈ xT := xT_in (List.mem_append_left _ (List.mem_of_getElem? (i := 28) rfl)) rfl
theorem wc_M_pieces : xwV m_M_pieces "PieceTextsModel" 1 := ⟨wv_M_pieces, wz_M_pieces, wi_M, wx_M_pieces, ⟨by decide, by decide⟩, by decide +kernel, by decide⟩
set_option maxRecDepth 20000 in
theorem wm_M_66 : xml "PieceTextsModel" 66 m_M_remove.1 none ∈ xT := xT_in (List.mem_append_right _ (List.mem_of_getElem? (i := 615) rfl)) rfl
set_option maxRecDepth 20000 in
theorem wx_M_remove : xcode m_M_remove ∈ xT := xT_in (List.mem_append_right _ (List.mem_of_getElem? (i := 618) rfl)) rfl
set_option maxRecDepth 20000 in
theorem wv_M_remove : Cond.instanceMethod m_M_remove.1 ∈ xT := xT_in (List.mem_append_right _ (List.mem_of_getElem? (i := 617) rfl)) rfl
set_option maxRecDepth 20000 in
theorem wz_M_remove : Cond.selects "PieceTextsModel" m_M_remove.1 m_M_remove.1 ∈ xT := xT_in (List.mem_append_left _ (List.mem_of_getElem? (i := 30) rfl)) rfl
theorem wc_M_remove : xwV m_M_remove "PieceTextsModel" 3 := ⟨wv_M_remove, wz_M_remove, wi_M, wx_M_remove, ⟨by decide, by decide⟩, by decide +kernel, by decide⟩
set_option maxRecDepth 20000 in
theorem wm_M_62 : xml "PieceTextsModel" 62 m_M_allPieces.1 none ∈ xT := xT_in (List.mem_append_right _ (List.mem_of_getElem? (i := 603) rfl)) rfl
set_option maxRecDepth 20000 in
theorem wx_M_allPieces : xcode m_M_allPieces ∈ xT := xT_in (List.mem_append_right _ (List.mem_of_getElem? (i := 606) rfl)) rfl
set_option maxRecDepth 20000 in
theorem wv_M_allPieces : Cond.instanceMethod m_M_allPieces.1 ∈ xT := xT_in (List.mem_append_right _ (List.mem_of_getElem? (i := 605) rfl)) rfl
set_option maxRecDepth 20000 in
theorem wz_M_allPieces : Cond.selects "PieceTextsModel" m_M_allPieces.1 m_M_allPieces.1 ∈ xT := xT_in (List.mem_append_left _ (List.mem_of_getElem? (i := 27) rfl)) rfl
theorem wc_M_allPieces : xwV m_M_allPieces "PieceTextsModel" 0 := ⟨wv_M_allPieces, wz_M_allPieces, wi_M, wx_M_allPieces, ⟨by decide, by decide⟩, by decide +kernel, by decide⟩
set_option maxRecDepth 20000 in
theorem wm_M_58 : xml "PieceTextsModel" 58 m_M_insert.1 none ∈ xT := xT_in (List.mem_append_right _ (List.mem_of_getElem? (i := 599) rfl)) rfl
set_option maxRecDepth 20000 in
theorem wx_M_insert : xcode m_M_insert ∈ xT := xT_in (List.mem_append_right _ (List.mem_of_getElem? (i := 602) rfl)) rfl
set_option maxRecDepth 20000 in
theorem wv_M_insert : Cond.instanceMethod m_M_insert.1 ∈ xT := xT_in (List.mem_append_right _ (List.mem_of_getElem? (i := 601) rfl)) rfl
set_option maxRecDepth 20000 in
theorem wz_M_insert : Cond.selects "PieceTextsModel" m_M_insert.1 m_M_insert.1 ∈ xT := xT_in (List.mem_append_left _ (List.mem_of_getElem? (i := 26) rfl)) rfl
theorem wc_M_insert : xwV m_M_insert "PieceTextsModel" 3 := ⟨wv_M_insert, wz_M_insert, wi_M, wx_M_insert, ⟨by decide, by decide⟩, by decide +kernel, by decide⟩
set_option maxRecDepth 20000 in
theorem wm_M_69 : xml "PieceTextsModel" 69 m_M_isRange.1 none ∈ xT := xT_in (List.mem_append_right _ (List.mem_of_getElem? (i := 623) rfl)) rfl
set_option maxRecDepth 20000 in
theorem wx_M_isRange : xcode m_M_isRange ∈ xT := xT_in (List.mem_append_right _ (List.mem_of_getElem? (i := 626) rfl)) rfl
set_option maxRecDepth 20000 in
theorem wv_M_isRange : Cond.instanceMethod m_M_isRange.1 ∈ xT := xT_in (List.mem_append_right _ (List.mem_of_getElem? (i := 625) rfl)) rfl
set_option maxRecDepth 20000 in
theorem wz_M_isRange : Cond.selects "PieceTextsModel" m_M_isRange.1 m_M_isRange.1 ∈ xT := xT_in (List.mem_append_left _ (List.mem_of_getElem? (i := 31) rfl)) rfl
theorem wc_M_isRange : xwV m_M_isRange "PieceTextsModel" 3 := ⟨wv_M_isRange, wz_M_isRange, wi_M, wx_M_isRange, ⟨by decide, by decide⟩, by decide +kernel, by decide⟩
set_option maxRecDepth 20000 in
theorem wm_M_73 : xml "PieceTextsModel" 73 m_M_keep.1 none ∈ xT := xT_in (List.mem_append_right _ (List.mem_of_getElem? (i := 627) rfl)) rfl
set_option maxRecDepth 20000 in
theorem wx_M_keep : xcode m_M_keep ∈ xT := xT_in (List.mem_append_right _ (List.mem_of_getElem? (i := 630) rfl)) rfl
set_option maxRecDepth 20000 in
theorem wv_M_keep : Cond.instanceMethod m_M_keep.1 ∈ xT := xT_in (List.mem_append_right _ (List.mem_of_getElem? (i := 629) rfl)) rfl
set_option maxRecDepth 20000 in
theorem wz_M_keep : Cond.selects "PieceTextsModel" m_M_keep.1 m_M_keep.1 ∈ xT := xT_in (List.mem_append_left _ (List.mem_of_getElem? (i := 32) rfl)) rfl
theorem wc_M_keep : xwV m_M_keep "PieceTextsModel" 3 := ⟨wv_M_keep, wz_M_keep, wi_M, wx_M_keep, ⟨by decide, by decide⟩, by decide +kernel, by decide⟩
set_option maxRecDepth 20000 in
theorem wq_0 : Cond.castable (xE 0) (xE 0) ∈ xT := xT_in (List.mem_append_right _ (List.mem_of_getElem? (i := 106) rfl)) rfl
set_option maxRecDepth 20000 in
theorem wg_L_13 : Cond.classLink "PieceTextsLaw" 13 (xE 0) ∈ xT := xT_in (List.mem_append_right _ (List.mem_of_getElem? (i := 94) rfl)) rfl
set_option maxRecDepth 20000 in
theorem wq_1 : Cond.castable (xE 1) (xE 1) ∈ xT := xT_in (List.mem_append_right _ (List.mem_of_getElem? (i := 173) rfl)) rfl
set_option maxRecDepth 20000 in
theorem wg_L_15 : Cond.classLink "PieceTextsLaw" 15 (xE 1) ∈ xT := xT_in (List.mem_append_right _ (List.mem_of_getElem? (i := 95) rfl)) rfl
set_option maxRecDepth 20000 in
theorem wm_L_7 : xml "PieceTextsLaw" 7 m_P_write.1 none ∈ xT := xT_in (List.mem_append_right _ (List.mem_of_getElem? (i := 96) rfl)) rfl
set_option maxRecDepth 20000 in
theorem wx_P_write : xcode m_P_write ∈ xT := xT_in (List.mem_append_right _ (List.mem_of_getElem? (i := 99) rfl)) rfl
set_option maxRecDepth 20000 in
theorem wv_P_write : Cond.instanceMethod m_P_write.1 ∈ xT := xT_in (List.mem_append_right _ (List.mem_of_getElem? (i := 97) rfl)) rfl
set_option maxRecDepth 20000 in
theorem wz_P_write : Cond.selects "PieceTexts" m_P_write.1 m_P_write.1 ∈ xT := xT_in (List.mem_append_right _ (List.mem_of_getElem? (i := 98) rfl)) rfl
theorem wc_P_write : xwV m_P_write "PieceTexts" 1 := ⟨wv_P_write, wz_P_write, wi_P, wx_P_write, ⟨by decide, by decide⟩, by decide +kernel, by decide⟩
set_option maxRecDepth 20000 in
theorem wq_2 : Cond.castable (xE 2) (xE 2) ∈ xT := xT_in (List.mem_append_right _ (List.mem_of_getElem? (i := 209) rfl)) rfl
set_option maxRecDepth 20000 in
theorem wg_L_21 : Cond.classLink "PieceTextsLaw" 21 (xE 2) ∈ xT := xT_in (List.mem_append_right _ (List.mem_of_getElem? (i := 194) rfl)) rfl
set_option maxRecDepth 20000 in
theorem wm_L_17 : xml "PieceTextsLaw" 17 m_P_put.1 none ∈ xT := xT_in (List.mem_append_right _ (List.mem_of_getElem? (i := 195) rfl)) rfl
set_option maxRecDepth 20000 in
theorem wx_P_put : xcode m_P_put ∈ xT := xT_in (List.mem_append_right _ (List.mem_of_getElem? (i := 198) rfl)) rfl
set_option maxRecDepth 20000 in
theorem wv_P_put : Cond.instanceMethod m_P_put.1 ∈ xT := xT_in (List.mem_append_right _ (List.mem_of_getElem? (i := 196) rfl)) rfl
set_option maxRecDepth 20000 in
theorem wz_P_put : Cond.selects "PieceTexts" m_P_put.1 m_P_put.1 ∈ xT := xT_in (List.mem_append_right _ (List.mem_of_getElem? (i := 197) rfl)) rfl
theorem wc_P_put : xwV m_P_put "PieceTexts" 5 := ⟨wv_P_put, wz_P_put, wi_P, wx_P_put, ⟨by decide, by decide⟩, by decide +kernel, by decide⟩
set_option maxRecDepth 20000 in
theorem wm_L_23 : xml "PieceTextsLaw" 23 m_P_cut.1 none ∈ xT := xT_in (List.mem_append_right _ (List.mem_of_getElem? (i := 390) rfl)) rfl
set_option maxRecDepth 20000 in
theorem wx_P_cut : xcode m_P_cut ∈ xT := xT_in (List.mem_append_right _ (List.mem_of_getElem? (i := 393) rfl)) rfl
set_option maxRecDepth 20000 in
theorem wv_P_cut : Cond.instanceMethod m_P_cut.1 ∈ xT := xT_in (List.mem_append_right _ (List.mem_of_getElem? (i := 391) rfl)) rfl
set_option maxRecDepth 20000 in
theorem wz_P_cut : Cond.selects "PieceTexts" m_P_cut.1 m_P_cut.1 ∈ xT := xT_in (List.mem_append_right _ (List.mem_of_getElem? (i := 392) rfl)) rfl
theorem wc_P_cut : xwV m_P_cut "PieceTexts" 4 := ⟨wv_P_cut, wz_P_cut, wi_P, wx_P_cut, ⟨by decide, by decide⟩, by decide +kernel, by decide⟩
set_option maxRecDepth 20000 in
theorem wm_L_27 : xml "PieceTextsLaw" 27 m_P_paste.1 none ∈ xT := xT_in (List.mem_append_right _ (List.mem_of_getElem? (i := 413) rfl)) rfl
set_option maxRecDepth 20000 in
theorem wx_P_paste : xcode m_P_paste ∈ xT := xT_in (List.mem_append_right _ (List.mem_of_getElem? (i := 416) rfl)) rfl
set_option maxRecDepth 20000 in
theorem wv_P_paste : Cond.instanceMethod m_P_paste.1 ∈ xT := xT_in (List.mem_append_right _ (List.mem_of_getElem? (i := 414) rfl)) rfl
set_option maxRecDepth 20000 in
theorem wz_P_paste : Cond.selects "PieceTexts" m_P_paste.1 m_P_paste.1 ∈ xT := xT_in (List.mem_append_right _ (List.mem_of_getElem? (i := 415) rfl)) rfl
theorem wc_P_paste : xwV m_P_paste "PieceTexts" 3 := ⟨wv_P_paste, wz_P_paste, wi_P, wx_P_paste, ⟨by decide, by decide⟩, by decide +kernel, by decide⟩
set_option maxRecDepth 20000 in
theorem wm_L_31 : xml "PieceTextsLaw" 31 m_P_copy.1 none ∈ xT := xT_in (List.mem_append_right _ (List.mem_of_getElem? (i := 424) rfl)) rfl
set_option maxRecDepth 20000 in
theorem wx_P_copy : xcode m_P_copy ∈ xT := xT_in (List.mem_append_right _ (List.mem_of_getElem? (i := 427) rfl)) rfl
set_option maxRecDepth 20000 in
theorem wv_P_copy : Cond.instanceMethod m_P_copy.1 ∈ xT := xT_in (List.mem_append_right _ (List.mem_of_getElem? (i := 425) rfl)) rfl
set_option maxRecDepth 20000 in
theorem wz_P_copy : Cond.selects "PieceTexts" m_P_copy.1 m_P_copy.1 ∈ xT := xT_in (List.mem_append_right _ (List.mem_of_getElem? (i := 426) rfl)) rfl
theorem wc_P_copy : xwV m_P_copy "PieceTexts" 4 := ⟨wv_P_copy, wz_P_copy, wi_P, wx_P_copy, ⟨by decide, by decide⟩, by decide +kernel, by decide⟩
set_option maxRecDepth 20000 in
theorem wm_L_34 : xml "PieceTextsLaw" 34 m_P_tag.1 none ∈ xT := xT_in (List.mem_append_right _ (List.mem_of_getElem? (i := 439) rfl)) rfl
set_option maxRecDepth 20000 in
theorem wx_P_tag : xcode m_P_tag ∈ xT := xT_in (List.mem_append_right _ (List.mem_of_getElem? (i := 442) rfl)) rfl
set_option maxRecDepth 20000 in
theorem wv_P_tag : Cond.instanceMethod m_P_tag.1 ∈ xT := xT_in (List.mem_append_right _ (List.mem_of_getElem? (i := 440) rfl)) rfl
set_option maxRecDepth 20000 in
theorem wz_P_tag : Cond.selects "PieceTexts" m_P_tag.1 m_P_tag.1 ∈ xT := xT_in (List.mem_append_right _ (List.mem_of_getElem? (i := 441) rfl)) rfl
theorem wc_P_tag : xwV m_P_tag "PieceTexts" 5 := ⟨wv_P_tag, wz_P_tag, wi_P, wx_P_tag, ⟨by decide, by decide⟩, by decide +kernel, by decide⟩
set_option maxRecDepth 20000 in
theorem wm_L_37 : xml "PieceTextsLaw" 37 m_P_wipe.1 none ∈ xT := xT_in (List.mem_append_right _ (List.mem_of_getElem? (i := 463) rfl)) rfl
set_option maxRecDepth 20000 in
theorem wx_P_wipe : xcode m_P_wipe ∈ xT := xT_in (List.mem_append_right _ (List.mem_of_getElem? (i := 466) rfl)) rfl
set_option maxRecDepth 20000 in
theorem wv_P_wipe : Cond.instanceMethod m_P_wipe.1 ∈ xT := xT_in (List.mem_append_right _ (List.mem_of_getElem? (i := 464) rfl)) rfl
set_option maxRecDepth 20000 in
theorem wz_P_wipe : Cond.selects "PieceTexts" m_P_wipe.1 m_P_wipe.1 ∈ xT := xT_in (List.mem_append_right _ (List.mem_of_getElem? (i := 465) rfl)) rfl
theorem wc_P_wipe : xwV m_P_wipe "PieceTexts" 1 := ⟨wv_P_wipe, wz_P_wipe, wi_P, wx_P_wipe, ⟨by decide, by decide⟩, by decide +kernel, by decide⟩
set_option maxRecDepth 20000 in
theorem wm_L_41 : xml "PieceTextsLaw" 41 m_P_look.1 none ∈ xT := xT_in (List.mem_append_right _ (List.mem_of_getElem? (i := 475) rfl)) rfl
set_option maxRecDepth 20000 in
theorem wx_P_look : xcode m_P_look ∈ xT := xT_in (List.mem_append_right _ (List.mem_of_getElem? (i := 478) rfl)) rfl
set_option maxRecDepth 20000 in
theorem wv_P_look : Cond.instanceMethod m_P_look.1 ∈ xT := xT_in (List.mem_append_right _ (List.mem_of_getElem? (i := 476) rfl)) rfl
set_option maxRecDepth 20000 in
theorem wz_P_look : Cond.selects "PieceTexts" m_P_look.1 m_P_look.1 ∈ xT := xT_in (List.mem_append_right _ (List.mem_of_getElem? (i := 477) rfl)) rfl
theorem wc_P_look : xwV m_P_look "PieceTexts" 3 := ⟨wv_P_look, wz_P_look, wi_P, wx_P_look, ⟨by decide, by decide⟩, by decide +kernel, by decide⟩
set_option maxRecDepth 20000 in
theorem wm_L_44 : xml "PieceTextsLaw" 44 m_P_piece.1 none ∈ xT := xT_in (List.mem_append_right _ (List.mem_of_getElem? (i := 490) rfl)) rfl
set_option maxRecDepth 20000 in
theorem wx_P_piece : xcode m_P_piece ∈ xT := xT_in (List.mem_append_right _ (List.mem_of_getElem? (i := 493) rfl)) rfl
set_option maxRecDepth 20000 in
theorem wv_P_piece : Cond.instanceMethod m_P_piece.1 ∈ xT := xT_in (List.mem_append_right _ (List.mem_of_getElem? (i := 491) rfl)) rfl
set_option maxRecDepth 20000 in
theorem wz_P_piece : Cond.selects "PieceTexts" m_P_piece.1 m_P_piece.1 ∈ xT := xT_in (List.mem_append_right _ (List.mem_of_getElem? (i := 492) rfl)) rfl
theorem wc_P_piece : xwV m_P_piece "PieceTexts" 3 := ⟨wv_P_piece, wz_P_piece, wi_P, wx_P_piece, ⟨by decide, by decide⟩, by decide +kernel, by decide⟩
set_option maxRecDepth 20000 in
theorem wm_L_47 : xml "PieceTextsLaw" 47 m_P_find.1 none ∈ xT := xT_in (List.mem_append_right _ (List.mem_of_getElem? (i := 501) rfl)) rfl
set_option maxRecDepth 20000 in
theorem wx_P_find : xcode m_P_find ∈ xT := xT_in (List.mem_append_right _ (List.mem_of_getElem? (i := 504) rfl)) rfl
set_option maxRecDepth 20000 in
theorem wv_P_find : Cond.instanceMethod m_P_find.1 ∈ xT := xT_in (List.mem_append_right _ (List.mem_of_getElem? (i := 502) rfl)) rfl
set_option maxRecDepth 20000 in
theorem wz_P_find : Cond.selects "PieceTexts" m_P_find.1 m_P_find.1 ∈ xT := xT_in (List.mem_append_right _ (List.mem_of_getElem? (i := 503) rfl)) rfl
theorem wc_P_find : xwV m_P_find "PieceTexts" 3 := ⟨wv_P_find, wz_P_find, wi_P, wx_P_find, ⟨by decide, by decide⟩, by decide +kernel, by decide⟩
set_option maxRecDepth 20000 in
theorem wm_L_50 : xml "PieceTextsLaw" 50 m_P_differ.1 none ∈ xT := xT_in (List.mem_append_right _ (List.mem_of_getElem? (i := 534) rfl)) rfl
set_option maxRecDepth 20000 in
theorem wx_P_differ : xcode m_P_differ ∈ xT := xT_in (List.mem_append_right _ (List.mem_of_getElem? (i := 537) rfl)) rfl
set_option maxRecDepth 20000 in
theorem wv_P_differ : Cond.instanceMethod m_P_differ.1 ∈ xT := xT_in (List.mem_append_right _ (List.mem_of_getElem? (i := 535) rfl)) rfl
set_option maxRecDepth 20000 in
theorem wz_P_differ : Cond.selects "PieceTexts" m_P_differ.1 m_P_differ.1 ∈ xT := xT_in (List.mem_append_right _ (List.mem_of_getElem? (i := 536) rfl)) rfl
theorem wc_P_differ : xwV m_P_differ "PieceTexts" 2 := ⟨wv_P_differ, wz_P_differ, wi_P, wx_P_differ, ⟨by decide, by decide⟩, by decide +kernel, by decide⟩
set_option maxRecDepth 20000 in
theorem wa_1 : Cond.arrayClass .long ∈ xT := xT_in (List.mem_append_right _ (List.mem_of_getElem? (i := 672) rfl)) rfl
set_option maxRecDepth 20000 in
theorem wm_L_57 : xml "PieceTextsLaw" 57 m_M_init.1 none ∈ xT := xT_in (List.mem_append_right _ (List.mem_of_getElem? (i := 541) rfl)) rfl
set_option maxRecDepth 20000 in
theorem wx_M_init : xcode m_M_init ∈ xT := xT_in (List.mem_append_right _ (List.mem_of_getElem? (i := 543) rfl)) rfl
set_option maxRecDepth 20000 in
theorem wv_M_init : Cond.instanceMethod m_M_init.1 ∈ xT := xT_in (List.mem_append_right _ (List.mem_of_getElem? (i := 542) rfl)) rfl
theorem wc_M_init : xwI m_M_init 0 := ⟨wv_M_init, rfl, ⟨_, _, rfl⟩, wi_M, wx_M_init, ⟨by decide, by decide⟩, by decide +kernel, by decide⟩
set_option maxRecDepth 20000 in
theorem wk_L_55 : Cond.classLink "PieceTextsLaw" 55 "PieceTextsModel" ∈ xT := xT_in (List.mem_append_right _ (List.mem_of_getElem? (i := 539) rfl)) rfl
set_option maxRecDepth 20000 in
theorem wn_5 : Cond.instantiable "PieceTextsModel" 8 ∈ xT := xT_in (List.mem_append_right _ (List.mem_of_getElem? (i := 540) rfl)) rfl
set_option maxRecDepth 20000 in
theorem wm_L_54 : xml "PieceTextsLaw" 54 m_P_init.1 none ∈ xT := xT_in (List.mem_append_right _ (List.mem_of_getElem? (i := 18) rfl)) rfl
set_option maxRecDepth 20000 in
theorem wx_P_init : xcode m_P_init ∈ xT := xT_in (List.mem_append_right _ (List.mem_of_getElem? (i := 20) rfl)) rfl
set_option maxRecDepth 20000 in
theorem wv_P_init : Cond.instanceMethod m_P_init.1 ∈ xT := xT_in (List.mem_append_right _ (List.mem_of_getElem? (i := 19) rfl)) rfl
theorem wc_P_init : xwI m_P_init 0 := ⟨wv_P_init, rfl, ⟨_, _, rfl⟩, wi_P, wx_P_init, ⟨by decide, by decide⟩, by decide +kernel, by decide⟩
set_option maxRecDepth 20000 in
theorem wk_L_8 : Cond.classLink "PieceTextsLaw" 8 "PieceTexts" ∈ xT := xT_in (List.mem_append_right _ (List.mem_of_getElem? (i := 16) rfl)) rfl
set_option maxRecDepth 20000 in
theorem wn_0 : Cond.instantiable "PieceTexts" 4 ∈ xT := xT_in (List.mem_append_right _ (List.mem_of_getElem? (i := 17) rfl)) rfl
set_option maxRecDepth 20000 in
theorem wl_L_58 : Cond.constantLong "PieceTextsLaw" 58 4294967295 ∈ xT := xT_in (List.mem_append_right _ (List.mem_of_getElem? (i := 671) rfl)) rfl
set_option maxRecDepth 20000 in
theorem wm_L_66 : xml "PieceTextsLaw" 66 m_M_thrown.1 none ∈ xT := xT_in (List.mem_append_right _ (List.mem_of_getElem? (i := 571) rfl)) rfl
set_option maxRecDepth 20000 in
theorem wx_M_thrown : xcode m_M_thrown ∈ xT := xT_in (List.mem_append_right _ (List.mem_of_getElem? (i := 574) rfl)) rfl
set_option maxRecDepth 20000 in
theorem wv_M_thrown : Cond.instanceMethod m_M_thrown.1 ∈ xT := xT_in (List.mem_append_right _ (List.mem_of_getElem? (i := 572) rfl)) rfl
set_option maxRecDepth 20000 in
theorem wz_M_thrown : Cond.selects "PieceTextsModel" m_M_thrown.1 m_M_thrown.1 ∈ xT := xT_in (List.mem_append_right _ (List.mem_of_getElem? (i := 573) rfl)) rfl
theorem wc_M_thrown : xwV m_M_thrown "PieceTextsModel" 0 := ⟨wv_M_thrown, wz_M_thrown, wi_M, wx_M_thrown, ⟨by decide, by decide⟩, by decide +kernel, by decide⟩
set_option maxRecDepth 20000 in
theorem wm_L_65 : xml "PieceTextsLaw" 65 m_M_write.1 none ∈ xT := xT_in (List.mem_append_right _ (List.mem_of_getElem? (i := 575) rfl)) rfl
set_option maxRecDepth 20000 in
theorem wx_M_write : xcode m_M_write ∈ xT := xT_in (List.mem_append_right _ (List.mem_of_getElem? (i := 578) rfl)) rfl
set_option maxRecDepth 20000 in
theorem wv_M_write : Cond.instanceMethod m_M_write.1 ∈ xT := xT_in (List.mem_append_right _ (List.mem_of_getElem? (i := 576) rfl)) rfl
set_option maxRecDepth 20000 in
theorem wz_M_write : Cond.selects "PieceTextsModel" m_M_write.1 m_M_write.1 ∈ xT := xT_in (List.mem_append_right _ (List.mem_of_getElem? (i := 577) rfl)) rfl
theorem wc_M_write : xwV m_M_write "PieceTextsModel" 1 := ⟨wv_M_write, wz_M_write, wi_M, wx_M_write, ⟨by decide, by decide⟩, by decide +kernel, by decide⟩
set_option maxRecDepth 20000 in
theorem wm_L_60 : xml "PieceTextsLaw" 60 m_L_write.1 none ∈ xT := xT_in (List.mem_append_right _ (List.mem_of_getElem? (i := 91) rfl)) rfl
set_option maxRecDepth 20000 in
theorem wi_L : Cond.initialized "PieceTextsLaw" ∈ xT := xT_in (List.mem_append_right _ (List.mem_of_getElem? (i := 0) rfl)) rfl
set_option maxRecDepth 20000 in
theorem wx_L_write : xcode m_L_write ∈ xT := xT_in (List.mem_append_right _ (List.mem_of_getElem? (i := 93) rfl)) rfl
set_option maxRecDepth 20000 in
theorem ws_L_write : Cond.static m_L_write.1 ∈ xT := xT_in (List.mem_append_right _ (List.mem_of_getElem? (i := 92) rfl)) rfl
theorem wc_L_write : xwS m_L_write 3 := ⟨ws_L_write, wi_L, wx_L_write, ⟨by decide, by decide⟩, by decide +kernel, by decide⟩
set_option maxRecDepth 20000 in
theorem wm_L_73 : xml "PieceTextsLaw" 73 m_M_put.1 none ∈ xT := xT_in (List.mem_append_right _ (List.mem_of_getElem? (i := 584) rfl)) rfl
set_option maxRecDepth 20000 in
theorem wx_M_put : xcode m_M_put ∈ xT := xT_in (List.mem_append_right _ (List.mem_of_getElem? (i := 587) rfl)) rfl
set_option maxRecDepth 20000 in
theorem wv_M_put : Cond.instanceMethod m_M_put.1 ∈ xT := xT_in (List.mem_append_right _ (List.mem_of_getElem? (i := 585) rfl)) rfl
set_option maxRecDepth 20000 in
theorem wz_M_put : Cond.selects "PieceTextsModel" m_M_put.1 m_M_put.1 ∈ xT := xT_in (List.mem_append_right _ (List.mem_of_getElem? (i := 586) rfl)) rfl
theorem wc_M_put : xwV m_M_put "PieceTextsModel" 5 := ⟨wv_M_put, wz_M_put, wi_M, wx_M_put, ⟨by decide, by decide⟩, by decide +kernel, by decide⟩
set_option maxRecDepth 20000 in
theorem wm_L_70 : xml "PieceTextsLaw" 70 m_L_put.1 none ∈ xT := xT_in (List.mem_append_right _ (List.mem_of_getElem? (i := 191) rfl)) rfl
set_option maxRecDepth 20000 in
theorem wx_L_put : xcode m_L_put ∈ xT := xT_in (List.mem_append_right _ (List.mem_of_getElem? (i := 193) rfl)) rfl
set_option maxRecDepth 20000 in
theorem ws_L_put : Cond.static m_L_put.1 ∈ xT := xT_in (List.mem_append_right _ (List.mem_of_getElem? (i := 192) rfl)) rfl
theorem wc_L_put : xwS m_L_put 7 := ⟨ws_L_put, wi_L, wx_L_put, ⟨by decide, by decide⟩, by decide +kernel, by decide⟩
set_option maxRecDepth 20000 in
theorem wm_L_77 : xml "PieceTextsLaw" 77 m_M_cut.1 none ∈ xT := xT_in (List.mem_append_right _ (List.mem_of_getElem? (i := 619) rfl)) rfl
set_option maxRecDepth 20000 in
theorem wx_M_cut : xcode m_M_cut ∈ xT := xT_in (List.mem_append_right _ (List.mem_of_getElem? (i := 622) rfl)) rfl
set_option maxRecDepth 20000 in
theorem wv_M_cut : Cond.instanceMethod m_M_cut.1 ∈ xT := xT_in (List.mem_append_right _ (List.mem_of_getElem? (i := 620) rfl)) rfl
set_option maxRecDepth 20000 in
theorem wz_M_cut : Cond.selects "PieceTextsModel" m_M_cut.1 m_M_cut.1 ∈ xT := xT_in (List.mem_append_right _ (List.mem_of_getElem? (i := 621) rfl)) rfl
theorem wc_M_cut : xwV m_M_cut "PieceTextsModel" 4 := ⟨wv_M_cut, wz_M_cut, wi_M, wx_M_cut, ⟨by decide, by decide⟩, by decide +kernel, by decide⟩
set_option maxRecDepth 20000 in
theorem wm_L_74 : xml "PieceTextsLaw" 74 m_L_cut.1 none ∈ xT := xT_in (List.mem_append_right _ (List.mem_of_getElem? (i := 387) rfl)) rfl
set_option maxRecDepth 20000 in
theorem wx_L_cut : xcode m_L_cut ∈ xT := xT_in (List.mem_append_right _ (List.mem_of_getElem? (i := 389) rfl)) rfl
set_option maxRecDepth 20000 in
theorem ws_L_cut : Cond.static m_L_cut.1 ∈ xT := xT_in (List.mem_append_right _ (List.mem_of_getElem? (i := 388) rfl)) rfl
theorem wc_L_cut : xwS m_L_cut 6 := ⟨ws_L_cut, wi_L, wx_L_cut, ⟨by decide, by decide⟩, by decide +kernel, by decide⟩
set_option maxRecDepth 20000 in
theorem wm_L_81 : xml "PieceTextsLaw" 81 m_M_paste.1 none ∈ xT := xT_in (List.mem_append_right _ (List.mem_of_getElem? (i := 631) rfl)) rfl
set_option maxRecDepth 20000 in
theorem wx_M_paste : xcode m_M_paste ∈ xT := xT_in (List.mem_append_right _ (List.mem_of_getElem? (i := 634) rfl)) rfl
set_option maxRecDepth 20000 in
theorem wv_M_paste : Cond.instanceMethod m_M_paste.1 ∈ xT := xT_in (List.mem_append_right _ (List.mem_of_getElem? (i := 632) rfl)) rfl
set_option maxRecDepth 20000 in
theorem wz_M_paste : Cond.selects "PieceTextsModel" m_M_paste.1 m_M_paste.1 ∈ xT := xT_in (List.mem_append_right _ (List.mem_of_getElem? (i := 633) rfl)) rfl
theorem wc_M_paste : xwV m_M_paste "PieceTextsModel" 3 := ⟨wv_M_paste, wz_M_paste, wi_M, wx_M_paste, ⟨by decide, by decide⟩, by decide +kernel, by decide⟩
set_option maxRecDepth 20000 in
theorem wm_L_78 : xml "PieceTextsLaw" 78 m_L_paste.1 none ∈ xT := xT_in (List.mem_append_right _ (List.mem_of_getElem? (i := 410) rfl)) rfl
set_option maxRecDepth 20000 in
theorem wx_L_paste : xcode m_L_paste ∈ xT := xT_in (List.mem_append_right _ (List.mem_of_getElem? (i := 412) rfl)) rfl
set_option maxRecDepth 20000 in
theorem ws_L_paste : Cond.static m_L_paste.1 ∈ xT := xT_in (List.mem_append_right _ (List.mem_of_getElem? (i := 411) rfl)) rfl
theorem wc_L_paste : xwS m_L_paste 5 := ⟨ws_L_paste, wi_L, wx_L_paste, ⟨by decide, by decide⟩, by decide +kernel, by decide⟩
set_option maxRecDepth 20000 in
theorem wm_L_84 : xml "PieceTextsLaw" 84 m_M_copy.1 none ∈ xT := xT_in (List.mem_append_right _ (List.mem_of_getElem? (i := 635) rfl)) rfl
set_option maxRecDepth 20000 in
theorem wx_M_copy : xcode m_M_copy ∈ xT := xT_in (List.mem_append_right _ (List.mem_of_getElem? (i := 638) rfl)) rfl
set_option maxRecDepth 20000 in
theorem wv_M_copy : Cond.instanceMethod m_M_copy.1 ∈ xT := xT_in (List.mem_append_right _ (List.mem_of_getElem? (i := 636) rfl)) rfl
set_option maxRecDepth 20000 in
theorem wz_M_copy : Cond.selects "PieceTextsModel" m_M_copy.1 m_M_copy.1 ∈ xT := xT_in (List.mem_append_right _ (List.mem_of_getElem? (i := 637) rfl)) rfl
theorem wc_M_copy : xwV m_M_copy "PieceTextsModel" 4 := ⟨wv_M_copy, wz_M_copy, wi_M, wx_M_copy, ⟨by decide, by decide⟩, by decide +kernel, by decide⟩
set_option maxRecDepth 20000 in
theorem wm_L_82 : xml "PieceTextsLaw" 82 m_L_copy.1 none ∈ xT := xT_in (List.mem_append_right _ (List.mem_of_getElem? (i := 421) rfl)) rfl
set_option maxRecDepth 20000 in
theorem wx_L_copy : xcode m_L_copy ∈ xT := xT_in (List.mem_append_right _ (List.mem_of_getElem? (i := 423) rfl)) rfl
set_option maxRecDepth 20000 in
theorem ws_L_copy : Cond.static m_L_copy.1 ∈ xT := xT_in (List.mem_append_right _ (List.mem_of_getElem? (i := 422) rfl)) rfl
theorem wc_L_copy : xwS m_L_copy 6 := ⟨ws_L_copy, wi_L, wx_L_copy, ⟨by decide, by decide⟩, by decide +kernel, by decide⟩
set_option maxRecDepth 20000 in
theorem wm_L_87 : xml "PieceTextsLaw" 87 m_M_tag.1 none ∈ xT := xT_in (List.mem_append_right _ (List.mem_of_getElem? (i := 639) rfl)) rfl
set_option maxRecDepth 20000 in
theorem wx_M_tag : xcode m_M_tag ∈ xT := xT_in (List.mem_append_right _ (List.mem_of_getElem? (i := 642) rfl)) rfl
set_option maxRecDepth 20000 in
theorem wv_M_tag : Cond.instanceMethod m_M_tag.1 ∈ xT := xT_in (List.mem_append_right _ (List.mem_of_getElem? (i := 640) rfl)) rfl
set_option maxRecDepth 20000 in
theorem wz_M_tag : Cond.selects "PieceTextsModel" m_M_tag.1 m_M_tag.1 ∈ xT := xT_in (List.mem_append_right _ (List.mem_of_getElem? (i := 641) rfl)) rfl
theorem wc_M_tag : xwV m_M_tag "PieceTextsModel" 5 := ⟨wv_M_tag, wz_M_tag, wi_M, wx_M_tag, ⟨by decide, by decide⟩, by decide +kernel, by decide⟩
set_option maxRecDepth 20000 in
theorem wm_L_85 : xml "PieceTextsLaw" 85 m_L_tag.1 none ∈ xT := xT_in (List.mem_append_right _ (List.mem_of_getElem? (i := 436) rfl)) rfl
set_option maxRecDepth 20000 in
theorem wx_L_tag : xcode m_L_tag ∈ xT := xT_in (List.mem_append_right _ (List.mem_of_getElem? (i := 438) rfl)) rfl
set_option maxRecDepth 20000 in
theorem ws_L_tag : Cond.static m_L_tag.1 ∈ xT := xT_in (List.mem_append_right _ (List.mem_of_getElem? (i := 437) rfl)) rfl
theorem wc_L_tag : xwS m_L_tag 7 := ⟨ws_L_tag, wi_L, wx_L_tag, ⟨by decide, by decide⟩, by decide +kernel, by decide⟩
set_option maxRecDepth 20000 in
theorem wm_L_91 : xml "PieceTextsLaw" 91 m_M_wipe.1 none ∈ xT := xT_in (List.mem_append_right _ (List.mem_of_getElem? (i := 643) rfl)) rfl
set_option maxRecDepth 20000 in
theorem wx_M_wipe : xcode m_M_wipe ∈ xT := xT_in (List.mem_append_right _ (List.mem_of_getElem? (i := 646) rfl)) rfl
set_option maxRecDepth 20000 in
theorem wv_M_wipe : Cond.instanceMethod m_M_wipe.1 ∈ xT := xT_in (List.mem_append_right _ (List.mem_of_getElem? (i := 644) rfl)) rfl
set_option maxRecDepth 20000 in
theorem wz_M_wipe : Cond.selects "PieceTextsModel" m_M_wipe.1 m_M_wipe.1 ∈ xT := xT_in (List.mem_append_right _ (List.mem_of_getElem? (i := 645) rfl)) rfl
theorem wc_M_wipe : xwV m_M_wipe "PieceTextsModel" 1 := ⟨wv_M_wipe, wz_M_wipe, wi_M, wx_M_wipe, ⟨by decide, by decide⟩, by decide +kernel, by decide⟩
set_option maxRecDepth 20000 in
theorem wm_L_88 : xml "PieceTextsLaw" 88 m_L_wipe.1 none ∈ xT := xT_in (List.mem_append_right _ (List.mem_of_getElem? (i := 460) rfl)) rfl
set_option maxRecDepth 20000 in
theorem wx_L_wipe : xcode m_L_wipe ∈ xT := xT_in (List.mem_append_right _ (List.mem_of_getElem? (i := 462) rfl)) rfl
set_option maxRecDepth 20000 in
theorem ws_L_wipe : Cond.static m_L_wipe.1 ∈ xT := xT_in (List.mem_append_right _ (List.mem_of_getElem? (i := 461) rfl)) rfl
theorem wc_L_wipe : xwS m_L_wipe 3 := ⟨ws_L_wipe, wi_L, wx_L_wipe, ⟨by decide, by decide⟩, by decide +kernel, by decide⟩
set_option maxRecDepth 20000 in
theorem wm_L_95 : xml "PieceTextsLaw" 95 m_M_length.1 none ∈ xT := xT_in (List.mem_append_right _ (List.mem_of_getElem? (i := 647) rfl)) rfl
set_option maxRecDepth 20000 in
theorem wx_M_length : xcode m_M_length ∈ xT := xT_in (List.mem_append_right _ (List.mem_of_getElem? (i := 650) rfl)) rfl
set_option maxRecDepth 20000 in
theorem wv_M_length : Cond.instanceMethod m_M_length.1 ∈ xT := xT_in (List.mem_append_right _ (List.mem_of_getElem? (i := 648) rfl)) rfl
set_option maxRecDepth 20000 in
theorem wz_M_length : Cond.selects "PieceTextsModel" m_M_length.1 m_M_length.1 ∈ xT := xT_in (List.mem_append_right _ (List.mem_of_getElem? (i := 649) rfl)) rfl
theorem wc_M_length : xwV m_M_length "PieceTextsModel" 1 := ⟨wv_M_length, wz_M_length, wi_M, wx_M_length, ⟨by decide, by decide⟩, by decide +kernel, by decide⟩
set_option maxRecDepth 20000 in
theorem wm_L_92 : xml "PieceTextsLaw" 92 m_P_length.1 none ∈ xT := xT_in (List.mem_append_right _ (List.mem_of_getElem? (i := 50) rfl)) rfl
set_option maxRecDepth 20000 in
theorem wx_P_length : xcode m_P_length ∈ xT := xT_in (List.mem_append_right _ (List.mem_of_getElem? (i := 53) rfl)) rfl
set_option maxRecDepth 20000 in
theorem wv_P_length : Cond.instanceMethod m_P_length.1 ∈ xT := xT_in (List.mem_append_right _ (List.mem_of_getElem? (i := 51) rfl)) rfl
set_option maxRecDepth 20000 in
theorem wz_P_length : Cond.selects "PieceTexts" m_P_length.1 m_P_length.1 ∈ xT := xT_in (List.mem_append_right _ (List.mem_of_getElem? (i := 52) rfl)) rfl
theorem wc_P_length : xwV m_P_length "PieceTexts" 1 := ⟨wv_P_length, wz_P_length, wi_P, wx_P_length, ⟨by decide, by decide⟩, by decide +kernel, by decide⟩
set_option maxRecDepth 20000 in
theorem wm_L_98 : xml "PieceTextsLaw" 98 m_M_look.1 none ∈ xT := xT_in (List.mem_append_right _ (List.mem_of_getElem? (i := 651) rfl)) rfl
set_option maxRecDepth 20000 in
theorem wx_M_look : xcode m_M_look ∈ xT := xT_in (List.mem_append_right _ (List.mem_of_getElem? (i := 654) rfl)) rfl
set_option maxRecDepth 20000 in
theorem wv_M_look : Cond.instanceMethod m_M_look.1 ∈ xT := xT_in (List.mem_append_right _ (List.mem_of_getElem? (i := 652) rfl)) rfl
set_option maxRecDepth 20000 in
theorem wz_M_look : Cond.selects "PieceTextsModel" m_M_look.1 m_M_look.1 ∈ xT := xT_in (List.mem_append_right _ (List.mem_of_getElem? (i := 653) rfl)) rfl
theorem wc_M_look : xwV m_M_look "PieceTextsModel" 3 := ⟨wv_M_look, wz_M_look, wi_M, wx_M_look, ⟨by decide, by decide⟩, by decide +kernel, by decide⟩
set_option maxRecDepth 20000 in
theorem wm_L_96 : xml "PieceTextsLaw" 96 m_L_look.1 none ∈ xT := xT_in (List.mem_append_right _ (List.mem_of_getElem? (i := 472) rfl)) rfl
set_option maxRecDepth 20000 in
theorem wx_L_look : xcode m_L_look ∈ xT := xT_in (List.mem_append_right _ (List.mem_of_getElem? (i := 474) rfl)) rfl
set_option maxRecDepth 20000 in
theorem ws_L_look : Cond.static m_L_look.1 ∈ xT := xT_in (List.mem_append_right _ (List.mem_of_getElem? (i := 473) rfl)) rfl
theorem wc_L_look : xwS m_L_look 5 := ⟨ws_L_look, wi_L, wx_L_look, ⟨by decide, by decide⟩, by decide +kernel, by decide⟩
set_option maxRecDepth 20000 in
theorem wm_L_101 : xml "PieceTextsLaw" 101 m_M_piece.1 none ∈ xT := xT_in (List.mem_append_right _ (List.mem_of_getElem? (i := 655) rfl)) rfl
set_option maxRecDepth 20000 in
theorem wx_M_piece : xcode m_M_piece ∈ xT := xT_in (List.mem_append_right _ (List.mem_of_getElem? (i := 658) rfl)) rfl
set_option maxRecDepth 20000 in
theorem wv_M_piece : Cond.instanceMethod m_M_piece.1 ∈ xT := xT_in (List.mem_append_right _ (List.mem_of_getElem? (i := 656) rfl)) rfl
set_option maxRecDepth 20000 in
theorem wz_M_piece : Cond.selects "PieceTextsModel" m_M_piece.1 m_M_piece.1 ∈ xT := xT_in (List.mem_append_right _ (List.mem_of_getElem? (i := 657) rfl)) rfl
theorem wc_M_piece : xwV m_M_piece "PieceTextsModel" 3 := ⟨wv_M_piece, wz_M_piece, wi_M, wx_M_piece, ⟨by decide, by decide⟩, by decide +kernel, by decide⟩
set_option maxRecDepth 20000 in
theorem wm_L_99 : xml "PieceTextsLaw" 99 m_L_piece.1 none ∈ xT := xT_in (List.mem_append_right _ (List.mem_of_getElem? (i := 487) rfl)) rfl
set_option maxRecDepth 20000 in
theorem wx_L_piece : xcode m_L_piece ∈ xT := xT_in (List.mem_append_right _ (List.mem_of_getElem? (i := 489) rfl)) rfl
set_option maxRecDepth 20000 in
theorem ws_L_piece : Cond.static m_L_piece.1 ∈ xT := xT_in (List.mem_append_right _ (List.mem_of_getElem? (i := 488) rfl)) rfl
theorem wc_L_piece : xwS m_L_piece 5 := ⟨ws_L_piece, wi_L, wx_L_piece, ⟨by decide, by decide⟩, by decide +kernel, by decide⟩
set_option maxRecDepth 20000 in
theorem wm_L_104 : xml "PieceTextsLaw" 104 m_M_find.1 none ∈ xT := xT_in (List.mem_append_right _ (List.mem_of_getElem? (i := 659) rfl)) rfl
set_option maxRecDepth 20000 in
theorem wx_M_find : xcode m_M_find ∈ xT := xT_in (List.mem_append_right _ (List.mem_of_getElem? (i := 662) rfl)) rfl
set_option maxRecDepth 20000 in
theorem wv_M_find : Cond.instanceMethod m_M_find.1 ∈ xT := xT_in (List.mem_append_right _ (List.mem_of_getElem? (i := 660) rfl)) rfl
set_option maxRecDepth 20000 in
theorem wz_M_find : Cond.selects "PieceTextsModel" m_M_find.1 m_M_find.1 ∈ xT := xT_in (List.mem_append_right _ (List.mem_of_getElem? (i := 661) rfl)) rfl
theorem wc_M_find : xwV m_M_find "PieceTextsModel" 3 := ⟨wv_M_find, wz_M_find, wi_M, wx_M_find, ⟨by decide, by decide⟩, by decide +kernel, by decide⟩
set_option maxRecDepth 20000 in
theorem wm_L_102 : xml "PieceTextsLaw" 102 m_L_find.1 none ∈ xT := xT_in (List.mem_append_right _ (List.mem_of_getElem? (i := 498) rfl)) rfl
set_option maxRecDepth 20000 in
theorem wx_L_find : xcode m_L_find ∈ xT := xT_in (List.mem_append_right _ (List.mem_of_getElem? (i := 500) rfl)) rfl
set_option maxRecDepth 20000 in
theorem ws_L_find : Cond.static m_L_find.1 ∈ xT := xT_in (List.mem_append_right _ (List.mem_of_getElem? (i := 499) rfl)) rfl
theorem wc_L_find : xwS m_L_find 5 := ⟨ws_L_find, wi_L, wx_L_find, ⟨by decide, by decide⟩, by decide +kernel, by decide⟩
set_option maxRecDepth 20000 in
theorem wm_L_108 : xml "PieceTextsLaw" 108 m_M_differ.1 none ∈ xT := xT_in (List.mem_append_right _ (List.mem_of_getElem? (i := 663) rfl)) rfl
set_option maxRecDepth 20000 in
theorem wx_M_differ : xcode m_M_differ ∈ xT := xT_in (List.mem_append_right _ (List.mem_of_getElem? (i := 666) rfl)) rfl
set_option maxRecDepth 20000 in
theorem wv_M_differ : Cond.instanceMethod m_M_differ.1 ∈ xT := xT_in (List.mem_append_right _ (List.mem_of_getElem? (i := 664) rfl)) rfl
set_option maxRecDepth 20000 in
theorem wz_M_differ : Cond.selects "PieceTextsModel" m_M_differ.1 m_M_differ.1 ∈ xT := xT_in (List.mem_append_right _ (List.mem_of_getElem? (i := 665) rfl)) rfl
theorem wc_M_differ : xwV m_M_differ "PieceTextsModel" 2 := ⟨wv_M_differ, wz_M_differ, wi_M, wx_M_differ, ⟨by decide, by decide⟩, by decide +kernel, by decide⟩
set_option maxRecDepth 20000 in
theorem wm_L_105 : xml "PieceTextsLaw" 105 m_L_differ.1 none ∈ xT := xT_in (List.mem_append_right _ (List.mem_of_getElem? (i := 531) rfl)) rfl
set_option maxRecDepth 20000 in
theorem wx_L_differ : xcode m_L_differ ∈ xT := xT_in (List.mem_append_right _ (List.mem_of_getElem? (i := 533) rfl)) rfl
set_option maxRecDepth 20000 in
theorem ws_L_differ : Cond.static m_L_differ.1 ∈ xT := xT_in (List.mem_append_right _ (List.mem_of_getElem? (i := 532) rfl)) rfl
theorem wc_L_differ : xwS m_L_differ 4 := ⟨ws_L_differ, wi_L, wx_L_differ, ⟨by decide, by decide⟩, by decide +kernel, by decide⟩
set_option maxRecDepth 20000 in
theorem wm_L_112 : xml "PieceTextsLaw" 112 m_M_count.1 none ∈ xT := xT_in (List.mem_append_right _ (List.mem_of_getElem? (i := 667) rfl)) rfl
set_option maxRecDepth 20000 in
theorem wx_M_count : xcode m_M_count ∈ xT := xT_in (List.mem_append_right _ (List.mem_of_getElem? (i := 670) rfl)) rfl
set_option maxRecDepth 20000 in
theorem wv_M_count : Cond.instanceMethod m_M_count.1 ∈ xT := xT_in (List.mem_append_right _ (List.mem_of_getElem? (i := 668) rfl)) rfl
set_option maxRecDepth 20000 in
theorem wz_M_count : Cond.selects "PieceTextsModel" m_M_count.1 m_M_count.1 ∈ xT := xT_in (List.mem_append_right _ (List.mem_of_getElem? (i := 669) rfl)) rfl
theorem wc_M_count : xwV m_M_count "PieceTextsModel" 1 := ⟨wv_M_count, wz_M_count, wi_M, wx_M_count, ⟨by decide, by decide⟩, by decide +kernel, by decide⟩
set_option maxRecDepth 20000 in
theorem wm_L_109 : xml "PieceTextsLaw" 109 m_P_count.1 none ∈ xT := xT_in (List.mem_append_right _ (List.mem_of_getElem? (i := 65) rfl)) rfl
set_option maxRecDepth 20000 in
theorem wx_P_count : xcode m_P_count ∈ xT := xT_in (List.mem_append_right _ (List.mem_of_getElem? (i := 68) rfl)) rfl
set_option maxRecDepth 20000 in
theorem wv_P_count : Cond.instanceMethod m_P_count.1 ∈ xT := xT_in (List.mem_append_right _ (List.mem_of_getElem? (i := 66) rfl)) rfl
set_option maxRecDepth 20000 in
theorem wz_P_count : Cond.selects "PieceTexts" m_P_count.1 m_P_count.1 ∈ xT := xT_in (List.mem_append_right _ (List.mem_of_getElem? (i := 67) rfl)) rfl
theorem wc_P_count : xwV m_P_count "PieceTexts" 1 := ⟨wv_P_count, wz_P_count, wi_P, wx_P_count, ⟨by decide, by decide⟩, by decide +kernel, by decide⟩
end
section
theorem d_T_init_0 : decode prog_7_method_1_code 0 = .ok (.aload_n 0, 1) := by decide +kernel
theorem d_T_init_1 : decode prog_7_method_1_code 1 = .ok (.invokespecial 3, 3) := by decide +kernel
theorem d_T_init_4 : decode prog_7_method_1_code 4 = .ok (.return_, 1) := by decide +kernel
theorem d_P_init_0 : decode prog_1_method_1_code 0 = .ok (.aload_n 0, 1) := by decide +kernel
theorem d_P_init_1 : decode prog_1_method_1_code 1 = .ok (.invokespecial 1, 3) := by decide +kernel
theorem d_P_init_4 : decode prog_1_method_1_code 4 = .ok (.aload_n 0, 1) := by decide +kernel
theorem d_P_init_5 : decode prog_1_method_1_code 5 = .ok (.sipush 2048, 3) := by decide +kernel
theorem d_P_init_8 : decode prog_1_method_1_code 8 = .ok (.newarray .byte, 2) := by decide +kernel
theorem d_P_init_10 : decode prog_1_method_1_code 10 = .ok (.putfield 9, 3) := by decide +kernel
theorem d_P_init_13 : decode prog_1_method_1_code 13 = .ok (.aload_n 0, 1) := by decide +kernel
theorem d_P_init_14 : decode prog_1_method_1_code 14 = .ok (.bipush 16, 2) := by decide +kernel
theorem d_P_init_16 : decode prog_1_method_1_code 16 = .ok (.anewarray 13, 3) := by decide +kernel
theorem d_P_init_19 : decode prog_1_method_1_code 19 = .ok (.putfield 15, 3) := by decide +kernel
theorem d_P_init_22 : decode prog_1_method_1_code 22 = .ok (.aload_n 0, 1) := by decide +kernel
theorem d_P_init_23 : decode prog_1_method_1_code 23 = .ok (.new 19, 3) := by decide +kernel
theorem d_P_init_26 : decode prog_1_method_1_code 26 = .ok (.dup, 1) := by decide +kernel
theorem d_P_init_27 : decode prog_1_method_1_code 27 = .ok (.invokespecial 21, 3) := by decide +kernel
theorem d_P_init_30 : decode prog_1_method_1_code 30 = .ok (.putfield 22, 3) := by decide +kernel
theorem d_P_init_33 : decode prog_1_method_1_code 33 = .ok (.return_, 1) := by decide +kernel
theorem d_P_append_0 : decode prog_1_method_16_code 0 = .ok (.aload_n 0, 1) := by decide +kernel
theorem d_P_append_1 : decode prog_1_method_16_code 1 = .ok (.getfield 37, 3) := by decide +kernel
theorem d_P_append_4 : decode prog_1_method_16_code 4 = .ok (.ifCond .lt 35, 3) := by decide +kernel
theorem d_P_append_7 : decode prog_1_method_16_code 7 = .ok (.aload_n 0, 1) := by decide +kernel
theorem d_P_append_8 : decode prog_1_method_16_code 8 = .ok (.getfield 37, 3) := by decide +kernel
theorem d_P_append_11 : decode prog_1_method_16_code 11 = .ok (.aload_n 0, 1) := by decide +kernel
theorem d_P_append_12 : decode prog_1_method_16_code 12 = .ok (.getfield 9, 3) := by decide +kernel
theorem d_P_append_15 : decode prog_1_method_16_code 15 = .ok (.arraylength, 1) := by decide +kernel
theorem d_P_append_16 : decode prog_1_method_16_code 16 = .ok (.if_icmp .ge 23, 3) := by decide +kernel
theorem d_P_append_19 : decode prog_1_method_16_code 19 = .ok (.aload_n 0, 1) := by decide +kernel
theorem d_P_append_20 : decode prog_1_method_16_code 20 = .ok (.getfield 9, 3) := by decide +kernel
theorem d_P_append_23 : decode prog_1_method_16_code 23 = .ok (.aload_n 0, 1) := by decide +kernel
theorem d_P_append_24 : decode prog_1_method_16_code 24 = .ok (.getfield 37, 3) := by decide +kernel
theorem d_P_append_27 : decode prog_1_method_16_code 27 = .ok (.iload_n 1, 1) := by decide +kernel
theorem d_P_append_28 : decode prog_1_method_16_code 28 = .ok (.bastore, 1) := by decide +kernel
theorem d_P_append_29 : decode prog_1_method_16_code 29 = .ok (.aload_n 0, 1) := by decide +kernel
theorem d_P_append_30 : decode prog_1_method_16_code 30 = .ok (.dup, 1) := by decide +kernel
theorem d_P_append_31 : decode prog_1_method_16_code 31 = .ok (.getfield 37, 3) := by decide +kernel
theorem d_P_append_34 : decode prog_1_method_16_code 34 = .ok (.iconst 1, 1) := by decide +kernel
theorem d_P_append_35 : decode prog_1_method_16_code 35 = .ok (.iadd, 1) := by decide +kernel
theorem d_P_append_36 : decode prog_1_method_16_code 36 = .ok (.putfield 37, 3) := by decide +kernel
theorem d_P_append_39 : decode prog_1_method_16_code 39 = .ok (.return_, 1) := by decide +kernel
theorem d_P_bytesOf_0 : decode prog_1_method_15_code 0 = .ok (.iconst 0, 1) := by decide +kernel
theorem d_P_bytesOf_1 : decode prog_1_method_15_code 1 = .ok (.istore_n 2, 1) := by decide +kernel
theorem d_P_bytesOf_2 : decode prog_1_method_15_code 2 = .ok (.iload_n 2, 1) := by decide +kernel
theorem d_P_bytesOf_3 : decode prog_1_method_15_code 3 = .ok (.bipush 8, 2) := by decide +kernel
theorem d_P_bytesOf_5 : decode prog_1_method_15_code 5 = .ok (.if_icmp .ge 26, 3) := by decide +kernel
theorem d_P_bytesOf_31 : decode prog_1_method_15_code 31 = .ok (.bipush 8, 2) := by decide +kernel
theorem d_P_bytesOf_33 : decode prog_1_method_15_code 33 = .ok (.ireturn, 1) := by decide +kernel
theorem d_P_bytesOf_8 : decode prog_1_method_15_code 8 = .ok (.lload_n 0, 1) := by decide +kernel
theorem d_P_bytesOf_9 : decode prog_1_method_15_code 9 = .ok (.bipush 8, 2) := by decide +kernel
theorem d_P_bytesOf_11 : decode prog_1_method_15_code 11 = .ok (.iload_n 2, 1) := by decide +kernel
theorem d_P_bytesOf_12 : decode prog_1_method_15_code 12 = .ok (.imul, 1) := by decide +kernel
theorem d_P_bytesOf_13 : decode prog_1_method_15_code 13 = .ok (.lushr, 1) := by decide +kernel
theorem d_P_bytesOf_14 : decode prog_1_method_15_code 14 = .ok (.ldc2_w 210, 3) := by decide +kernel
theorem d_P_bytesOf_17 : decode prog_1_method_15_code 17 = .ok (.land, 1) := by decide +kernel
theorem d_P_bytesOf_18 : decode prog_1_method_15_code 18 = .ok (.lconst 0, 1) := by decide +kernel
theorem d_P_bytesOf_19 : decode prog_1_method_15_code 19 = .ok (.lcmp, 1) := by decide +kernel
theorem d_P_bytesOf_20 : decode prog_1_method_15_code 20 = .ok (.ifCond .ne 5, 3) := by decide +kernel
theorem d_P_bytesOf_25 : decode prog_1_method_15_code 25 = .ok (.iinc 2 1, 3) := by decide +kernel
theorem d_P_bytesOf_28 : decode prog_1_method_15_code 28 = .ok (.goto (-26), 3) := by decide +kernel
theorem d_P_bytesOf_23 : decode prog_1_method_15_code 23 = .ok (.iload_n 2, 1) := by decide +kernel
theorem d_P_bytesOf_24 : decode prog_1_method_15_code 24 = .ok (.ireturn, 1) := by decide +kernel
theorem d_P_write_0 : decode prog_1_method_2_code 0 = .ok (.lload_n 1, 1) := by decide +kernel
theorem d_P_write_1 : decode prog_1_method_2_code 1 = .ok (.invokestatic 26, 3) := by decide +kernel
theorem d_P_write_4 : decode prog_1_method_2_code 4 = .ok (.istore_n 3, 1) := by decide +kernel
theorem d_P_write_5 : decode prog_1_method_2_code 5 = .ok (.iload_n 3, 1) := by decide +kernel
theorem d_P_write_6 : decode prog_1_method_2_code 6 = .ok (.ifCond .ne 13, 3) := by decide +kernel
theorem d_P_write_19 : decode prog_1_method_2_code 19 = .ok (.iload_n 3, 1) := by decide +kernel
theorem d_P_write_20 : decode prog_1_method_2_code 20 = .ok (.sipush 2048, 3) := by decide +kernel
theorem d_P_write_23 : decode prog_1_method_2_code 23 = .ok (.aload_n 0, 1) := by decide +kernel
theorem d_P_write_24 : decode prog_1_method_2_code 24 = .ok (.getfield 37, 3) := by decide +kernel
theorem d_P_write_27 : decode prog_1_method_2_code 27 = .ok (.isub, 1) := by decide +kernel
theorem d_P_write_28 : decode prog_1_method_2_code 28 = .ok (.if_icmp .le 13, 3) := by decide +kernel
theorem d_P_write_41 : decode prog_1_method_2_code 41 = .ok (.aload_n 0, 1) := by decide +kernel
theorem d_P_write_42 : decode prog_1_method_2_code 42 = .ok (.getfield 37, 3) := by decide +kernel
theorem d_P_write_45 : decode prog_1_method_2_code 45 = .ok (.istore 4, 2) := by decide +kernel
theorem d_P_write_47 : decode prog_1_method_2_code 47 = .ok (.iconst 0, 1) := by decide +kernel
theorem d_P_write_48 : decode prog_1_method_2_code 48 = .ok (.istore 5, 2) := by decide +kernel
theorem d_P_write_31 : decode prog_1_method_2_code 31 = .ok (.new 41, 3) := by decide +kernel
theorem d_P_write_34 : decode prog_1_method_2_code 34 = .ok (.dup, 1) := by decide +kernel
theorem d_P_write_35 : decode prog_1_method_2_code 35 = .ok (.ldc 43, 2) := by decide +kernel
theorem d_P_write_37 : decode prog_1_method_2_code 37 = .ok (.invokespecial 45, 3) := by decide +kernel
theorem d_P_write_40 : decode prog_1_method_2_code 40 = .ok (.athrow, 1) := by decide +kernel
theorem d_P_write_9 : decode prog_1_method_2_code 9 = .ok (.new 30, 3) := by decide +kernel
theorem d_P_write_12 : decode prog_1_method_2_code 12 = .ok (.dup, 1) := by decide +kernel
theorem d_P_write_13 : decode prog_1_method_2_code 13 = .ok (.ldc 32, 2) := by decide +kernel
theorem d_P_write_15 : decode prog_1_method_2_code 15 = .ok (.invokespecial 34, 3) := by decide +kernel
theorem d_P_write_18 : decode prog_1_method_2_code 18 = .ok (.athrow, 1) := by decide +kernel
theorem d_P_write_50 : decode prog_1_method_2_code 50 = .ok (.iload 5, 2) := by decide +kernel
theorem d_P_write_52 : decode prog_1_method_2_code 52 = .ok (.iload_n 3, 1) := by decide +kernel
theorem d_P_write_53 : decode prog_1_method_2_code 53 = .ok (.if_icmp .ge 22, 3) := by decide +kernel
theorem d_P_write_75 : decode prog_1_method_2_code 75 = .ok (.iload 4, 2) := by decide +kernel
theorem d_P_write_77 : decode prog_1_method_2_code 77 = .ok (.ireturn, 1) := by decide +kernel
theorem d_P_write_56 : decode prog_1_method_2_code 56 = .ok (.aload_n 0, 1) := by decide +kernel
theorem d_P_write_57 : decode prog_1_method_2_code 57 = .ok (.lload_n 1, 1) := by decide +kernel
theorem d_P_write_58 : decode prog_1_method_2_code 58 = .ok (.bipush 8, 2) := by decide +kernel
theorem d_P_write_60 : decode prog_1_method_2_code 60 = .ok (.iload 5, 2) := by decide +kernel
theorem d_P_write_62 : decode prog_1_method_2_code 62 = .ok (.imul, 1) := by decide +kernel
theorem d_P_write_63 : decode prog_1_method_2_code 63 = .ok (.lushr, 1) := by decide +kernel
theorem d_P_write_64 : decode prog_1_method_2_code 64 = .ok (.l2i, 1) := by decide +kernel
theorem d_P_write_65 : decode prog_1_method_2_code 65 = .ok (.i2b, 1) := by decide +kernel
theorem d_P_write_66 : decode prog_1_method_2_code 66 = .ok (.invokevirtual 46, 3) := by decide +kernel
theorem d_P_write_69 : decode prog_1_method_2_code 69 = .ok (.iinc 5 1, 3) := by decide +kernel
theorem d_P_write_72 : decode prog_1_method_2_code 72 = .ok (.goto (-22), 3) := by decide +kernel
theorem d_R_charactersOf_0 : decode prog_5_method_4_code 0 = .ok (.aload_n 0, 1) := by decide +kernel
theorem d_R_charactersOf_1 : decode prog_5_method_4_code 1 = .ok (.ifnonnull 7, 3) := by decide +kernel
theorem d_R_charactersOf_4 : decode prog_5_method_4_code 4 = .ok (.iconst 0, 1) := by decide +kernel
theorem d_R_charactersOf_5 : decode prog_5_method_4_code 5 = .ok (.goto 7, 3) := by decide +kernel
theorem d_R_charactersOf_8 : decode prog_5_method_4_code 8 = .ok (.aload_n 0, 1) := by decide +kernel
theorem d_R_charactersOf_9 : decode prog_5_method_4_code 9 = .ok (.getfield 18, 3) := by decide +kernel
theorem d_R_charactersOf_12 : decode prog_5_method_4_code 12 = .ok (.ireturn, 1) := by decide +kernel
theorem d_P_become_0 : decode prog_1_method_20_code 0 = .ok (.iload_n 1, 1) := by decide +kernel
theorem d_P_become_1 : decode prog_1_method_20_code 1 = .ok (.ifCond .lt 19, 3) := by decide +kernel
theorem d_P_become_4 : decode prog_1_method_20_code 4 = .ok (.iload_n 1, 1) := by decide +kernel
theorem d_P_become_5 : decode prog_1_method_20_code 5 = .ok (.aload_n 0, 1) := by decide +kernel
theorem d_P_become_6 : decode prog_1_method_20_code 6 = .ok (.getfield 15, 3) := by decide +kernel
theorem d_P_become_9 : decode prog_1_method_20_code 9 = .ok (.arraylength, 1) := by decide +kernel
theorem d_P_become_10 : decode prog_1_method_20_code 10 = .ok (.if_icmp .ge 10, 3) := by decide +kernel
theorem d_P_become_13 : decode prog_1_method_20_code 13 = .ok (.aload_n 0, 1) := by decide +kernel
theorem d_P_become_14 : decode prog_1_method_20_code 14 = .ok (.getfield 15, 3) := by decide +kernel
theorem d_P_become_17 : decode prog_1_method_20_code 17 = .ok (.iload_n 1, 1) := by decide +kernel
theorem d_P_become_18 : decode prog_1_method_20_code 18 = .ok (.aload_n 2, 1) := by decide +kernel
theorem d_P_become_19 : decode prog_1_method_20_code 19 = .ok (.aastore, 1) := by decide +kernel
theorem d_P_become_20 : decode prog_1_method_20_code 20 = .ok (.aload_n 2, 1) := by decide +kernel
theorem d_P_become_21 : decode prog_1_method_20_code 21 = .ok (.invokestatic 137, 3) := by decide +kernel
theorem d_P_become_24 : decode prog_1_method_20_code 24 = .ok (.ireturn, 1) := by decide +kernel
theorem d_P_isText_0 : decode prog_1_method_18_code 0 = .ok (.iload_n 1, 1) := by decide +kernel
theorem d_P_isText_1 : decode prog_1_method_18_code 1 = .ok (.ifCond .lt 16, 3) := by decide +kernel
theorem d_P_isText_4 : decode prog_1_method_18_code 4 = .ok (.iload_n 1, 1) := by decide +kernel
theorem d_P_isText_5 : decode prog_1_method_18_code 5 = .ok (.aload_n 0, 1) := by decide +kernel
theorem d_P_isText_6 : decode prog_1_method_18_code 6 = .ok (.getfield 15, 3) := by decide +kernel
theorem d_P_isText_9 : decode prog_1_method_18_code 9 = .ok (.arraylength, 1) := by decide +kernel
theorem d_P_isText_10 : decode prog_1_method_18_code 10 = .ok (.if_icmp .ge 7, 3) := by decide +kernel
theorem d_P_isText_13 : decode prog_1_method_18_code 13 = .ok (.iconst 1, 1) := by decide +kernel
theorem d_P_isText_14 : decode prog_1_method_18_code 14 = .ok (.goto 4, 3) := by decide +kernel
theorem d_P_isText_17 : decode prog_1_method_18_code 17 = .ok (.iconst 0, 1) := by decide +kernel
theorem d_P_isText_18 : decode prog_1_method_18_code 18 = .ok (.ireturn, 1) := by decide +kernel
theorem d_P_demandText_0 : decode prog_1_method_24_code 0 = .ok (.aload_n 0, 1) := by decide +kernel
theorem d_P_demandText_1 : decode prog_1_method_24_code 1 = .ok (.iload_n 1, 1) := by decide +kernel
theorem d_P_demandText_2 : decode prog_1_method_24_code 2 = .ok (.invokevirtual 144, 3) := by decide +kernel
theorem d_P_demandText_5 : decode prog_1_method_24_code 5 = .ok (.ifCond .ne 13, 3) := by decide +kernel
theorem d_P_demandText_18 : decode prog_1_method_24_code 18 = .ok (.return_, 1) := by decide +kernel
theorem d_P_demandText_8 : decode prog_1_method_24_code 8 = .ok (.new 54, 3) := by decide +kernel
theorem d_P_demandText_11 : decode prog_1_method_24_code 11 = .ok (.dup, 1) := by decide +kernel
theorem d_P_demandText_12 : decode prog_1_method_24_code 12 = .ok (.ldc 216, 2) := by decide +kernel
theorem d_P_demandText_14 : decode prog_1_method_24_code 14 = .ok (.invokespecial 58, 3) := by decide +kernel
theorem d_P_demandText_17 : decode prog_1_method_24_code 17 = .ok (.athrow, 1) := by decide +kernel
theorem d_P_rootOf_0 : decode prog_1_method_19_code 0 = .ok (.iload_n 1, 1) := by decide +kernel
theorem d_P_rootOf_1 : decode prog_1_method_19_code 1 = .ok (.ifCond .lt 21, 3) := by decide +kernel
theorem d_P_rootOf_4 : decode prog_1_method_19_code 4 = .ok (.iload_n 1, 1) := by decide +kernel
theorem d_P_rootOf_5 : decode prog_1_method_19_code 5 = .ok (.aload_n 0, 1) := by decide +kernel
theorem d_P_rootOf_6 : decode prog_1_method_19_code 6 = .ok (.getfield 15, 3) := by decide +kernel
theorem d_P_rootOf_9 : decode prog_1_method_19_code 9 = .ok (.arraylength, 1) := by decide +kernel
theorem d_P_rootOf_10 : decode prog_1_method_19_code 10 = .ok (.if_icmp .ge 12, 3) := by decide +kernel
theorem d_P_rootOf_13 : decode prog_1_method_19_code 13 = .ok (.aload_n 0, 1) := by decide +kernel
theorem d_P_rootOf_14 : decode prog_1_method_19_code 14 = .ok (.getfield 15, 3) := by decide +kernel
theorem d_P_rootOf_17 : decode prog_1_method_19_code 17 = .ok (.iload_n 1, 1) := by decide +kernel
theorem d_P_rootOf_18 : decode prog_1_method_19_code 18 = .ok (.aaload, 1) := by decide +kernel
theorem d_P_rootOf_19 : decode prog_1_method_19_code 19 = .ok (.goto 4, 3) := by decide +kernel
theorem d_P_rootOf_22 : decode prog_1_method_19_code 22 = .ok (.aconst_null, 1) := by decide +kernel
theorem d_P_rootOf_23 : decode prog_1_method_19_code 23 = .ok (.areturn, 1) := by decide +kernel
theorem d_P_demandEdge_0 : decode prog_1_method_25_code 0 = .ok (.aload_n 0, 1) := by decide +kernel
theorem d_P_demandEdge_1 : decode prog_1_method_25_code 1 = .ok (.iload_n 1, 1) := by decide +kernel
theorem d_P_demandEdge_2 : decode prog_1_method_25_code 2 = .ok (.invokevirtual 107, 3) := by decide +kernel
theorem d_P_demandEdge_5 : decode prog_1_method_25_code 5 = .ok (.iload_n 2, 1) := by decide +kernel
theorem d_P_demandEdge_6 : decode prog_1_method_25_code 6 = .ok (.ifCond .lt 15, 3) := by decide +kernel
theorem d_P_demandEdge_9 : decode prog_1_method_25_code 9 = .ok (.iload_n 2, 1) := by decide +kernel
theorem d_P_demandEdge_10 : decode prog_1_method_25_code 10 = .ok (.aload_n 0, 1) := by decide +kernel
theorem d_P_demandEdge_11 : decode prog_1_method_25_code 11 = .ok (.iload_n 1, 1) := by decide +kernel
theorem d_P_demandEdge_12 : decode prog_1_method_25_code 12 = .ok (.invokevirtual 59, 3) := by decide +kernel
theorem d_P_demandEdge_15 : decode prog_1_method_25_code 15 = .ok (.invokestatic 137, 3) := by decide +kernel
theorem d_P_demandEdge_18 : decode prog_1_method_25_code 18 = .ok (.if_icmp .le 13, 3) := by decide +kernel
theorem d_P_demandEdge_31 : decode prog_1_method_25_code 31 = .ok (.return_, 1) := by decide +kernel
theorem d_P_demandEdge_21 : decode prog_1_method_25_code 21 = .ok (.new 54, 3) := by decide +kernel
theorem d_P_demandEdge_24 : decode prog_1_method_25_code 24 = .ok (.dup, 1) := by decide +kernel
theorem d_P_demandEdge_25 : decode prog_1_method_25_code 25 = .ok (.ldc 148, 2) := by decide +kernel
theorem d_P_demandEdge_27 : decode prog_1_method_25_code 27 = .ok (.invokespecial 58, 3) := by decide +kernel
theorem d_P_demandEdge_30 : decode prog_1_method_25_code 30 = .ok (.athrow, 1) := by decide +kernel
theorem d_P_charactersInAll_0 : decode prog_1_method_21_code 0 = .ok (.iconst 0, 1) := by decide +kernel
theorem d_P_charactersInAll_1 : decode prog_1_method_21_code 1 = .ok (.istore_n 1, 1) := by decide +kernel
theorem d_P_charactersInAll_2 : decode prog_1_method_21_code 2 = .ok (.aload_n 0, 1) := by decide +kernel
theorem d_P_charactersInAll_3 : decode prog_1_method_21_code 3 = .ok (.getfield 15, 3) := by decide +kernel
theorem d_P_charactersInAll_6 : decode prog_1_method_21_code 6 = .ok (.astore_n 2, 1) := by decide +kernel
theorem d_P_charactersInAll_7 : decode prog_1_method_21_code 7 = .ok (.aload_n 2, 1) := by decide +kernel
theorem d_P_charactersInAll_8 : decode prog_1_method_21_code 8 = .ok (.arraylength, 1) := by decide +kernel
theorem d_P_charactersInAll_9 : decode prog_1_method_21_code 9 = .ok (.istore_n 3, 1) := by decide +kernel
theorem d_P_charactersInAll_10 : decode prog_1_method_21_code 10 = .ok (.iconst 0, 1) := by decide +kernel
theorem d_P_charactersInAll_11 : decode prog_1_method_21_code 11 = .ok (.istore 4, 2) := by decide +kernel
theorem d_P_charactersInAll_13 : decode prog_1_method_21_code 13 = .ok (.iload 4, 2) := by decide +kernel
theorem d_P_charactersInAll_15 : decode prog_1_method_21_code 15 = .ok (.iload_n 3, 1) := by decide +kernel
theorem d_P_charactersInAll_16 : decode prog_1_method_21_code 16 = .ok (.if_icmp .ge 23, 3) := by decide +kernel
theorem d_P_charactersInAll_39 : decode prog_1_method_21_code 39 = .ok (.iload_n 1, 1) := by decide +kernel
theorem d_P_charactersInAll_40 : decode prog_1_method_21_code 40 = .ok (.ireturn, 1) := by decide +kernel
theorem d_P_charactersInAll_19 : decode prog_1_method_21_code 19 = .ok (.aload_n 2, 1) := by decide +kernel
theorem d_P_charactersInAll_20 : decode prog_1_method_21_code 20 = .ok (.iload 4, 2) := by decide +kernel
theorem d_P_charactersInAll_22 : decode prog_1_method_21_code 22 = .ok (.aaload, 1) := by decide +kernel
theorem d_P_charactersInAll_23 : decode prog_1_method_21_code 23 = .ok (.astore 5, 2) := by decide +kernel
theorem d_P_charactersInAll_25 : decode prog_1_method_21_code 25 = .ok (.iload_n 1, 1) := by decide +kernel
theorem d_P_charactersInAll_26 : decode prog_1_method_21_code 26 = .ok (.aload 5, 2) := by decide +kernel
theorem d_P_charactersInAll_28 : decode prog_1_method_21_code 28 = .ok (.invokestatic 137, 3) := by decide +kernel
theorem d_P_charactersInAll_31 : decode prog_1_method_21_code 31 = .ok (.iadd, 1) := by decide +kernel
theorem d_P_charactersInAll_32 : decode prog_1_method_21_code 32 = .ok (.istore_n 1, 1) := by decide +kernel
theorem d_P_charactersInAll_33 : decode prog_1_method_21_code 33 = .ok (.iinc 4 1, 3) := by decide +kernel
theorem d_P_charactersInAll_36 : decode prog_1_method_21_code 36 = .ok (.goto (-23), 3) := by decide +kernel
theorem d_R_piecesOf_0 : decode prog_5_method_3_code 0 = .ok (.aload_n 0, 1) := by decide +kernel
theorem d_R_piecesOf_1 : decode prog_5_method_3_code 1 = .ok (.ifnonnull 7, 3) := by decide +kernel
theorem d_R_piecesOf_4 : decode prog_5_method_3_code 4 = .ok (.iconst 0, 1) := by decide +kernel
theorem d_R_piecesOf_5 : decode prog_5_method_3_code 5 = .ok (.goto 7, 3) := by decide +kernel
theorem d_R_piecesOf_8 : decode prog_5_method_3_code 8 = .ok (.aload_n 0, 1) := by decide +kernel
theorem d_R_piecesOf_9 : decode prog_5_method_3_code 9 = .ok (.getfield 15, 3) := by decide +kernel
theorem d_R_piecesOf_12 : decode prog_5_method_3_code 12 = .ok (.ireturn, 1) := by decide +kernel
theorem d_P_piecesInAll_0 : decode prog_1_method_22_code 0 = .ok (.iconst 0, 1) := by decide +kernel
theorem d_P_piecesInAll_1 : decode prog_1_method_22_code 1 = .ok (.istore_n 1, 1) := by decide +kernel
theorem d_P_piecesInAll_2 : decode prog_1_method_22_code 2 = .ok (.aload_n 0, 1) := by decide +kernel
theorem d_P_piecesInAll_3 : decode prog_1_method_22_code 3 = .ok (.getfield 15, 3) := by decide +kernel
theorem d_P_piecesInAll_6 : decode prog_1_method_22_code 6 = .ok (.astore_n 2, 1) := by decide +kernel
theorem d_P_piecesInAll_7 : decode prog_1_method_22_code 7 = .ok (.aload_n 2, 1) := by decide +kernel
theorem d_P_piecesInAll_8 : decode prog_1_method_22_code 8 = .ok (.arraylength, 1) := by decide +kernel
theorem d_P_piecesInAll_9 : decode prog_1_method_22_code 9 = .ok (.istore_n 3, 1) := by decide +kernel
theorem d_P_piecesInAll_10 : decode prog_1_method_22_code 10 = .ok (.iconst 0, 1) := by decide +kernel
theorem d_P_piecesInAll_11 : decode prog_1_method_22_code 11 = .ok (.istore 4, 2) := by decide +kernel
theorem d_P_piecesInAll_13 : decode prog_1_method_22_code 13 = .ok (.iload 4, 2) := by decide +kernel
theorem d_P_piecesInAll_15 : decode prog_1_method_22_code 15 = .ok (.iload_n 3, 1) := by decide +kernel
theorem d_P_piecesInAll_16 : decode prog_1_method_22_code 16 = .ok (.if_icmp .ge 23, 3) := by decide +kernel
theorem d_P_piecesInAll_39 : decode prog_1_method_22_code 39 = .ok (.iload_n 1, 1) := by decide +kernel
theorem d_P_piecesInAll_40 : decode prog_1_method_22_code 40 = .ok (.ireturn, 1) := by decide +kernel
theorem d_P_piecesInAll_19 : decode prog_1_method_22_code 19 = .ok (.aload_n 2, 1) := by decide +kernel
theorem d_P_piecesInAll_20 : decode prog_1_method_22_code 20 = .ok (.iload 4, 2) := by decide +kernel
theorem d_P_piecesInAll_22 : decode prog_1_method_22_code 22 = .ok (.aaload, 1) := by decide +kernel
theorem d_P_piecesInAll_23 : decode prog_1_method_22_code 23 = .ok (.astore 5, 2) := by decide +kernel
theorem d_P_piecesInAll_25 : decode prog_1_method_22_code 25 = .ok (.iload_n 1, 1) := by decide +kernel
theorem d_P_piecesInAll_26 : decode prog_1_method_22_code 26 = .ok (.aload 5, 2) := by decide +kernel
theorem d_P_piecesInAll_28 : decode prog_1_method_22_code 28 = .ok (.invokestatic 69, 3) := by decide +kernel
theorem d_P_piecesInAll_31 : decode prog_1_method_22_code 31 = .ok (.iadd, 1) := by decide +kernel
theorem d_P_piecesInAll_32 : decode prog_1_method_22_code 32 = .ok (.istore_n 1, 1) := by decide +kernel
theorem d_P_piecesInAll_33 : decode prog_1_method_22_code 33 = .ok (.iinc 4 1, 3) := by decide +kernel
theorem d_P_piecesInAll_36 : decode prog_1_method_22_code 36 = .ok (.goto (-23), 3) := by decide +kernel
theorem d_P_demandRoom_0 : decode prog_1_method_28_code 0 = .ok (.aload_n 0, 1) := by decide +kernel
theorem d_P_demandRoom_1 : decode prog_1_method_28_code 1 = .ok (.invokevirtual 200, 3) := by decide +kernel
theorem d_P_demandRoom_4 : decode prog_1_method_28_code 4 = .ok (.sipush 4096, 3) := by decide +kernel
theorem d_P_demandRoom_7 : decode prog_1_method_28_code 7 = .ok (.iload_n 1, 1) := by decide +kernel
theorem d_P_demandRoom_8 : decode prog_1_method_28_code 8 = .ok (.isub, 1) := by decide +kernel
theorem d_P_demandRoom_9 : decode prog_1_method_28_code 9 = .ok (.if_icmp .le 13, 3) := by decide +kernel
theorem d_P_demandRoom_22 : decode prog_1_method_28_code 22 = .ok (.aload_n 0, 1) := by decide +kernel
theorem d_P_demandRoom_23 : decode prog_1_method_28_code 23 = .ok (.invokevirtual 203, 3) := by decide +kernel
theorem d_P_demandRoom_26 : decode prog_1_method_28_code 26 = .ok (.sipush 1024, 3) := by decide +kernel
theorem d_P_demandRoom_29 : decode prog_1_method_28_code 29 = .ok (.iload_n 2, 1) := by decide +kernel
theorem d_P_demandRoom_30 : decode prog_1_method_28_code 30 = .ok (.isub, 1) := by decide +kernel
theorem d_P_demandRoom_31 : decode prog_1_method_28_code 31 = .ok (.if_icmp .le 13, 3) := by decide +kernel
theorem d_P_demandRoom_44 : decode prog_1_method_28_code 44 = .ok (.return_, 1) := by decide +kernel
theorem d_P_demandRoom_34 : decode prog_1_method_28_code 34 = .ok (.new 41, 3) := by decide +kernel
theorem d_P_demandRoom_37 : decode prog_1_method_28_code 37 = .ok (.dup, 1) := by decide +kernel
theorem d_P_demandRoom_38 : decode prog_1_method_28_code 38 = .ok (.ldc 224, 2) := by decide +kernel
theorem d_P_demandRoom_40 : decode prog_1_method_28_code 40 = .ok (.invokespecial 45, 3) := by decide +kernel
theorem d_P_demandRoom_43 : decode prog_1_method_28_code 43 = .ok (.athrow, 1) := by decide +kernel
theorem d_P_demandRoom_12 : decode prog_1_method_28_code 12 = .ok (.new 41, 3) := by decide +kernel
theorem d_P_demandRoom_15 : decode prog_1_method_28_code 15 = .ok (.dup, 1) := by decide +kernel
theorem d_P_demandRoom_16 : decode prog_1_method_28_code 16 = .ok (.ldc 222, 2) := by decide +kernel
theorem d_P_demandRoom_18 : decode prog_1_method_28_code 18 = .ok (.invokespecial 45, 3) := by decide +kernel
theorem d_P_demandRoom_21 : decode prog_1_method_28_code 21 = .ok (.athrow, 1) := by decide +kernel
theorem d_R_orderAt_0 : decode prog_5_method_5_code 0 = .ok (.iconst 0, 1) := by decide +kernel
theorem d_R_orderAt_1 : decode prog_5_method_5_code 1 = .ok (.istore_n 2, 1) := by decide +kernel
theorem d_R_orderAt_2 : decode prog_5_method_5_code 2 = .ok (.iload_n 1, 1) := by decide +kernel
theorem d_R_orderAt_3 : decode prog_5_method_5_code 3 = .ok (.istore_n 3, 1) := by decide +kernel
theorem d_R_orderAt_4 : decode prog_5_method_5_code 4 = .ok (.aload_n 0, 1) := by decide +kernel
theorem d_R_orderAt_5 : decode prog_5_method_5_code 5 = .ok (.astore 4, 2) := by decide +kernel
theorem d_R_orderAt_7 : decode prog_5_method_5_code 7 = .ok (.aload 4, 2) := by decide +kernel
theorem d_R_orderAt_9 : decode prog_5_method_5_code 9 = .ok (.ifnull 86, 3) := by decide +kernel
theorem d_R_orderAt_95 : decode prog_5_method_5_code 95 = .ok (.iload_n 2, 1) := by decide +kernel
theorem d_R_orderAt_96 : decode prog_5_method_5_code 96 = .ok (.ireturn, 1) := by decide +kernel
theorem d_R_orderAt_12 : decode prog_5_method_5_code 12 = .ok (.aload 4, 2) := by decide +kernel
theorem d_R_orderAt_14 : decode prog_5_method_5_code 14 = .ok (.getfield 21, 3) := by decide +kernel
theorem d_R_orderAt_17 : decode prog_5_method_5_code 17 = .ok (.invokestatic 25, 3) := by decide +kernel
theorem d_R_orderAt_20 : decode prog_5_method_5_code 20 = .ok (.istore 5, 2) := by decide +kernel
theorem d_R_orderAt_22 : decode prog_5_method_5_code 22 = .ok (.iload_n 3, 1) := by decide +kernel
theorem d_R_orderAt_23 : decode prog_5_method_5_code 23 = .ok (.iload 5, 2) := by decide +kernel
theorem d_R_orderAt_25 : decode prog_5_method_5_code 25 = .ok (.if_icmp .ge 13, 3) := by decide +kernel
theorem d_R_orderAt_38 : decode prog_5_method_5_code 38 = .ok (.iload_n 3, 1) := by decide +kernel
theorem d_R_orderAt_39 : decode prog_5_method_5_code 39 = .ok (.iload 5, 2) := by decide +kernel
theorem d_R_orderAt_41 : decode prog_5_method_5_code 41 = .ok (.aload 4, 2) := by decide +kernel
theorem d_R_orderAt_43 : decode prog_5_method_5_code 43 = .ok (.getfield 31, 3) := by decide +kernel
theorem d_R_orderAt_46 : decode prog_5_method_5_code 46 = .ok (.iadd, 1) := by decide +kernel
theorem d_R_orderAt_47 : decode prog_5_method_5_code 47 = .ok (.if_icmp .ge 14, 3) := by decide +kernel
theorem d_R_orderAt_61 : decode prog_5_method_5_code 61 = .ok (.iload_n 2, 1) := by decide +kernel
theorem d_R_orderAt_62 : decode prog_5_method_5_code 62 = .ok (.aload 4, 2) := by decide +kernel
theorem d_R_orderAt_64 : decode prog_5_method_5_code 64 = .ok (.getfield 21, 3) := by decide +kernel
theorem d_R_orderAt_67 : decode prog_5_method_5_code 67 = .ok (.invokestatic 34, 3) := by decide +kernel
theorem d_R_orderAt_70 : decode prog_5_method_5_code 70 = .ok (.iconst 1, 1) := by decide +kernel
theorem d_R_orderAt_71 : decode prog_5_method_5_code 71 = .ok (.iadd, 1) := by decide +kernel
theorem d_R_orderAt_72 : decode prog_5_method_5_code 72 = .ok (.iadd, 1) := by decide +kernel
theorem d_R_orderAt_73 : decode prog_5_method_5_code 73 = .ok (.istore_n 2, 1) := by decide +kernel
theorem d_R_orderAt_74 : decode prog_5_method_5_code 74 = .ok (.iload_n 3, 1) := by decide +kernel
theorem d_R_orderAt_75 : decode prog_5_method_5_code 75 = .ok (.iload 5, 2) := by decide +kernel
theorem d_R_orderAt_77 : decode prog_5_method_5_code 77 = .ok (.aload 4, 2) := by decide +kernel
theorem d_R_orderAt_79 : decode prog_5_method_5_code 79 = .ok (.getfield 31, 3) := by decide +kernel
theorem d_R_orderAt_82 : decode prog_5_method_5_code 82 = .ok (.iadd, 1) := by decide +kernel
theorem d_R_orderAt_83 : decode prog_5_method_5_code 83 = .ok (.isub, 1) := by decide +kernel
theorem d_R_orderAt_84 : decode prog_5_method_5_code 84 = .ok (.istore_n 3, 1) := by decide +kernel
theorem d_R_orderAt_85 : decode prog_5_method_5_code 85 = .ok (.aload 4, 2) := by decide +kernel
theorem d_R_orderAt_87 : decode prog_5_method_5_code 87 = .ok (.getfield 37, 3) := by decide +kernel
theorem d_R_orderAt_90 : decode prog_5_method_5_code 90 = .ok (.astore 4, 2) := by decide +kernel
theorem d_R_orderAt_50 : decode prog_5_method_5_code 50 = .ok (.iload_n 2, 1) := by decide +kernel
theorem d_R_orderAt_51 : decode prog_5_method_5_code 51 = .ok (.aload 4, 2) := by decide +kernel
theorem d_R_orderAt_53 : decode prog_5_method_5_code 53 = .ok (.getfield 21, 3) := by decide +kernel
theorem d_R_orderAt_56 : decode prog_5_method_5_code 56 = .ok (.invokestatic 34, 3) := by decide +kernel
theorem d_R_orderAt_59 : decode prog_5_method_5_code 59 = .ok (.iadd, 1) := by decide +kernel
theorem d_R_orderAt_60 : decode prog_5_method_5_code 60 = .ok (.ireturn, 1) := by decide +kernel
theorem d_R_orderAt_28 : decode prog_5_method_5_code 28 = .ok (.aload 4, 2) := by decide +kernel
theorem d_R_orderAt_30 : decode prog_5_method_5_code 30 = .ok (.getfield 21, 3) := by decide +kernel
theorem d_R_orderAt_33 : decode prog_5_method_5_code 33 = .ok (.astore 4, 2) := by decide +kernel
theorem d_R_orderAt_35 : decode prog_5_method_5_code 35 = .ok (.goto 57, 3) := by decide +kernel
theorem d_R_orderAt_92 : decode prog_5_method_5_code 92 = .ok (.goto (-85), 3) := by decide +kernel
theorem d_Y_before_0 : decode prog_6_method_8_code 0 = .ok (.iload_n 1, 1) := by decide +kernel
theorem d_Y_before_1 : decode prog_6_method_8_code 1 = .ok (.iconst 1, 1) := by decide +kernel
theorem d_Y_before_2 : decode prog_6_method_8_code 2 = .ok (.if_icmp .ge 7, 3) := by decide +kernel
theorem d_Y_before_9 : decode prog_6_method_8_code 9 = .ok (.aload_n 0, 1) := by decide +kernel
theorem d_Y_before_10 : decode prog_6_method_8_code 10 = .ok (.iload_n 1, 1) := by decide +kernel
theorem d_Y_before_11 : decode prog_6_method_8_code 11 = .ok (.iconst 1, 1) := by decide +kernel
theorem d_Y_before_12 : decode prog_6_method_8_code 12 = .ok (.isub, 1) := by decide +kernel
theorem d_Y_before_13 : decode prog_6_method_8_code 13 = .ok (.invokestatic 46, 3) := by decide +kernel
theorem d_Y_before_16 : decode prog_6_method_8_code 16 = .ok (.iconst 1, 1) := by decide +kernel
theorem d_Y_before_17 : decode prog_6_method_8_code 17 = .ok (.iadd, 1) := by decide +kernel
theorem d_Y_before_5 : decode prog_6_method_8_code 5 = .ok (.iconst 0, 1) := by decide +kernel
theorem d_Y_before_6 : decode prog_6_method_8_code 6 = .ok (.goto 12, 3) := by decide +kernel
theorem d_Y_before_18 : decode prog_6_method_8_code 18 = .ok (.ireturn, 1) := by decide +kernel
theorem d_Y_behind_0 : decode prog_6_method_9_code 0 = .ok (.aload_n 0, 1) := by decide +kernel
theorem d_Y_behind_1 : decode prog_6_method_9_code 1 = .ok (.invokestatic 35, 3) := by decide +kernel
theorem d_Y_behind_4 : decode prog_6_method_9_code 4 = .ok (.aload_n 0, 1) := by decide +kernel
theorem d_Y_behind_5 : decode prog_6_method_9_code 5 = .ok (.iload_n 1, 1) := by decide +kernel
theorem d_Y_behind_6 : decode prog_6_method_9_code 6 = .ok (.invokestatic 46, 3) := by decide +kernel
theorem d_Y_behind_9 : decode prog_6_method_9_code 9 = .ok (.isub, 1) := by decide +kernel
theorem d_Y_behind_10 : decode prog_6_method_9_code 10 = .ok (.ireturn, 1) := by decide +kernel
theorem d_R_numbered_0 : decode prog_5_method_6_code 0 = .ok (.iload_n 1, 1) := by decide +kernel
theorem d_R_numbered_1 : decode prog_5_method_6_code 1 = .ok (.istore_n 2, 1) := by decide +kernel
theorem d_R_numbered_2 : decode prog_5_method_6_code 2 = .ok (.aload_n 0, 1) := by decide +kernel
theorem d_R_numbered_3 : decode prog_5_method_6_code 3 = .ok (.astore_n 3, 1) := by decide +kernel
theorem d_R_numbered_4 : decode prog_5_method_6_code 4 = .ok (.aload_n 3, 1) := by decide +kernel
theorem d_R_numbered_5 : decode prog_5_method_6_code 5 = .ok (.ifnull 49, 3) := by decide +kernel
theorem d_R_numbered_54 : decode prog_5_method_6_code 54 = .ok (.aconst_null, 1) := by decide +kernel
theorem d_R_numbered_55 : decode prog_5_method_6_code 55 = .ok (.areturn, 1) := by decide +kernel
theorem d_R_numbered_8 : decode prog_5_method_6_code 8 = .ok (.aload_n 3, 1) := by decide +kernel
theorem d_R_numbered_9 : decode prog_5_method_6_code 9 = .ok (.getfield 21, 3) := by decide +kernel
theorem d_R_numbered_12 : decode prog_5_method_6_code 12 = .ok (.invokestatic 34, 3) := by decide +kernel
theorem d_R_numbered_15 : decode prog_5_method_6_code 15 = .ok (.istore 4, 2) := by decide +kernel
theorem d_R_numbered_17 : decode prog_5_method_6_code 17 = .ok (.iload_n 2, 1) := by decide +kernel
theorem d_R_numbered_18 : decode prog_5_method_6_code 18 = .ok (.iload 4, 2) := by decide +kernel
theorem d_R_numbered_20 : decode prog_5_method_6_code 20 = .ok (.if_icmp .ne 5, 3) := by decide +kernel
theorem d_R_numbered_25 : decode prog_5_method_6_code 25 = .ok (.iload_n 2, 1) := by decide +kernel
theorem d_R_numbered_26 : decode prog_5_method_6_code 26 = .ok (.iload 4, 2) := by decide +kernel
theorem d_R_numbered_28 : decode prog_5_method_6_code 28 = .ok (.if_icmp .ge 11, 3) := by decide +kernel
theorem d_R_numbered_39 : decode prog_5_method_6_code 39 = .ok (.iload_n 2, 1) := by decide +kernel
theorem d_R_numbered_40 : decode prog_5_method_6_code 40 = .ok (.iload 4, 2) := by decide +kernel
theorem d_R_numbered_42 : decode prog_5_method_6_code 42 = .ok (.iconst 1, 1) := by decide +kernel
theorem d_R_numbered_43 : decode prog_5_method_6_code 43 = .ok (.iadd, 1) := by decide +kernel
theorem d_R_numbered_44 : decode prog_5_method_6_code 44 = .ok (.isub, 1) := by decide +kernel
theorem d_R_numbered_45 : decode prog_5_method_6_code 45 = .ok (.istore_n 2, 1) := by decide +kernel
theorem d_R_numbered_46 : decode prog_5_method_6_code 46 = .ok (.aload_n 3, 1) := by decide +kernel
theorem d_R_numbered_47 : decode prog_5_method_6_code 47 = .ok (.getfield 37, 3) := by decide +kernel
theorem d_R_numbered_50 : decode prog_5_method_6_code 50 = .ok (.astore_n 3, 1) := by decide +kernel
theorem d_R_numbered_31 : decode prog_5_method_6_code 31 = .ok (.aload_n 3, 1) := by decide +kernel
theorem d_R_numbered_32 : decode prog_5_method_6_code 32 = .ok (.getfield 21, 3) := by decide +kernel
theorem d_R_numbered_35 : decode prog_5_method_6_code 35 = .ok (.astore_n 3, 1) := by decide +kernel
theorem d_R_numbered_36 : decode prog_5_method_6_code 36 = .ok (.goto 15, 3) := by decide +kernel
theorem d_R_numbered_23 : decode prog_5_method_6_code 23 = .ok (.aload_n 3, 1) := by decide +kernel
theorem d_R_numbered_24 : decode prog_5_method_6_code 24 = .ok (.areturn, 1) := by decide +kernel
theorem d_R_numbered_51 : decode prog_5_method_6_code 51 = .ok (.goto (-47), 3) := by decide +kernel
theorem d_R_startOf_0 : decode prog_5_method_7_code 0 = .ok (.iconst 0, 1) := by decide +kernel
theorem d_R_startOf_1 : decode prog_5_method_7_code 1 = .ok (.istore_n 2, 1) := by decide +kernel
theorem d_R_startOf_2 : decode prog_5_method_7_code 2 = .ok (.iload_n 1, 1) := by decide +kernel
theorem d_R_startOf_3 : decode prog_5_method_7_code 3 = .ok (.istore_n 3, 1) := by decide +kernel
theorem d_R_startOf_4 : decode prog_5_method_7_code 4 = .ok (.aload_n 0, 1) := by decide +kernel
theorem d_R_startOf_5 : decode prog_5_method_7_code 5 = .ok (.astore 4, 2) := by decide +kernel
theorem d_R_startOf_7 : decode prog_5_method_7_code 7 = .ok (.aload 4, 2) := by decide +kernel
theorem d_R_startOf_9 : decode prog_5_method_7_code 9 = .ok (.ifnull 63, 3) := by decide +kernel
theorem d_R_startOf_72 : decode prog_5_method_7_code 72 = .ok (.iload_n 2, 1) := by decide +kernel
theorem d_R_startOf_73 : decode prog_5_method_7_code 73 = .ok (.ireturn, 1) := by decide +kernel
theorem d_R_startOf_12 : decode prog_5_method_7_code 12 = .ok (.aload 4, 2) := by decide +kernel
theorem d_R_startOf_14 : decode prog_5_method_7_code 14 = .ok (.getfield 21, 3) := by decide +kernel
theorem d_R_startOf_17 : decode prog_5_method_7_code 17 = .ok (.invokestatic 34, 3) := by decide +kernel
theorem d_R_startOf_20 : decode prog_5_method_7_code 20 = .ok (.istore 5, 2) := by decide +kernel
theorem d_R_startOf_22 : decode prog_5_method_7_code 22 = .ok (.iload_n 3, 1) := by decide +kernel
theorem d_R_startOf_23 : decode prog_5_method_7_code 23 = .ok (.iload 5, 2) := by decide +kernel
theorem d_R_startOf_25 : decode prog_5_method_7_code 25 = .ok (.if_icmp .gt 13, 3) := by decide +kernel
theorem d_R_startOf_38 : decode prog_5_method_7_code 38 = .ok (.iload_n 2, 1) := by decide +kernel
theorem d_R_startOf_39 : decode prog_5_method_7_code 39 = .ok (.aload 4, 2) := by decide +kernel
theorem d_R_startOf_41 : decode prog_5_method_7_code 41 = .ok (.getfield 21, 3) := by decide +kernel
theorem d_R_startOf_44 : decode prog_5_method_7_code 44 = .ok (.invokestatic 25, 3) := by decide +kernel
theorem d_R_startOf_47 : decode prog_5_method_7_code 47 = .ok (.aload 4, 2) := by decide +kernel
theorem d_R_startOf_49 : decode prog_5_method_7_code 49 = .ok (.getfield 31, 3) := by decide +kernel
theorem d_R_startOf_52 : decode prog_5_method_7_code 52 = .ok (.iadd, 1) := by decide +kernel
theorem d_R_startOf_53 : decode prog_5_method_7_code 53 = .ok (.iadd, 1) := by decide +kernel
theorem d_R_startOf_54 : decode prog_5_method_7_code 54 = .ok (.istore_n 2, 1) := by decide +kernel
theorem d_R_startOf_55 : decode prog_5_method_7_code 55 = .ok (.iload_n 3, 1) := by decide +kernel
theorem d_R_startOf_56 : decode prog_5_method_7_code 56 = .ok (.iload 5, 2) := by decide +kernel
theorem d_R_startOf_58 : decode prog_5_method_7_code 58 = .ok (.iconst 1, 1) := by decide +kernel
theorem d_R_startOf_59 : decode prog_5_method_7_code 59 = .ok (.iadd, 1) := by decide +kernel
theorem d_R_startOf_60 : decode prog_5_method_7_code 60 = .ok (.isub, 1) := by decide +kernel
theorem d_R_startOf_61 : decode prog_5_method_7_code 61 = .ok (.istore_n 3, 1) := by decide +kernel
theorem d_R_startOf_62 : decode prog_5_method_7_code 62 = .ok (.aload 4, 2) := by decide +kernel
theorem d_R_startOf_64 : decode prog_5_method_7_code 64 = .ok (.getfield 37, 3) := by decide +kernel
theorem d_R_startOf_67 : decode prog_5_method_7_code 67 = .ok (.astore 4, 2) := by decide +kernel
theorem d_R_startOf_28 : decode prog_5_method_7_code 28 = .ok (.aload 4, 2) := by decide +kernel
theorem d_R_startOf_30 : decode prog_5_method_7_code 30 = .ok (.getfield 21, 3) := by decide +kernel
theorem d_R_startOf_33 : decode prog_5_method_7_code 33 = .ok (.astore 4, 2) := by decide +kernel
theorem d_R_startOf_35 : decode prog_5_method_7_code 35 = .ok (.goto 34, 3) := by decide +kernel
theorem d_R_startOf_69 : decode prog_5_method_7_code 69 = .ok (.goto (-62), 3) := by decide +kernel
theorem d_R_sourceAt_0 : decode prog_5_method_8_code 0 = .ok (.aload_n 0, 1) := by decide +kernel
theorem d_R_sourceAt_1 : decode prog_5_method_8_code 1 = .ok (.iload_n 1, 1) := by decide +kernel
theorem d_R_sourceAt_2 : decode prog_5_method_8_code 2 = .ok (.invokestatic 40, 3) := by decide +kernel
theorem d_R_sourceAt_5 : decode prog_5_method_8_code 5 = .ok (.istore_n 2, 1) := by decide +kernel
theorem d_R_sourceAt_6 : decode prog_5_method_8_code 6 = .ok (.aload_n 0, 1) := by decide +kernel
theorem d_R_sourceAt_7 : decode prog_5_method_8_code 7 = .ok (.iload_n 2, 1) := by decide +kernel
theorem d_R_sourceAt_8 : decode prog_5_method_8_code 8 = .ok (.invokestatic 44, 3) := by decide +kernel
theorem d_R_sourceAt_11 : decode prog_5_method_8_code 11 = .ok (.astore_n 3, 1) := by decide +kernel
theorem d_R_sourceAt_12 : decode prog_5_method_8_code 12 = .ok (.aload_n 3, 1) := by decide +kernel
theorem d_R_sourceAt_13 : decode prog_5_method_8_code 13 = .ok (.ifnonnull 7, 3) := by decide +kernel
theorem d_R_sourceAt_16 : decode prog_5_method_8_code 16 = .ok (.iconst (-1), 1) := by decide +kernel
theorem d_R_sourceAt_17 : decode prog_5_method_8_code 17 = .ok (.goto 15, 3) := by decide +kernel
theorem d_R_sourceAt_20 : decode prog_5_method_8_code 20 = .ok (.aload_n 3, 1) := by decide +kernel
theorem d_R_sourceAt_21 : decode prog_5_method_8_code 21 = .ok (.getfield 48, 3) := by decide +kernel
theorem d_R_sourceAt_24 : decode prog_5_method_8_code 24 = .ok (.iload_n 1, 1) := by decide +kernel
theorem d_R_sourceAt_25 : decode prog_5_method_8_code 25 = .ok (.iadd, 1) := by decide +kernel
theorem d_R_sourceAt_26 : decode prog_5_method_8_code 26 = .ok (.aload_n 0, 1) := by decide +kernel
theorem d_R_sourceAt_27 : decode prog_5_method_8_code 27 = .ok (.iload_n 2, 1) := by decide +kernel
theorem d_R_sourceAt_28 : decode prog_5_method_8_code 28 = .ok (.invokestatic 51, 3) := by decide +kernel
theorem d_R_sourceAt_31 : decode prog_5_method_8_code 31 = .ok (.isub, 1) := by decide +kernel
theorem d_R_sourceAt_32 : decode prog_5_method_8_code 32 = .ok (.ireturn, 1) := by decide +kernel
theorem d_R_tagAt_0 : decode prog_5_method_9_code 0 = .ok (.aload_n 0, 1) := by decide +kernel
theorem d_R_tagAt_1 : decode prog_5_method_9_code 1 = .ok (.aload_n 0, 1) := by decide +kernel
theorem d_R_tagAt_2 : decode prog_5_method_9_code 2 = .ok (.iload_n 1, 1) := by decide +kernel
theorem d_R_tagAt_3 : decode prog_5_method_9_code 3 = .ok (.invokestatic 40, 3) := by decide +kernel
theorem d_R_tagAt_6 : decode prog_5_method_9_code 6 = .ok (.invokestatic 44, 3) := by decide +kernel
theorem d_R_tagAt_9 : decode prog_5_method_9_code 9 = .ok (.astore_n 2, 1) := by decide +kernel
theorem d_R_tagAt_10 : decode prog_5_method_9_code 10 = .ok (.aload_n 2, 1) := by decide +kernel
theorem d_R_tagAt_11 : decode prog_5_method_9_code 11 = .ok (.ifnonnull 7, 3) := by decide +kernel
theorem d_R_tagAt_14 : decode prog_5_method_9_code 14 = .ok (.iconst 0, 1) := by decide +kernel
theorem d_R_tagAt_15 : decode prog_5_method_9_code 15 = .ok (.goto 7, 3) := by decide +kernel
theorem d_R_tagAt_18 : decode prog_5_method_9_code 18 = .ok (.aload_n 2, 1) := by decide +kernel
theorem d_R_tagAt_19 : decode prog_5_method_9_code 19 = .ok (.getfield 54, 3) := by decide +kernel
theorem d_R_tagAt_22 : decode prog_5_method_9_code 22 = .ok (.ireturn, 1) := by decide +kernel
theorem d_Y_meldsLeft_0 : decode prog_6_method_10_code 0 = .ok (.iload_n 1, 1) := by decide +kernel
theorem d_Y_meldsLeft_1 : decode prog_6_method_10_code 1 = .ok (.iconst 1, 1) := by decide +kernel
theorem d_Y_meldsLeft_2 : decode prog_6_method_10_code 2 = .ok (.if_icmp .ge 5, 3) := by decide +kernel
theorem d_Y_meldsLeft_7 : decode prog_6_method_10_code 7 = .ok (.aload_n 0, 1) := by decide +kernel
theorem d_Y_meldsLeft_8 : decode prog_6_method_10_code 8 = .ok (.iload_n 1, 1) := by decide +kernel
theorem d_Y_meldsLeft_9 : decode prog_6_method_10_code 9 = .ok (.iconst 1, 1) := by decide +kernel
theorem d_Y_meldsLeft_10 : decode prog_6_method_10_code 10 = .ok (.isub, 1) := by decide +kernel
theorem d_Y_meldsLeft_11 : decode prog_6_method_10_code 11 = .ok (.invokestatic 29, 3) := by decide +kernel
theorem d_Y_meldsLeft_14 : decode prog_6_method_10_code 14 = .ok (.iconst 1, 1) := by decide +kernel
theorem d_Y_meldsLeft_15 : decode prog_6_method_10_code 15 = .ok (.iadd, 1) := by decide +kernel
theorem d_Y_meldsLeft_16 : decode prog_6_method_10_code 16 = .ok (.iload_n 2, 1) := by decide +kernel
theorem d_Y_meldsLeft_17 : decode prog_6_method_10_code 17 = .ok (.if_icmp .ne 18, 3) := by decide +kernel
theorem d_Y_meldsLeft_20 : decode prog_6_method_10_code 20 = .ok (.aload_n 0, 1) := by decide +kernel
theorem d_Y_meldsLeft_21 : decode prog_6_method_10_code 21 = .ok (.iload_n 1, 1) := by decide +kernel
theorem d_Y_meldsLeft_22 : decode prog_6_method_10_code 22 = .ok (.iconst 1, 1) := by decide +kernel
theorem d_Y_meldsLeft_23 : decode prog_6_method_10_code 23 = .ok (.isub, 1) := by decide +kernel
theorem d_Y_meldsLeft_24 : decode prog_6_method_10_code 24 = .ok (.invokestatic 32, 3) := by decide +kernel
theorem d_Y_meldsLeft_27 : decode prog_6_method_10_code 27 = .ok (.iload_n 3, 1) := by decide +kernel
theorem d_Y_meldsLeft_28 : decode prog_6_method_10_code 28 = .ok (.if_icmp .ne 7, 3) := by decide +kernel
theorem d_Y_meldsLeft_31 : decode prog_6_method_10_code 31 = .ok (.iconst 1, 1) := by decide +kernel
theorem d_Y_meldsLeft_32 : decode prog_6_method_10_code 32 = .ok (.goto 4, 3) := by decide +kernel
theorem d_Y_meldsLeft_5 : decode prog_6_method_10_code 5 = .ok (.iconst 0, 1) := by decide +kernel
theorem d_Y_meldsLeft_6 : decode prog_6_method_10_code 6 = .ok (.ireturn, 1) := by decide +kernel
theorem d_Y_meldsLeft_35 : decode prog_6_method_10_code 35 = .ok (.iconst 0, 1) := by decide +kernel
theorem d_Y_meldsLeft_36 : decode prog_6_method_10_code 36 = .ok (.ireturn, 1) := by decide +kernel
theorem d_Y_meldsRight_0 : decode prog_6_method_11_code 0 = .ok (.iload_n 1, 1) := by decide +kernel
theorem d_Y_meldsRight_1 : decode prog_6_method_11_code 1 = .ok (.aload_n 0, 1) := by decide +kernel
theorem d_Y_meldsRight_2 : decode prog_6_method_11_code 2 = .ok (.invokestatic 23, 3) := by decide +kernel
theorem d_Y_meldsRight_5 : decode prog_6_method_11_code 5 = .ok (.if_icmp .lt 5, 3) := by decide +kernel
theorem d_Y_meldsRight_10 : decode prog_6_method_11_code 10 = .ok (.iload_n 2, 1) := by decide +kernel
theorem d_Y_meldsRight_11 : decode prog_6_method_11_code 11 = .ok (.iconst 1, 1) := by decide +kernel
theorem d_Y_meldsRight_12 : decode prog_6_method_11_code 12 = .ok (.iadd, 1) := by decide +kernel
theorem d_Y_meldsRight_13 : decode prog_6_method_11_code 13 = .ok (.aload_n 0, 1) := by decide +kernel
theorem d_Y_meldsRight_14 : decode prog_6_method_11_code 14 = .ok (.iload_n 1, 1) := by decide +kernel
theorem d_Y_meldsRight_15 : decode prog_6_method_11_code 15 = .ok (.invokestatic 29, 3) := by decide +kernel
theorem d_Y_meldsRight_18 : decode prog_6_method_11_code 18 = .ok (.if_icmp .ne 16, 3) := by decide +kernel
theorem d_Y_meldsRight_21 : decode prog_6_method_11_code 21 = .ok (.aload_n 0, 1) := by decide +kernel
theorem d_Y_meldsRight_22 : decode prog_6_method_11_code 22 = .ok (.iload_n 1, 1) := by decide +kernel
theorem d_Y_meldsRight_23 : decode prog_6_method_11_code 23 = .ok (.invokestatic 32, 3) := by decide +kernel
theorem d_Y_meldsRight_26 : decode prog_6_method_11_code 26 = .ok (.iload_n 3, 1) := by decide +kernel
theorem d_Y_meldsRight_27 : decode prog_6_method_11_code 27 = .ok (.if_icmp .ne 7, 3) := by decide +kernel
theorem d_Y_meldsRight_30 : decode prog_6_method_11_code 30 = .ok (.iconst 1, 1) := by decide +kernel
theorem d_Y_meldsRight_31 : decode prog_6_method_11_code 31 = .ok (.goto 4, 3) := by decide +kernel
theorem d_Y_meldsRight_8 : decode prog_6_method_11_code 8 = .ok (.iconst 0, 1) := by decide +kernel
theorem d_Y_meldsRight_9 : decode prog_6_method_11_code 9 = .ok (.ireturn, 1) := by decide +kernel
theorem d_Y_meldsRight_34 : decode prog_6_method_11_code 34 = .ok (.iconst 0, 1) := by decide +kernel
theorem d_Y_meldsRight_35 : decode prog_6_method_11_code 35 = .ok (.ireturn, 1) := by decide +kernel
theorem d_Y_afterPut_0 : decode prog_6_method_2_code 0 = .ok (.aload_n 0, 1) := by decide +kernel
theorem d_Y_afterPut_1 : decode prog_6_method_2_code 1 = .ok (.iload_n 1, 1) := by decide +kernel
theorem d_Y_afterPut_2 : decode prog_6_method_2_code 2 = .ok (.invokestatic 7, 3) := by decide +kernel
theorem d_Y_afterPut_5 : decode prog_6_method_2_code 5 = .ok (.iconst 1, 1) := by decide +kernel
theorem d_Y_afterPut_6 : decode prog_6_method_2_code 6 = .ok (.iadd, 1) := by decide +kernel
theorem d_Y_afterPut_7 : decode prog_6_method_2_code 7 = .ok (.aload_n 0, 1) := by decide +kernel
theorem d_Y_afterPut_8 : decode prog_6_method_2_code 8 = .ok (.iload_n 1, 1) := by decide +kernel
theorem d_Y_afterPut_9 : decode prog_6_method_2_code 9 = .ok (.invokestatic 13, 3) := by decide +kernel
theorem d_Y_afterPut_12 : decode prog_6_method_2_code 12 = .ok (.iadd, 1) := by decide +kernel
theorem d_Y_afterPut_13 : decode prog_6_method_2_code 13 = .ok (.aload_n 0, 1) := by decide +kernel
theorem d_Y_afterPut_14 : decode prog_6_method_2_code 14 = .ok (.iload_n 1, 1) := by decide +kernel
theorem d_Y_afterPut_15 : decode prog_6_method_2_code 15 = .ok (.iload_n 2, 1) := by decide +kernel
theorem d_Y_afterPut_16 : decode prog_6_method_2_code 16 = .ok (.iload 4, 2) := by decide +kernel
theorem d_Y_afterPut_18 : decode prog_6_method_2_code 18 = .ok (.invokestatic 16, 3) := by decide +kernel
theorem d_Y_afterPut_21 : decode prog_6_method_2_code 21 = .ok (.isub, 1) := by decide +kernel
theorem d_Y_afterPut_22 : decode prog_6_method_2_code 22 = .ok (.aload_n 0, 1) := by decide +kernel
theorem d_Y_afterPut_23 : decode prog_6_method_2_code 23 = .ok (.iload_n 1, 1) := by decide +kernel
theorem d_Y_afterPut_24 : decode prog_6_method_2_code 24 = .ok (.iload_n 2, 1) := by decide +kernel
theorem d_Y_afterPut_25 : decode prog_6_method_2_code 25 = .ok (.iload_n 3, 1) := by decide +kernel
theorem d_Y_afterPut_26 : decode prog_6_method_2_code 26 = .ok (.iadd, 1) := by decide +kernel
theorem d_Y_afterPut_27 : decode prog_6_method_2_code 27 = .ok (.iconst 1, 1) := by decide +kernel
theorem d_Y_afterPut_28 : decode prog_6_method_2_code 28 = .ok (.isub, 1) := by decide +kernel
theorem d_Y_afterPut_29 : decode prog_6_method_2_code 29 = .ok (.iload 4, 2) := by decide +kernel
theorem d_Y_afterPut_31 : decode prog_6_method_2_code 31 = .ok (.invokestatic 20, 3) := by decide +kernel
theorem d_Y_afterPut_34 : decode prog_6_method_2_code 34 = .ok (.isub, 1) := by decide +kernel
theorem d_Y_afterPut_35 : decode prog_6_method_2_code 35 = .ok (.ireturn, 1) := by decide +kernel
theorem d_T_firstOf_0 : decode prog_7_method_11_code 0 = .ok (.aconst_null, 1) := by decide +kernel
theorem d_T_firstOf_1 : decode prog_7_method_11_code 1 = .ok (.astore_n 1, 1) := by decide +kernel
theorem d_T_firstOf_2 : decode prog_7_method_11_code 2 = .ok (.aload_n 0, 1) := by decide +kernel
theorem d_T_firstOf_3 : decode prog_7_method_11_code 3 = .ok (.astore_n 2, 1) := by decide +kernel
theorem d_T_firstOf_4 : decode prog_7_method_11_code 4 = .ok (.aload_n 2, 1) := by decide +kernel
theorem d_T_firstOf_5 : decode prog_7_method_11_code 5 = .ok (.ifnull 13, 3) := by decide +kernel
theorem d_T_firstOf_18 : decode prog_7_method_11_code 18 = .ok (.aload_n 1, 1) := by decide +kernel
theorem d_T_firstOf_19 : decode prog_7_method_11_code 19 = .ok (.areturn, 1) := by decide +kernel
theorem d_T_firstOf_8 : decode prog_7_method_11_code 8 = .ok (.aload_n 2, 1) := by decide +kernel
theorem d_T_firstOf_9 : decode prog_7_method_11_code 9 = .ok (.astore_n 1, 1) := by decide +kernel
theorem d_T_firstOf_10 : decode prog_7_method_11_code 10 = .ok (.aload_n 2, 1) := by decide +kernel
theorem d_T_firstOf_11 : decode prog_7_method_11_code 11 = .ok (.getfield 35, 3) := by decide +kernel
theorem d_T_firstOf_14 : decode prog_7_method_11_code 14 = .ok (.astore_n 2, 1) := by decide +kernel
theorem d_T_firstOf_15 : decode prog_7_method_11_code 15 = .ok (.goto (-11), 3) := by decide +kernel
theorem d_T_giveBack_0 : decode prog_7_method_3_code 0 = .ok (.aload_n 1, 1) := by decide +kernel
theorem d_T_giveBack_1 : decode prog_7_method_3_code 1 = .ok (.aconst_null, 1) := by decide +kernel
theorem d_T_giveBack_2 : decode prog_7_method_3_code 2 = .ok (.putfield 35, 3) := by decide +kernel
theorem d_T_giveBack_5 : decode prog_7_method_3_code 5 = .ok (.aload_n 1, 1) := by decide +kernel
theorem d_T_giveBack_6 : decode prog_7_method_3_code 6 = .ok (.aload_n 0, 1) := by decide +kernel
theorem d_T_giveBack_7 : decode prog_7_method_3_code 7 = .ok (.getfield 9, 3) := by decide +kernel
theorem d_T_giveBack_10 : decode prog_7_method_3_code 10 = .ok (.putfield 18, 3) := by decide +kernel
theorem d_T_giveBack_13 : decode prog_7_method_3_code 13 = .ok (.aload_n 0, 1) := by decide +kernel
theorem d_T_giveBack_14 : decode prog_7_method_3_code 14 = .ok (.aload_n 1, 1) := by decide +kernel
theorem d_T_giveBack_15 : decode prog_7_method_3_code 15 = .ok (.putfield 9, 3) := by decide +kernel
theorem d_T_giveBack_18 : decode prog_7_method_3_code 18 = .ok (.return_, 1) := by decide +kernel
theorem d_R_heightOf_0 : decode prog_5_method_2_code 0 = .ok (.aload_n 0, 1) := by decide +kernel
theorem d_R_heightOf_1 : decode prog_5_method_2_code 1 = .ok (.ifnonnull 7, 3) := by decide +kernel
theorem d_R_heightOf_4 : decode prog_5_method_2_code 4 = .ok (.iconst 0, 1) := by decide +kernel
theorem d_R_heightOf_5 : decode prog_5_method_2_code 5 = .ok (.goto 7, 3) := by decide +kernel
theorem d_R_heightOf_8 : decode prog_5_method_2_code 8 = .ok (.aload_n 0, 1) := by decide +kernel
theorem d_R_heightOf_9 : decode prog_5_method_2_code 9 = .ok (.getfield 9, 3) := by decide +kernel
theorem d_R_heightOf_12 : decode prog_5_method_2_code 12 = .ok (.ireturn, 1) := by decide +kernel
theorem d_T_sum_0 : decode prog_7_method_19_code 0 = .ok (.iconst 0, 1) := by decide +kernel
theorem d_T_sum_1 : decode prog_7_method_19_code 1 = .ok (.istore_n 1, 1) := by decide +kernel
theorem d_T_sum_2 : decode prog_7_method_19_code 2 = .ok (.iconst 1, 1) := by decide +kernel
theorem d_T_sum_3 : decode prog_7_method_19_code 3 = .ok (.istore_n 2, 1) := by decide +kernel
theorem d_T_sum_4 : decode prog_7_method_19_code 4 = .ok (.aload_n 0, 1) := by decide +kernel
theorem d_T_sum_5 : decode prog_7_method_19_code 5 = .ok (.getfield 25, 3) := by decide +kernel
theorem d_T_sum_8 : decode prog_7_method_19_code 8 = .ok (.istore_n 3, 1) := by decide +kernel
theorem d_T_sum_9 : decode prog_7_method_19_code 9 = .ok (.aload_n 0, 1) := by decide +kernel
theorem d_T_sum_10 : decode prog_7_method_19_code 10 = .ok (.getfield 35, 3) := by decide +kernel
theorem d_T_sum_13 : decode prog_7_method_19_code 13 = .ok (.astore 4, 2) := by decide +kernel
theorem d_T_sum_15 : decode prog_7_method_19_code 15 = .ok (.aload 4, 2) := by decide +kernel
theorem d_T_sum_17 : decode prog_7_method_19_code 17 = .ok (.ifnull 25, 3) := by decide +kernel
theorem d_T_sum_20 : decode prog_7_method_19_code 20 = .ok (.aload 4, 2) := by decide +kernel
theorem d_T_sum_22 : decode prog_7_method_19_code 22 = .ok (.getfield 123, 3) := by decide +kernel
theorem d_T_sum_25 : decode prog_7_method_19_code 25 = .ok (.istore_n 1, 1) := by decide +kernel
theorem d_T_sum_26 : decode prog_7_method_19_code 26 = .ok (.iload_n 2, 1) := by decide +kernel
theorem d_T_sum_27 : decode prog_7_method_19_code 27 = .ok (.aload 4, 2) := by decide +kernel
theorem d_T_sum_29 : decode prog_7_method_19_code 29 = .ok (.getfield 126, 3) := by decide +kernel
theorem d_T_sum_32 : decode prog_7_method_19_code 32 = .ok (.iadd, 1) := by decide +kernel
theorem d_T_sum_33 : decode prog_7_method_19_code 33 = .ok (.istore_n 2, 1) := by decide +kernel
theorem d_T_sum_34 : decode prog_7_method_19_code 34 = .ok (.iload_n 3, 1) := by decide +kernel
theorem d_T_sum_35 : decode prog_7_method_19_code 35 = .ok (.aload 4, 2) := by decide +kernel
theorem d_T_sum_37 : decode prog_7_method_19_code 37 = .ok (.getfield 129, 3) := by decide +kernel
theorem d_T_sum_40 : decode prog_7_method_19_code 40 = .ok (.iadd, 1) := by decide +kernel
theorem d_T_sum_41 : decode prog_7_method_19_code 41 = .ok (.istore_n 3, 1) := by decide +kernel
theorem d_T_sum_42 : decode prog_7_method_19_code 42 = .ok (.aload_n 0, 1) := by decide +kernel
theorem d_T_sum_43 : decode prog_7_method_19_code 43 = .ok (.getfield 18, 3) := by decide +kernel
theorem d_T_sum_46 : decode prog_7_method_19_code 46 = .ok (.astore 5, 2) := by decide +kernel
theorem d_T_sum_48 : decode prog_7_method_19_code 48 = .ok (.aload 5, 2) := by decide +kernel
theorem d_T_sum_50 : decode prog_7_method_19_code 50 = .ok (.ifnull 29, 3) := by decide +kernel
theorem d_T_sum_53 : decode prog_7_method_19_code 53 = .ok (.iload_n 1, 1) := by decide +kernel
theorem d_T_sum_54 : decode prog_7_method_19_code 54 = .ok (.aload 5, 2) := by decide +kernel
theorem d_T_sum_56 : decode prog_7_method_19_code 56 = .ok (.getfield 123, 3) := by decide +kernel
theorem d_T_sum_59 : decode prog_7_method_19_code 59 = .ok (.invokestatic 92, 3) := by decide +kernel
theorem d_T_sum_62 : decode prog_7_method_19_code 62 = .ok (.istore_n 1, 1) := by decide +kernel
theorem d_T_sum_63 : decode prog_7_method_19_code 63 = .ok (.iload_n 2, 1) := by decide +kernel
theorem d_T_sum_64 : decode prog_7_method_19_code 64 = .ok (.aload 5, 2) := by decide +kernel
theorem d_T_sum_66 : decode prog_7_method_19_code 66 = .ok (.getfield 126, 3) := by decide +kernel
theorem d_T_sum_69 : decode prog_7_method_19_code 69 = .ok (.iadd, 1) := by decide +kernel
theorem d_T_sum_70 : decode prog_7_method_19_code 70 = .ok (.istore_n 2, 1) := by decide +kernel
theorem d_T_sum_71 : decode prog_7_method_19_code 71 = .ok (.iload_n 3, 1) := by decide +kernel
theorem d_T_sum_72 : decode prog_7_method_19_code 72 = .ok (.aload 5, 2) := by decide +kernel
theorem d_T_sum_74 : decode prog_7_method_19_code 74 = .ok (.getfield 129, 3) := by decide +kernel
theorem d_T_sum_77 : decode prog_7_method_19_code 77 = .ok (.iadd, 1) := by decide +kernel
theorem d_T_sum_78 : decode prog_7_method_19_code 78 = .ok (.istore_n 3, 1) := by decide +kernel
theorem d_T_sum_79 : decode prog_7_method_19_code 79 = .ok (.aload_n 0, 1) := by decide +kernel
theorem d_T_sum_80 : decode prog_7_method_19_code 80 = .ok (.iload_n 1, 1) := by decide +kernel
theorem d_T_sum_81 : decode prog_7_method_19_code 81 = .ok (.iconst 1, 1) := by decide +kernel
theorem d_T_sum_82 : decode prog_7_method_19_code 82 = .ok (.iadd, 1) := by decide +kernel
theorem d_T_sum_83 : decode prog_7_method_19_code 83 = .ok (.putfield 123, 3) := by decide +kernel
theorem d_T_sum_86 : decode prog_7_method_19_code 86 = .ok (.aload_n 0, 1) := by decide +kernel
theorem d_T_sum_87 : decode prog_7_method_19_code 87 = .ok (.iload_n 2, 1) := by decide +kernel
theorem d_T_sum_88 : decode prog_7_method_19_code 88 = .ok (.putfield 126, 3) := by decide +kernel
theorem d_T_sum_91 : decode prog_7_method_19_code 91 = .ok (.aload_n 0, 1) := by decide +kernel
theorem d_T_sum_92 : decode prog_7_method_19_code 92 = .ok (.iload_n 3, 1) := by decide +kernel
theorem d_T_sum_93 : decode prog_7_method_19_code 93 = .ok (.putfield 129, 3) := by decide +kernel
theorem d_T_sum_96 : decode prog_7_method_19_code 96 = .ok (.return_, 1) := by decide +kernel
theorem d_T_raiseLeft_0 : decode prog_7_method_17_code 0 = .ok (.aload_n 0, 1) := by decide +kernel
theorem d_T_raiseLeft_1 : decode prog_7_method_17_code 1 = .ok (.getfield 35, 3) := by decide +kernel
theorem d_T_raiseLeft_4 : decode prog_7_method_17_code 4 = .ok (.astore_n 1, 1) := by decide +kernel
theorem d_T_raiseLeft_5 : decode prog_7_method_17_code 5 = .ok (.aload_n 1, 1) := by decide +kernel
theorem d_T_raiseLeft_6 : decode prog_7_method_17_code 6 = .ok (.ifnonnull 5, 3) := by decide +kernel
theorem d_T_raiseLeft_9 : decode prog_7_method_17_code 9 = .ok (.aload_n 0, 1) := by decide +kernel
theorem d_T_raiseLeft_10 : decode prog_7_method_17_code 10 = .ok (.areturn, 1) := by decide +kernel
theorem d_T_raiseLeft_11 : decode prog_7_method_17_code 11 = .ok (.aload_n 0, 1) := by decide +kernel
theorem d_T_raiseLeft_12 : decode prog_7_method_17_code 12 = .ok (.aload_n 1, 1) := by decide +kernel
theorem d_T_raiseLeft_13 : decode prog_7_method_17_code 13 = .ok (.getfield 18, 3) := by decide +kernel
theorem d_T_raiseLeft_16 : decode prog_7_method_17_code 16 = .ok (.putfield 35, 3) := by decide +kernel
theorem d_T_raiseLeft_19 : decode prog_7_method_17_code 19 = .ok (.aload_n 1, 1) := by decide +kernel
theorem d_T_raiseLeft_20 : decode prog_7_method_17_code 20 = .ok (.aload_n 0, 1) := by decide +kernel
theorem d_T_raiseLeft_21 : decode prog_7_method_17_code 21 = .ok (.putfield 18, 3) := by decide +kernel
theorem d_T_raiseLeft_24 : decode prog_7_method_17_code 24 = .ok (.aload_n 0, 1) := by decide +kernel
theorem d_T_raiseLeft_25 : decode prog_7_method_17_code 25 = .ok (.invokestatic 108, 3) := by decide +kernel
theorem d_T_raiseLeft_28 : decode prog_7_method_17_code 28 = .ok (.aload_n 1, 1) := by decide +kernel
theorem d_T_raiseLeft_29 : decode prog_7_method_17_code 29 = .ok (.invokestatic 108, 3) := by decide +kernel
theorem d_T_raiseLeft_32 : decode prog_7_method_17_code 32 = .ok (.aload_n 1, 1) := by decide +kernel
theorem d_T_raiseLeft_33 : decode prog_7_method_17_code 33 = .ok (.areturn, 1) := by decide +kernel
theorem d_T_raiseRight_0 : decode prog_7_method_18_code 0 = .ok (.aload_n 0, 1) := by decide +kernel
theorem d_T_raiseRight_1 : decode prog_7_method_18_code 1 = .ok (.getfield 18, 3) := by decide +kernel
theorem d_T_raiseRight_4 : decode prog_7_method_18_code 4 = .ok (.astore_n 1, 1) := by decide +kernel
theorem d_T_raiseRight_5 : decode prog_7_method_18_code 5 = .ok (.aload_n 1, 1) := by decide +kernel
theorem d_T_raiseRight_6 : decode prog_7_method_18_code 6 = .ok (.ifnonnull 5, 3) := by decide +kernel
theorem d_T_raiseRight_9 : decode prog_7_method_18_code 9 = .ok (.aload_n 0, 1) := by decide +kernel
theorem d_T_raiseRight_10 : decode prog_7_method_18_code 10 = .ok (.areturn, 1) := by decide +kernel
theorem d_T_raiseRight_11 : decode prog_7_method_18_code 11 = .ok (.aload_n 0, 1) := by decide +kernel
theorem d_T_raiseRight_12 : decode prog_7_method_18_code 12 = .ok (.aload_n 1, 1) := by decide +kernel
theorem d_T_raiseRight_13 : decode prog_7_method_18_code 13 = .ok (.getfield 35, 3) := by decide +kernel
theorem d_T_raiseRight_16 : decode prog_7_method_18_code 16 = .ok (.putfield 18, 3) := by decide +kernel
theorem d_T_raiseRight_19 : decode prog_7_method_18_code 19 = .ok (.aload_n 1, 1) := by decide +kernel
theorem d_T_raiseRight_20 : decode prog_7_method_18_code 20 = .ok (.aload_n 0, 1) := by decide +kernel
theorem d_T_raiseRight_21 : decode prog_7_method_18_code 21 = .ok (.putfield 35, 3) := by decide +kernel
theorem d_T_raiseRight_24 : decode prog_7_method_18_code 24 = .ok (.aload_n 0, 1) := by decide +kernel
theorem d_T_raiseRight_25 : decode prog_7_method_18_code 25 = .ok (.invokestatic 108, 3) := by decide +kernel
theorem d_T_raiseRight_28 : decode prog_7_method_18_code 28 = .ok (.aload_n 1, 1) := by decide +kernel
theorem d_T_raiseRight_29 : decode prog_7_method_18_code 29 = .ok (.invokestatic 108, 3) := by decide +kernel
theorem d_T_raiseRight_32 : decode prog_7_method_18_code 32 = .ok (.aload_n 1, 1) := by decide +kernel
theorem d_T_raiseRight_33 : decode prog_7_method_18_code 33 = .ok (.areturn, 1) := by decide +kernel
theorem d_T_balance_0 : decode prog_7_method_16_code 0 = .ok (.aload_n 0, 1) := by decide +kernel
theorem d_T_balance_1 : decode prog_7_method_16_code 1 = .ok (.invokestatic 108, 3) := by decide +kernel
theorem d_T_balance_4 : decode prog_7_method_16_code 4 = .ok (.aload_n 0, 1) := by decide +kernel
theorem d_T_balance_5 : decode prog_7_method_16_code 5 = .ok (.getfield 35, 3) := by decide +kernel
theorem d_T_balance_8 : decode prog_7_method_16_code 8 = .ok (.astore_n 1, 1) := by decide +kernel
theorem d_T_balance_9 : decode prog_7_method_16_code 9 = .ok (.aload_n 0, 1) := by decide +kernel
theorem d_T_balance_10 : decode prog_7_method_16_code 10 = .ok (.getfield 18, 3) := by decide +kernel
theorem d_T_balance_13 : decode prog_7_method_16_code 13 = .ok (.astore_n 2, 1) := by decide +kernel
theorem d_T_balance_14 : decode prog_7_method_16_code 14 = .ok (.aload_n 1, 1) := by decide +kernel
theorem d_T_balance_15 : decode prog_7_method_16_code 15 = .ok (.invokestatic 114, 3) := by decide +kernel
theorem d_T_balance_18 : decode prog_7_method_16_code 18 = .ok (.aload_n 2, 1) := by decide +kernel
theorem d_T_balance_19 : decode prog_7_method_16_code 19 = .ok (.invokestatic 114, 3) := by decide +kernel
theorem d_T_balance_22 : decode prog_7_method_16_code 22 = .ok (.isub, 1) := by decide +kernel
theorem d_T_balance_23 : decode prog_7_method_16_code 23 = .ok (.istore_n 3, 1) := by decide +kernel
theorem d_T_balance_24 : decode prog_7_method_16_code 24 = .ok (.iload_n 3, 1) := by decide +kernel
theorem d_T_balance_25 : decode prog_7_method_16_code 25 = .ok (.iconst 1, 1) := by decide +kernel
theorem d_T_balance_26 : decode prog_7_method_16_code 26 = .ok (.if_icmp .le 37, 3) := by decide +kernel
theorem d_T_balance_29 : decode prog_7_method_16_code 29 = .ok (.aload_n 1, 1) := by decide +kernel
theorem d_T_balance_30 : decode prog_7_method_16_code 30 = .ok (.ifnull 33, 3) := by decide +kernel
theorem d_T_balance_33 : decode prog_7_method_16_code 33 = .ok (.aload_n 1, 1) := by decide +kernel
theorem d_T_balance_34 : decode prog_7_method_16_code 34 = .ok (.getfield 18, 3) := by decide +kernel
theorem d_T_balance_37 : decode prog_7_method_16_code 37 = .ok (.invokestatic 114, 3) := by decide +kernel
theorem d_T_balance_40 : decode prog_7_method_16_code 40 = .ok (.aload_n 1, 1) := by decide +kernel
theorem d_T_balance_41 : decode prog_7_method_16_code 41 = .ok (.getfield 35, 3) := by decide +kernel
theorem d_T_balance_44 : decode prog_7_method_16_code 44 = .ok (.invokestatic 114, 3) := by decide +kernel
theorem d_T_balance_47 : decode prog_7_method_16_code 47 = .ok (.if_icmp .le 11, 3) := by decide +kernel
theorem d_T_balance_50 : decode prog_7_method_16_code 50 = .ok (.aload_n 0, 1) := by decide +kernel
theorem d_T_balance_51 : decode prog_7_method_16_code 51 = .ok (.aload_n 1, 1) := by decide +kernel
theorem d_T_balance_52 : decode prog_7_method_16_code 52 = .ok (.invokestatic 117, 3) := by decide +kernel
theorem d_T_balance_55 : decode prog_7_method_16_code 55 = .ok (.putfield 35, 3) := by decide +kernel
theorem d_T_balance_63 : decode prog_7_method_16_code 63 = .ok (.iload_n 3, 1) := by decide +kernel
theorem d_T_balance_64 : decode prog_7_method_16_code 64 = .ok (.iconst (-1), 1) := by decide +kernel
theorem d_T_balance_65 : decode prog_7_method_16_code 65 = .ok (.if_icmp .ge 37, 3) := by decide +kernel
theorem d_T_balance_68 : decode prog_7_method_16_code 68 = .ok (.aload_n 2, 1) := by decide +kernel
theorem d_T_balance_69 : decode prog_7_method_16_code 69 = .ok (.ifnull 33, 3) := by decide +kernel
theorem d_T_balance_72 : decode prog_7_method_16_code 72 = .ok (.aload_n 2, 1) := by decide +kernel
theorem d_T_balance_73 : decode prog_7_method_16_code 73 = .ok (.getfield 35, 3) := by decide +kernel
theorem d_T_balance_76 : decode prog_7_method_16_code 76 = .ok (.invokestatic 114, 3) := by decide +kernel
theorem d_T_balance_79 : decode prog_7_method_16_code 79 = .ok (.aload_n 2, 1) := by decide +kernel
theorem d_T_balance_80 : decode prog_7_method_16_code 80 = .ok (.getfield 18, 3) := by decide +kernel
theorem d_T_balance_83 : decode prog_7_method_16_code 83 = .ok (.invokestatic 114, 3) := by decide +kernel
theorem d_T_balance_86 : decode prog_7_method_16_code 86 = .ok (.if_icmp .le 11, 3) := by decide +kernel
theorem d_T_balance_89 : decode prog_7_method_16_code 89 = .ok (.aload_n 0, 1) := by decide +kernel
theorem d_T_balance_90 : decode prog_7_method_16_code 90 = .ok (.aload_n 2, 1) := by decide +kernel
theorem d_T_balance_91 : decode prog_7_method_16_code 91 = .ok (.invokestatic 120, 3) := by decide +kernel
theorem d_T_balance_94 : decode prog_7_method_16_code 94 = .ok (.putfield 18, 3) := by decide +kernel
theorem d_T_balance_58 : decode prog_7_method_16_code 58 = .ok (.aload_n 0, 1) := by decide +kernel
theorem d_T_balance_59 : decode prog_7_method_16_code 59 = .ok (.invokestatic 120, 3) := by decide +kernel
theorem d_T_balance_62 : decode prog_7_method_16_code 62 = .ok (.areturn, 1) := by decide +kernel
theorem d_T_balance_102 : decode prog_7_method_16_code 102 = .ok (.aload_n 0, 1) := by decide +kernel
theorem d_T_balance_103 : decode prog_7_method_16_code 103 = .ok (.areturn, 1) := by decide +kernel
theorem d_T_balance_97 : decode prog_7_method_16_code 97 = .ok (.aload_n 0, 1) := by decide +kernel
theorem d_T_balance_98 : decode prog_7_method_16_code 98 = .ok (.invokestatic 117, 3) := by decide +kernel
theorem d_T_balance_101 : decode prog_7_method_16_code 101 = .ok (.areturn, 1) := by decide +kernel
theorem d_T_join_0 : decode prog_7_method_15_code 0 = .ok (.aload_n 0, 1) := by decide +kernel
theorem d_T_join_1 : decode prog_7_method_15_code 1 = .ok (.invokestatic 114, 3) := by decide +kernel
theorem d_T_join_4 : decode prog_7_method_15_code 4 = .ok (.aload_n 2, 1) := by decide +kernel
theorem d_T_join_5 : decode prog_7_method_15_code 5 = .ok (.invokestatic 114, 3) := by decide +kernel
end
section
theorem d_T_join_8 : decode prog_7_method_15_code 8 = .ok (.isub, 1) := by decide +kernel
theorem d_T_join_9 : decode prog_7_method_15_code 9 = .ok (.istore 4, 2) := by decide +kernel
theorem d_T_join_11 : decode prog_7_method_15_code 11 = .ok (.aload_n 0, 1) := by decide +kernel
theorem d_T_join_12 : decode prog_7_method_15_code 12 = .ok (.ifnull 34, 3) := by decide +kernel
theorem d_T_join_15 : decode prog_7_method_15_code 15 = .ok (.iload 4, 2) := by decide +kernel
theorem d_T_join_17 : decode prog_7_method_15_code 17 = .ok (.iconst 1, 1) := by decide +kernel
theorem d_T_join_18 : decode prog_7_method_15_code 18 = .ok (.if_icmp .le 28, 3) := by decide +kernel
theorem d_T_join_21 : decode prog_7_method_15_code 21 = .ok (.iload_n 3, 1) := by decide +kernel
theorem d_T_join_22 : decode prog_7_method_15_code 22 = .ok (.ifCond .le 24, 3) := by decide +kernel
theorem d_T_join_25 : decode prog_7_method_15_code 25 = .ok (.aload_n 0, 1) := by decide +kernel
theorem d_T_join_26 : decode prog_7_method_15_code 26 = .ok (.aload_n 0, 1) := by decide +kernel
theorem d_T_join_27 : decode prog_7_method_15_code 27 = .ok (.getfield 18, 3) := by decide +kernel
theorem d_T_join_30 : decode prog_7_method_15_code 30 = .ok (.aload_n 1, 1) := by decide +kernel
theorem d_T_join_31 : decode prog_7_method_15_code 31 = .ok (.aload_n 2, 1) := by decide +kernel
theorem d_T_join_32 : decode prog_7_method_15_code 32 = .ok (.iload_n 3, 1) := by decide +kernel
theorem d_T_join_33 : decode prog_7_method_15_code 33 = .ok (.iconst 1, 1) := by decide +kernel
theorem d_T_join_34 : decode prog_7_method_15_code 34 = .ok (.isub, 1) := by decide +kernel
theorem d_T_join_35 : decode prog_7_method_15_code 35 = .ok (.invokestatic 61, 3) := by decide +kernel
theorem d_T_join_38 : decode prog_7_method_15_code 38 = .ok (.putfield 18, 3) := by decide +kernel
theorem d_T_join_41 : decode prog_7_method_15_code 41 = .ok (.aload_n 0, 1) := by decide +kernel
theorem d_T_join_42 : decode prog_7_method_15_code 42 = .ok (.invokestatic 111, 3) := by decide +kernel
theorem d_T_join_45 : decode prog_7_method_15_code 45 = .ok (.areturn, 1) := by decide +kernel
theorem d_T_join_46 : decode prog_7_method_15_code 46 = .ok (.aload_n 2, 1) := by decide +kernel
theorem d_T_join_47 : decode prog_7_method_15_code 47 = .ok (.ifnull 34, 3) := by decide +kernel
theorem d_T_join_50 : decode prog_7_method_15_code 50 = .ok (.iload 4, 2) := by decide +kernel
theorem d_T_join_52 : decode prog_7_method_15_code 52 = .ok (.iconst (-1), 1) := by decide +kernel
theorem d_T_join_53 : decode prog_7_method_15_code 53 = .ok (.if_icmp .ge 28, 3) := by decide +kernel
theorem d_T_join_56 : decode prog_7_method_15_code 56 = .ok (.iload_n 3, 1) := by decide +kernel
theorem d_T_join_57 : decode prog_7_method_15_code 57 = .ok (.ifCond .le 24, 3) := by decide +kernel
theorem d_T_join_60 : decode prog_7_method_15_code 60 = .ok (.aload_n 2, 1) := by decide +kernel
theorem d_T_join_61 : decode prog_7_method_15_code 61 = .ok (.aload_n 0, 1) := by decide +kernel
theorem d_T_join_62 : decode prog_7_method_15_code 62 = .ok (.aload_n 1, 1) := by decide +kernel
theorem d_T_join_63 : decode prog_7_method_15_code 63 = .ok (.aload_n 2, 1) := by decide +kernel
theorem d_T_join_64 : decode prog_7_method_15_code 64 = .ok (.getfield 35, 3) := by decide +kernel
theorem d_T_join_67 : decode prog_7_method_15_code 67 = .ok (.iload_n 3, 1) := by decide +kernel
theorem d_T_join_68 : decode prog_7_method_15_code 68 = .ok (.iconst 1, 1) := by decide +kernel
theorem d_T_join_69 : decode prog_7_method_15_code 69 = .ok (.isub, 1) := by decide +kernel
theorem d_T_join_70 : decode prog_7_method_15_code 70 = .ok (.invokestatic 61, 3) := by decide +kernel
theorem d_T_join_73 : decode prog_7_method_15_code 73 = .ok (.putfield 35, 3) := by decide +kernel
theorem d_T_join_76 : decode prog_7_method_15_code 76 = .ok (.aload_n 2, 1) := by decide +kernel
theorem d_T_join_77 : decode prog_7_method_15_code 77 = .ok (.invokestatic 111, 3) := by decide +kernel
theorem d_T_join_80 : decode prog_7_method_15_code 80 = .ok (.areturn, 1) := by decide +kernel
theorem d_T_join_81 : decode prog_7_method_15_code 81 = .ok (.aload_n 1, 1) := by decide +kernel
theorem d_T_join_82 : decode prog_7_method_15_code 82 = .ok (.aload_n 0, 1) := by decide +kernel
theorem d_T_join_83 : decode prog_7_method_15_code 83 = .ok (.putfield 35, 3) := by decide +kernel
theorem d_T_join_86 : decode prog_7_method_15_code 86 = .ok (.aload_n 1, 1) := by decide +kernel
theorem d_T_join_87 : decode prog_7_method_15_code 87 = .ok (.aload_n 2, 1) := by decide +kernel
theorem d_T_join_88 : decode prog_7_method_15_code 88 = .ok (.putfield 18, 3) := by decide +kernel
theorem d_T_join_91 : decode prog_7_method_15_code 91 = .ok (.aload_n 1, 1) := by decide +kernel
theorem d_T_join_92 : decode prog_7_method_15_code 92 = .ok (.invokestatic 108, 3) := by decide +kernel
theorem d_T_join_95 : decode prog_7_method_15_code 95 = .ok (.aload_n 1, 1) := by decide +kernel
theorem d_T_join_96 : decode prog_7_method_15_code 96 = .ok (.areturn, 1) := by decide +kernel
theorem d_T_lastOf_0 : decode prog_7_method_12_code 0 = .ok (.aconst_null, 1) := by decide +kernel
theorem d_T_lastOf_1 : decode prog_7_method_12_code 1 = .ok (.astore_n 1, 1) := by decide +kernel
theorem d_T_lastOf_2 : decode prog_7_method_12_code 2 = .ok (.aload_n 0, 1) := by decide +kernel
theorem d_T_lastOf_3 : decode prog_7_method_12_code 3 = .ok (.astore_n 2, 1) := by decide +kernel
theorem d_T_lastOf_4 : decode prog_7_method_12_code 4 = .ok (.aload_n 2, 1) := by decide +kernel
theorem d_T_lastOf_5 : decode prog_7_method_12_code 5 = .ok (.ifnull 13, 3) := by decide +kernel
theorem d_T_lastOf_18 : decode prog_7_method_12_code 18 = .ok (.aload_n 1, 1) := by decide +kernel
theorem d_T_lastOf_19 : decode prog_7_method_12_code 19 = .ok (.areturn, 1) := by decide +kernel
theorem d_T_lastOf_8 : decode prog_7_method_12_code 8 = .ok (.aload_n 2, 1) := by decide +kernel
theorem d_T_lastOf_9 : decode prog_7_method_12_code 9 = .ok (.astore_n 1, 1) := by decide +kernel
theorem d_T_lastOf_10 : decode prog_7_method_12_code 10 = .ok (.aload_n 2, 1) := by decide +kernel
theorem d_T_lastOf_11 : decode prog_7_method_12_code 11 = .ok (.getfield 18, 3) := by decide +kernel
theorem d_T_lastOf_14 : decode prog_7_method_12_code 14 = .ok (.astore_n 2, 1) := by decide +kernel
theorem d_T_lastOf_15 : decode prog_7_method_12_code 15 = .ok (.goto (-11), 3) := by decide +kernel
theorem d_T_withoutFirst_0 : decode prog_7_method_13_code 0 = .ok (.aload_n 0, 1) := by decide +kernel
theorem d_T_withoutFirst_1 : decode prog_7_method_13_code 1 = .ok (.ifnull 8, 3) := by decide +kernel
theorem d_T_withoutFirst_4 : decode prog_7_method_13_code 4 = .ok (.iload_n 1, 1) := by decide +kernel
theorem d_T_withoutFirst_5 : decode prog_7_method_13_code 5 = .ok (.iconst 1, 1) := by decide +kernel
theorem d_T_withoutFirst_6 : decode prog_7_method_13_code 6 = .ok (.if_icmp .ge 5, 3) := by decide +kernel
theorem d_T_withoutFirst_11 : decode prog_7_method_13_code 11 = .ok (.aload_n 0, 1) := by decide +kernel
theorem d_T_withoutFirst_12 : decode prog_7_method_13_code 12 = .ok (.getfield 35, 3) := by decide +kernel
theorem d_T_withoutFirst_15 : decode prog_7_method_13_code 15 = .ok (.ifnonnull 8, 3) := by decide +kernel
theorem d_T_withoutFirst_18 : decode prog_7_method_13_code 18 = .ok (.aload_n 0, 1) := by decide +kernel
theorem d_T_withoutFirst_19 : decode prog_7_method_13_code 19 = .ok (.getfield 18, 3) := by decide +kernel
theorem d_T_withoutFirst_22 : decode prog_7_method_13_code 22 = .ok (.areturn, 1) := by decide +kernel
theorem d_T_withoutFirst_23 : decode prog_7_method_13_code 23 = .ok (.aload_n 0, 1) := by decide +kernel
theorem d_T_withoutFirst_24 : decode prog_7_method_13_code 24 = .ok (.aload_n 0, 1) := by decide +kernel
theorem d_T_withoutFirst_25 : decode prog_7_method_13_code 25 = .ok (.getfield 35, 3) := by decide +kernel
theorem d_T_withoutFirst_28 : decode prog_7_method_13_code 28 = .ok (.iload_n 1, 1) := by decide +kernel
theorem d_T_withoutFirst_29 : decode prog_7_method_13_code 29 = .ok (.iconst 1, 1) := by decide +kernel
theorem d_T_withoutFirst_30 : decode prog_7_method_13_code 30 = .ok (.isub, 1) := by decide +kernel
theorem d_T_withoutFirst_31 : decode prog_7_method_13_code 31 = .ok (.invokestatic 75, 3) := by decide +kernel
theorem d_T_withoutFirst_34 : decode prog_7_method_13_code 34 = .ok (.putfield 35, 3) := by decide +kernel
theorem d_T_withoutFirst_37 : decode prog_7_method_13_code 37 = .ok (.aload_n 0, 1) := by decide +kernel
theorem d_T_withoutFirst_38 : decode prog_7_method_13_code 38 = .ok (.invokestatic 111, 3) := by decide +kernel
theorem d_T_withoutFirst_41 : decode prog_7_method_13_code 41 = .ok (.areturn, 1) := by decide +kernel
theorem d_T_withoutFirst_9 : decode prog_7_method_13_code 9 = .ok (.aload_n 0, 1) := by decide +kernel
theorem d_T_withoutFirst_10 : decode prog_7_method_13_code 10 = .ok (.areturn, 1) := by decide +kernel
theorem d_T_withoutLast_0 : decode prog_7_method_14_code 0 = .ok (.aload_n 0, 1) := by decide +kernel
theorem d_T_withoutLast_1 : decode prog_7_method_14_code 1 = .ok (.ifnull 8, 3) := by decide +kernel
theorem d_T_withoutLast_4 : decode prog_7_method_14_code 4 = .ok (.iload_n 1, 1) := by decide +kernel
theorem d_T_withoutLast_5 : decode prog_7_method_14_code 5 = .ok (.iconst 1, 1) := by decide +kernel
theorem d_T_withoutLast_6 : decode prog_7_method_14_code 6 = .ok (.if_icmp .ge 5, 3) := by decide +kernel
theorem d_T_withoutLast_11 : decode prog_7_method_14_code 11 = .ok (.aload_n 0, 1) := by decide +kernel
theorem d_T_withoutLast_12 : decode prog_7_method_14_code 12 = .ok (.getfield 18, 3) := by decide +kernel
theorem d_T_withoutLast_15 : decode prog_7_method_14_code 15 = .ok (.ifnonnull 8, 3) := by decide +kernel
theorem d_T_withoutLast_18 : decode prog_7_method_14_code 18 = .ok (.aload_n 0, 1) := by decide +kernel
theorem d_T_withoutLast_19 : decode prog_7_method_14_code 19 = .ok (.getfield 35, 3) := by decide +kernel
theorem d_T_withoutLast_22 : decode prog_7_method_14_code 22 = .ok (.areturn, 1) := by decide +kernel
theorem d_T_withoutLast_23 : decode prog_7_method_14_code 23 = .ok (.aload_n 0, 1) := by decide +kernel
theorem d_T_withoutLast_24 : decode prog_7_method_14_code 24 = .ok (.aload_n 0, 1) := by decide +kernel
theorem d_T_withoutLast_25 : decode prog_7_method_14_code 25 = .ok (.getfield 18, 3) := by decide +kernel
theorem d_T_withoutLast_28 : decode prog_7_method_14_code 28 = .ok (.iload_n 1, 1) := by decide +kernel
theorem d_T_withoutLast_29 : decode prog_7_method_14_code 29 = .ok (.iconst 1, 1) := by decide +kernel
theorem d_T_withoutLast_30 : decode prog_7_method_14_code 30 = .ok (.isub, 1) := by decide +kernel
theorem d_T_withoutLast_31 : decode prog_7_method_14_code 31 = .ok (.invokestatic 79, 3) := by decide +kernel
theorem d_T_withoutLast_34 : decode prog_7_method_14_code 34 = .ok (.putfield 18, 3) := by decide +kernel
theorem d_T_withoutLast_37 : decode prog_7_method_14_code 37 = .ok (.aload_n 0, 1) := by decide +kernel
theorem d_T_withoutLast_38 : decode prog_7_method_14_code 38 = .ok (.invokestatic 111, 3) := by decide +kernel
theorem d_T_withoutLast_41 : decode prog_7_method_14_code 41 = .ok (.areturn, 1) := by decide +kernel
theorem d_T_withoutLast_9 : decode prog_7_method_14_code 9 = .ok (.aload_n 0, 1) := by decide +kernel
theorem d_T_withoutLast_10 : decode prog_7_method_14_code 10 = .ok (.areturn, 1) := by decide +kernel
theorem d_T_meet_0 : decode prog_7_method_7_code 0 = .ok (.aload_n 1, 1) := by decide +kernel
theorem d_T_meet_1 : decode prog_7_method_7_code 1 = .ok (.invokestatic 69, 3) := by decide +kernel
theorem d_T_meet_4 : decode prog_7_method_7_code 4 = .ok (.astore_n 3, 1) := by decide +kernel
theorem d_T_meet_5 : decode prog_7_method_7_code 5 = .ok (.aload_n 2, 1) := by decide +kernel
theorem d_T_meet_6 : decode prog_7_method_7_code 6 = .ok (.invokestatic 72, 3) := by decide +kernel
theorem d_T_meet_9 : decode prog_7_method_7_code 9 = .ok (.astore 4, 2) := by decide +kernel
theorem d_T_meet_11 : decode prog_7_method_7_code 11 = .ok (.aload_n 3, 1) := by decide +kernel
theorem d_T_meet_12 : decode prog_7_method_7_code 12 = .ok (.ifnonnull 5, 3) := by decide +kernel
theorem d_T_meet_15 : decode prog_7_method_7_code 15 = .ok (.aload_n 2, 1) := by decide +kernel
theorem d_T_meet_16 : decode prog_7_method_7_code 16 = .ok (.areturn, 1) := by decide +kernel
theorem d_T_meet_17 : decode prog_7_method_7_code 17 = .ok (.aload 4, 2) := by decide +kernel
theorem d_T_meet_19 : decode prog_7_method_7_code 19 = .ok (.ifnonnull 5, 3) := by decide +kernel
theorem d_T_meet_22 : decode prog_7_method_7_code 22 = .ok (.aload_n 1, 1) := by decide +kernel
theorem d_T_meet_23 : decode prog_7_method_7_code 23 = .ok (.areturn, 1) := by decide +kernel
theorem d_T_meet_24 : decode prog_7_method_7_code 24 = .ok (.aload_n 2, 1) := by decide +kernel
theorem d_T_meet_25 : decode prog_7_method_7_code 25 = .ok (.astore 5, 2) := by decide +kernel
theorem d_T_meet_27 : decode prog_7_method_7_code 27 = .ok (.aload_n 3, 1) := by decide +kernel
theorem d_T_meet_28 : decode prog_7_method_7_code 28 = .ok (.getfield 21, 3) := by decide +kernel
theorem d_T_meet_31 : decode prog_7_method_7_code 31 = .ok (.aload_n 3, 1) := by decide +kernel
theorem d_T_meet_32 : decode prog_7_method_7_code 32 = .ok (.getfield 25, 3) := by decide +kernel
theorem d_T_meet_35 : decode prog_7_method_7_code 35 = .ok (.iadd, 1) := by decide +kernel
theorem d_T_meet_36 : decode prog_7_method_7_code 36 = .ok (.aload 4, 2) := by decide +kernel
theorem d_T_meet_38 : decode prog_7_method_7_code 38 = .ok (.getfield 21, 3) := by decide +kernel
theorem d_T_meet_41 : decode prog_7_method_7_code 41 = .ok (.if_icmp .ne 43, 3) := by decide +kernel
theorem d_T_meet_44 : decode prog_7_method_7_code 44 = .ok (.aload_n 3, 1) := by decide +kernel
theorem d_T_meet_45 : decode prog_7_method_7_code 45 = .ok (.getfield 28, 3) := by decide +kernel
theorem d_T_meet_48 : decode prog_7_method_7_code 48 = .ok (.aload 4, 2) := by decide +kernel
theorem d_T_meet_50 : decode prog_7_method_7_code 50 = .ok (.getfield 28, 3) := by decide +kernel
theorem d_T_meet_53 : decode prog_7_method_7_code 53 = .ok (.if_icmp .ne 31, 3) := by decide +kernel
theorem d_T_meet_56 : decode prog_7_method_7_code 56 = .ok (.aload_n 2, 1) := by decide +kernel
theorem d_T_meet_57 : decode prog_7_method_7_code 57 = .ok (.bipush 40, 2) := by decide +kernel
theorem d_T_meet_59 : decode prog_7_method_7_code 59 = .ok (.invokestatic 75, 3) := by decide +kernel
theorem d_T_meet_62 : decode prog_7_method_7_code 62 = .ok (.astore 5, 2) := by decide +kernel
theorem d_T_meet_64 : decode prog_7_method_7_code 64 = .ok (.aload_n 3, 1) := by decide +kernel
theorem d_T_meet_65 : decode prog_7_method_7_code 65 = .ok (.dup, 1) := by decide +kernel
theorem d_T_meet_66 : decode prog_7_method_7_code 66 = .ok (.getfield 25, 3) := by decide +kernel
theorem d_T_meet_69 : decode prog_7_method_7_code 69 = .ok (.aload 4, 2) := by decide +kernel
theorem d_T_meet_71 : decode prog_7_method_7_code 71 = .ok (.getfield 25, 3) := by decide +kernel
theorem d_T_meet_74 : decode prog_7_method_7_code 74 = .ok (.iadd, 1) := by decide +kernel
theorem d_T_meet_75 : decode prog_7_method_7_code 75 = .ok (.putfield 25, 3) := by decide +kernel
theorem d_T_meet_78 : decode prog_7_method_7_code 78 = .ok (.aload_n 0, 1) := by decide +kernel
theorem d_T_meet_79 : decode prog_7_method_7_code 79 = .ok (.aload 4, 2) := by decide +kernel
theorem d_T_meet_81 : decode prog_7_method_7_code 81 = .ok (.invokevirtual 42, 3) := by decide +kernel
theorem d_T_meet_84 : decode prog_7_method_7_code 84 = .ok (.aload_n 1, 1) := by decide +kernel
theorem d_T_meet_85 : decode prog_7_method_7_code 85 = .ok (.bipush 40, 2) := by decide +kernel
theorem d_T_meet_87 : decode prog_7_method_7_code 87 = .ok (.invokestatic 79, 3) := by decide +kernel
theorem d_T_meet_90 : decode prog_7_method_7_code 90 = .ok (.aload_n 3, 1) := by decide +kernel
theorem d_T_meet_91 : decode prog_7_method_7_code 91 = .ok (.aload 5, 2) := by decide +kernel
theorem d_T_meet_93 : decode prog_7_method_7_code 93 = .ok (.bipush 40, 2) := by decide +kernel
theorem d_T_meet_95 : decode prog_7_method_7_code 95 = .ok (.invokestatic 61, 3) := by decide +kernel
theorem d_T_meet_98 : decode prog_7_method_7_code 98 = .ok (.areturn, 1) := by decide +kernel
theorem d_H_init_0 : decode prog_2_method_1_code 0 = .ok (.aload_n 0, 1) := by decide +kernel
theorem d_H_init_1 : decode prog_2_method_1_code 1 = .ok (.invokespecial 1, 3) := by decide +kernel
theorem d_H_init_4 : decode prog_2_method_1_code 4 = .ok (.return_, 1) := by decide +kernel
theorem d_N_init_0 : decode prog_3_method_1_code 0 = .ok (.aload_n 0, 1) := by decide +kernel
theorem d_N_init_1 : decode prog_3_method_1_code 1 = .ok (.invokespecial 1, 3) := by decide +kernel
theorem d_N_init_4 : decode prog_3_method_1_code 4 = .ok (.return_, 1) := by decide +kernel
theorem d_T_alone_0 : decode prog_7_method_10_code 0 = .ok (.aload_n 0, 1) := by decide +kernel
theorem d_T_alone_1 : decode prog_7_method_10_code 1 = .ok (.aconst_null, 1) := by decide +kernel
theorem d_T_alone_2 : decode prog_7_method_10_code 2 = .ok (.putfield 35, 3) := by decide +kernel
theorem d_T_alone_5 : decode prog_7_method_10_code 5 = .ok (.aload_n 0, 1) := by decide +kernel
theorem d_T_alone_6 : decode prog_7_method_10_code 6 = .ok (.aconst_null, 1) := by decide +kernel
theorem d_T_alone_7 : decode prog_7_method_10_code 7 = .ok (.putfield 18, 3) := by decide +kernel
theorem d_T_alone_10 : decode prog_7_method_10_code 10 = .ok (.aload_n 0, 1) := by decide +kernel
theorem d_T_alone_11 : decode prog_7_method_10_code 11 = .ok (.invokestatic 108, 3) := by decide +kernel
theorem d_T_alone_14 : decode prog_7_method_10_code 14 = .ok (.aload_n 0, 1) := by decide +kernel
theorem d_T_alone_15 : decode prog_7_method_10_code 15 = .ok (.areturn, 1) := by decide +kernel
theorem d_T_take_0 : decode prog_7_method_2_code 0 = .ok (.aload_n 0, 1) := by decide +kernel
theorem d_T_take_1 : decode prog_7_method_2_code 1 = .ok (.getfield 9, 3) := by decide +kernel
theorem d_T_take_4 : decode prog_7_method_2_code 4 = .ok (.astore 4, 2) := by decide +kernel
theorem d_T_take_6 : decode prog_7_method_2_code 6 = .ok (.aload 4, 2) := by decide +kernel
theorem d_T_take_8 : decode prog_7_method_2_code 8 = .ok (.ifnonnull 15, 3) := by decide +kernel
theorem d_T_take_11 : decode prog_7_method_2_code 11 = .ok (.new 15, 3) := by decide +kernel
theorem d_T_take_14 : decode prog_7_method_2_code 14 = .ok (.dup, 1) := by decide +kernel
theorem d_T_take_15 : decode prog_7_method_2_code 15 = .ok (.invokespecial 17, 3) := by decide +kernel
theorem d_T_take_18 : decode prog_7_method_2_code 18 = .ok (.astore 4, 2) := by decide +kernel
theorem d_T_take_20 : decode prog_7_method_2_code 20 = .ok (.goto 12, 3) := by decide +kernel
theorem d_T_take_23 : decode prog_7_method_2_code 23 = .ok (.aload_n 0, 1) := by decide +kernel
theorem d_T_take_24 : decode prog_7_method_2_code 24 = .ok (.aload 4, 2) := by decide +kernel
theorem d_T_take_26 : decode prog_7_method_2_code 26 = .ok (.getfield 18, 3) := by decide +kernel
theorem d_T_take_29 : decode prog_7_method_2_code 29 = .ok (.putfield 9, 3) := by decide +kernel
theorem d_T_take_32 : decode prog_7_method_2_code 32 = .ok (.aload 4, 2) := by decide +kernel
theorem d_T_take_34 : decode prog_7_method_2_code 34 = .ok (.iload_n 1, 1) := by decide +kernel
theorem d_T_take_35 : decode prog_7_method_2_code 35 = .ok (.putfield 21, 3) := by decide +kernel
theorem d_T_take_38 : decode prog_7_method_2_code 38 = .ok (.aload 4, 2) := by decide +kernel
theorem d_T_take_40 : decode prog_7_method_2_code 40 = .ok (.iload_n 2, 1) := by decide +kernel
theorem d_T_take_41 : decode prog_7_method_2_code 41 = .ok (.putfield 25, 3) := by decide +kernel
theorem d_T_take_44 : decode prog_7_method_2_code 44 = .ok (.aload 4, 2) := by decide +kernel
theorem d_T_take_46 : decode prog_7_method_2_code 46 = .ok (.iload_n 3, 1) := by decide +kernel
theorem d_T_take_47 : decode prog_7_method_2_code 47 = .ok (.putfield 28, 3) := by decide +kernel
theorem d_T_take_50 : decode prog_7_method_2_code 50 = .ok (.aload 4, 2) := by decide +kernel
theorem d_T_take_52 : decode prog_7_method_2_code 52 = .ok (.invokestatic 31, 3) := by decide +kernel
theorem d_T_take_55 : decode prog_7_method_2_code 55 = .ok (.areturn, 1) := by decide +kernel
theorem d_T_partInto_0 : decode prog_7_method_6_code 0 = .ok (.aload_n 2, 1) := by decide +kernel
theorem d_T_partInto_1 : decode prog_7_method_6_code 1 = .ok (.ifnull 9, 3) := by decide +kernel
theorem d_T_partInto_4 : decode prog_7_method_6_code 4 = .ok (.iload 4, 2) := by decide +kernel
theorem d_T_partInto_6 : decode prog_7_method_6_code 6 = .ok (.iconst 1, 1) := by decide +kernel
theorem d_T_partInto_7 : decode prog_7_method_6_code 7 = .ok (.if_icmp .ge 14, 3) := by decide +kernel
theorem d_T_partInto_21 : decode prog_7_method_6_code 21 = .ok (.aload_n 2, 1) := by decide +kernel
theorem d_T_partInto_22 : decode prog_7_method_6_code 22 = .ok (.getfield 35, 3) := by decide +kernel
theorem d_T_partInto_25 : decode prog_7_method_6_code 25 = .ok (.astore 5, 2) := by decide +kernel
theorem d_T_partInto_27 : decode prog_7_method_6_code 27 = .ok (.aload_n 2, 1) := by decide +kernel
theorem d_T_partInto_28 : decode prog_7_method_6_code 28 = .ok (.getfield 18, 3) := by decide +kernel
theorem d_T_partInto_31 : decode prog_7_method_6_code 31 = .ok (.astore 6, 2) := by decide +kernel
theorem d_T_partInto_33 : decode prog_7_method_6_code 33 = .ok (.iload_n 3, 1) := by decide +kernel
theorem d_T_partInto_34 : decode prog_7_method_6_code 34 = .ok (.aload 5, 2) := by decide +kernel
theorem d_T_partInto_36 : decode prog_7_method_6_code 36 = .ok (.invokestatic 55, 3) := by decide +kernel
theorem d_T_partInto_39 : decode prog_7_method_6_code 39 = .ok (.isub, 1) := by decide +kernel
theorem d_T_partInto_40 : decode prog_7_method_6_code 40 = .ok (.istore 7, 2) := by decide +kernel
theorem d_T_partInto_42 : decode prog_7_method_6_code 42 = .ok (.iload 7, 2) := by decide +kernel
theorem d_T_partInto_44 : decode prog_7_method_6_code 44 = .ok (.ifCond .gt 34, 3) := by decide +kernel
theorem d_T_partInto_78 : decode prog_7_method_6_code 78 = .ok (.iload 7, 2) := by decide +kernel
theorem d_T_partInto_80 : decode prog_7_method_6_code 80 = .ok (.aload_n 2, 1) := by decide +kernel
theorem d_T_partInto_81 : decode prog_7_method_6_code 81 = .ok (.getfield 25, 3) := by decide +kernel
theorem d_T_partInto_84 : decode prog_7_method_6_code 84 = .ok (.if_icmp .lt 40, 3) := by decide +kernel
theorem d_T_partInto_124 : decode prog_7_method_6_code 124 = .ok (.aload_n 0, 1) := by decide +kernel
theorem d_T_partInto_125 : decode prog_7_method_6_code 125 = .ok (.aload_n 2, 1) := by decide +kernel
theorem d_T_partInto_126 : decode prog_7_method_6_code 126 = .ok (.getfield 21, 3) := by decide +kernel
theorem d_T_partInto_129 : decode prog_7_method_6_code 129 = .ok (.iload 7, 2) := by decide +kernel
theorem d_T_partInto_131 : decode prog_7_method_6_code 131 = .ok (.iadd, 1) := by decide +kernel
theorem d_T_partInto_132 : decode prog_7_method_6_code 132 = .ok (.aload_n 2, 1) := by decide +kernel
theorem d_T_partInto_133 : decode prog_7_method_6_code 133 = .ok (.getfield 25, 3) := by decide +kernel
theorem d_T_partInto_136 : decode prog_7_method_6_code 136 = .ok (.iload 7, 2) := by decide +kernel
theorem d_T_partInto_138 : decode prog_7_method_6_code 138 = .ok (.isub, 1) := by decide +kernel
theorem d_T_partInto_139 : decode prog_7_method_6_code 139 = .ok (.aload_n 2, 1) := by decide +kernel
theorem d_T_partInto_140 : decode prog_7_method_6_code 140 = .ok (.getfield 28, 3) := by decide +kernel
theorem d_T_partInto_143 : decode prog_7_method_6_code 143 = .ok (.invokevirtual 65, 3) := by decide +kernel
theorem d_T_partInto_146 : decode prog_7_method_6_code 146 = .ok (.astore 8, 2) := by decide +kernel
theorem d_T_partInto_148 : decode prog_7_method_6_code 148 = .ok (.aload_n 2, 1) := by decide +kernel
theorem d_T_partInto_149 : decode prog_7_method_6_code 149 = .ok (.iload 7, 2) := by decide +kernel
theorem d_T_partInto_151 : decode prog_7_method_6_code 151 = .ok (.putfield 25, 3) := by decide +kernel
theorem d_T_partInto_154 : decode prog_7_method_6_code 154 = .ok (.aload_n 1, 1) := by decide +kernel
theorem d_T_partInto_155 : decode prog_7_method_6_code 155 = .ok (.aload 5, 2) := by decide +kernel
theorem d_T_partInto_157 : decode prog_7_method_6_code 157 = .ok (.aload_n 2, 1) := by decide +kernel
theorem d_T_partInto_158 : decode prog_7_method_6_code 158 = .ok (.aconst_null, 1) := by decide +kernel
theorem d_T_partInto_159 : decode prog_7_method_6_code 159 = .ok (.bipush 40, 2) := by decide +kernel
theorem d_T_partInto_161 : decode prog_7_method_6_code 161 = .ok (.invokestatic 61, 3) := by decide +kernel
theorem d_T_partInto_164 : decode prog_7_method_6_code 164 = .ok (.putfield 53, 3) := by decide +kernel
theorem d_T_partInto_167 : decode prog_7_method_6_code 167 = .ok (.aload_n 1, 1) := by decide +kernel
theorem d_T_partInto_168 : decode prog_7_method_6_code 168 = .ok (.aconst_null, 1) := by decide +kernel
theorem d_T_partInto_169 : decode prog_7_method_6_code 169 = .ok (.aload 8, 2) := by decide +kernel
theorem d_T_partInto_171 : decode prog_7_method_6_code 171 = .ok (.aload 6, 2) := by decide +kernel
theorem d_T_partInto_173 : decode prog_7_method_6_code 173 = .ok (.bipush 40, 2) := by decide +kernel
theorem d_T_partInto_175 : decode prog_7_method_6_code 175 = .ok (.invokestatic 61, 3) := by decide +kernel
theorem d_T_partInto_178 : decode prog_7_method_6_code 178 = .ok (.putfield 54, 3) := by decide +kernel
theorem d_T_partInto_87 : decode prog_7_method_6_code 87 = .ok (.aload_n 0, 1) := by decide +kernel
theorem d_T_partInto_88 : decode prog_7_method_6_code 88 = .ok (.aload_n 1, 1) := by decide +kernel
theorem d_T_partInto_89 : decode prog_7_method_6_code 89 = .ok (.aload 6, 2) := by decide +kernel
theorem d_T_partInto_91 : decode prog_7_method_6_code 91 = .ok (.iload 7, 2) := by decide +kernel
theorem d_T_partInto_93 : decode prog_7_method_6_code 93 = .ok (.aload_n 2, 1) := by decide +kernel
theorem d_T_partInto_94 : decode prog_7_method_6_code 94 = .ok (.getfield 25, 3) := by decide +kernel
theorem d_T_partInto_97 : decode prog_7_method_6_code 97 = .ok (.isub, 1) := by decide +kernel
theorem d_T_partInto_98 : decode prog_7_method_6_code 98 = .ok (.iload 4, 2) := by decide +kernel
theorem d_T_partInto_100 : decode prog_7_method_6_code 100 = .ok (.iconst 1, 1) := by decide +kernel
theorem d_T_partInto_101 : decode prog_7_method_6_code 101 = .ok (.isub, 1) := by decide +kernel
theorem d_T_partInto_102 : decode prog_7_method_6_code 102 = .ok (.invokevirtual 49, 3) := by decide +kernel
theorem d_T_partInto_105 : decode prog_7_method_6_code 105 = .ok (.aload_n 1, 1) := by decide +kernel
theorem d_T_partInto_106 : decode prog_7_method_6_code 106 = .ok (.aload 5, 2) := by decide +kernel
theorem d_T_partInto_108 : decode prog_7_method_6_code 108 = .ok (.aload_n 2, 1) := by decide +kernel
theorem d_T_partInto_109 : decode prog_7_method_6_code 109 = .ok (.aload_n 1, 1) := by decide +kernel
theorem d_T_partInto_110 : decode prog_7_method_6_code 110 = .ok (.getfield 53, 3) := by decide +kernel
theorem d_T_partInto_113 : decode prog_7_method_6_code 113 = .ok (.bipush 40, 2) := by decide +kernel
theorem d_T_partInto_115 : decode prog_7_method_6_code 115 = .ok (.invokestatic 61, 3) := by decide +kernel
theorem d_T_partInto_118 : decode prog_7_method_6_code 118 = .ok (.putfield 53, 3) := by decide +kernel
theorem d_T_partInto_121 : decode prog_7_method_6_code 121 = .ok (.goto 60, 3) := by decide +kernel
theorem d_T_partInto_47 : decode prog_7_method_6_code 47 = .ok (.aload_n 0, 1) := by decide +kernel
theorem d_T_partInto_48 : decode prog_7_method_6_code 48 = .ok (.aload_n 1, 1) := by decide +kernel
theorem d_T_partInto_49 : decode prog_7_method_6_code 49 = .ok (.aload 5, 2) := by decide +kernel
theorem d_T_partInto_51 : decode prog_7_method_6_code 51 = .ok (.iload_n 3, 1) := by decide +kernel
theorem d_T_partInto_52 : decode prog_7_method_6_code 52 = .ok (.iload 4, 2) := by decide +kernel
theorem d_T_partInto_54 : decode prog_7_method_6_code 54 = .ok (.iconst 1, 1) := by decide +kernel
theorem d_T_partInto_55 : decode prog_7_method_6_code 55 = .ok (.isub, 1) := by decide +kernel
theorem d_T_partInto_56 : decode prog_7_method_6_code 56 = .ok (.invokevirtual 49, 3) := by decide +kernel
theorem d_T_partInto_59 : decode prog_7_method_6_code 59 = .ok (.aload_n 1, 1) := by decide +kernel
theorem d_T_partInto_60 : decode prog_7_method_6_code 60 = .ok (.aload_n 1, 1) := by decide +kernel
theorem d_T_partInto_61 : decode prog_7_method_6_code 61 = .ok (.getfield 54, 3) := by decide +kernel
theorem d_T_partInto_64 : decode prog_7_method_6_code 64 = .ok (.aload_n 2, 1) := by decide +kernel
theorem d_T_partInto_65 : decode prog_7_method_6_code 65 = .ok (.aload 6, 2) := by decide +kernel
theorem d_T_partInto_67 : decode prog_7_method_6_code 67 = .ok (.bipush 40, 2) := by decide +kernel
theorem d_T_partInto_69 : decode prog_7_method_6_code 69 = .ok (.invokestatic 61, 3) := by decide +kernel
theorem d_T_partInto_72 : decode prog_7_method_6_code 72 = .ok (.putfield 54, 3) := by decide +kernel
theorem d_T_partInto_75 : decode prog_7_method_6_code 75 = .ok (.goto 106, 3) := by decide +kernel
theorem d_T_partInto_10 : decode prog_7_method_6_code 10 = .ok (.aload_n 1, 1) := by decide +kernel
theorem d_T_partInto_11 : decode prog_7_method_6_code 11 = .ok (.aconst_null, 1) := by decide +kernel
theorem d_T_partInto_12 : decode prog_7_method_6_code 12 = .ok (.putfield 53, 3) := by decide +kernel
theorem d_T_partInto_15 : decode prog_7_method_6_code 15 = .ok (.aload_n 1, 1) := by decide +kernel
theorem d_T_partInto_16 : decode prog_7_method_6_code 16 = .ok (.aload_n 2, 1) := by decide +kernel
theorem d_T_partInto_17 : decode prog_7_method_6_code 17 = .ok (.putfield 54, 3) := by decide +kernel
theorem d_T_partInto_20 : decode prog_7_method_6_code 20 = .ok (.return_, 1) := by decide +kernel
theorem d_T_partInto_181 : decode prog_7_method_6_code 181 = .ok (.return_, 1) := by decide +kernel
theorem d_T_part_0 : decode prog_7_method_5_code 0 = .ok (.new 46, 3) := by decide +kernel
theorem d_T_part_3 : decode prog_7_method_5_code 3 = .ok (.dup, 1) := by decide +kernel
theorem d_T_part_4 : decode prog_7_method_5_code 4 = .ok (.invokespecial 48, 3) := by decide +kernel
theorem d_T_part_7 : decode prog_7_method_5_code 7 = .ok (.astore_n 3, 1) := by decide +kernel
theorem d_T_part_8 : decode prog_7_method_5_code 8 = .ok (.aload_n 0, 1) := by decide +kernel
theorem d_T_part_9 : decode prog_7_method_5_code 9 = .ok (.aload_n 3, 1) := by decide +kernel
theorem d_T_part_10 : decode prog_7_method_5_code 10 = .ok (.aload_n 1, 1) := by decide +kernel
theorem d_T_part_11 : decode prog_7_method_5_code 11 = .ok (.iload_n 2, 1) := by decide +kernel
theorem d_T_part_12 : decode prog_7_method_5_code 12 = .ok (.bipush 40, 2) := by decide +kernel
theorem d_T_part_14 : decode prog_7_method_5_code 14 = .ok (.invokevirtual 49, 3) := by decide +kernel
theorem d_T_part_17 : decode prog_7_method_5_code 17 = .ok (.aload_n 3, 1) := by decide +kernel
theorem d_T_part_18 : decode prog_7_method_5_code 18 = .ok (.areturn, 1) := by decide +kernel
theorem d_P_put_0 : decode prog_1_method_3_code 0 = .ok (.aload_n 0, 1) := by decide +kernel
theorem d_P_put_1 : decode prog_1_method_3_code 1 = .ok (.iload_n 1, 1) := by decide +kernel
theorem d_P_put_2 : decode prog_1_method_3_code 2 = .ok (.iload_n 2, 1) := by decide +kernel
theorem d_P_put_3 : decode prog_1_method_3_code 3 = .ok (.invokevirtual 50, 3) := by decide +kernel
theorem d_P_put_6 : decode prog_1_method_3_code 6 = .ok (.iload 4, 2) := by decide +kernel
theorem d_P_put_8 : decode prog_1_method_3_code 8 = .ok (.iconst 1, 1) := by decide +kernel
theorem d_P_put_9 : decode prog_1_method_3_code 9 = .ok (.if_icmp .lt 18, 3) := by decide +kernel
theorem d_P_put_12 : decode prog_1_method_3_code 12 = .ok (.iload_n 3, 1) := by decide +kernel
theorem d_P_put_13 : decode prog_1_method_3_code 13 = .ok (.ifCond .lt 14, 3) := by decide +kernel
theorem d_P_put_16 : decode prog_1_method_3_code 16 = .ok (.iload_n 3, 1) := by decide +kernel
theorem d_P_put_17 : decode prog_1_method_3_code 17 = .ok (.aload_n 0, 1) := by decide +kernel
theorem d_P_put_18 : decode prog_1_method_3_code 18 = .ok (.getfield 37, 3) := by decide +kernel
theorem d_P_put_21 : decode prog_1_method_3_code 21 = .ok (.iload 4, 2) := by decide +kernel
theorem d_P_put_23 : decode prog_1_method_3_code 23 = .ok (.isub, 1) := by decide +kernel
theorem d_P_put_24 : decode prog_1_method_3_code 24 = .ok (.if_icmp .le 13, 3) := by decide +kernel
theorem d_P_put_37 : decode prog_1_method_3_code 37 = .ok (.aload_n 0, 1) := by decide +kernel
theorem d_P_put_38 : decode prog_1_method_3_code 38 = .ok (.iload_n 1, 1) := by decide +kernel
theorem d_P_put_39 : decode prog_1_method_3_code 39 = .ok (.invokevirtual 59, 3) := by decide +kernel
theorem d_P_put_42 : decode prog_1_method_3_code 42 = .ok (.astore 6, 2) := by decide +kernel
theorem d_P_put_44 : decode prog_1_method_3_code 44 = .ok (.aload_n 0, 1) := by decide +kernel
theorem d_P_put_45 : decode prog_1_method_3_code 45 = .ok (.iload 4, 2) := by decide +kernel
theorem d_P_put_47 : decode prog_1_method_3_code 47 = .ok (.aload 6, 2) := by decide +kernel
theorem d_P_put_49 : decode prog_1_method_3_code 49 = .ok (.iload_n 2, 1) := by decide +kernel
theorem d_P_put_50 : decode prog_1_method_3_code 50 = .ok (.iload_n 3, 1) := by decide +kernel
theorem d_P_put_51 : decode prog_1_method_3_code 51 = .ok (.iload 4, 2) := by decide +kernel
theorem d_P_put_53 : decode prog_1_method_3_code 53 = .ok (.iload 5, 2) := by decide +kernel
theorem d_P_put_55 : decode prog_1_method_3_code 55 = .ok (.invokestatic 63, 3) := by decide +kernel
theorem d_P_put_58 : decode prog_1_method_3_code 58 = .ok (.aload 6, 2) := by decide +kernel
theorem d_P_put_60 : decode prog_1_method_3_code 60 = .ok (.invokestatic 69, 3) := by decide +kernel
theorem d_P_put_63 : decode prog_1_method_3_code 63 = .ok (.isub, 1) := by decide +kernel
theorem d_P_put_64 : decode prog_1_method_3_code 64 = .ok (.invokevirtual 75, 3) := by decide +kernel
theorem d_P_put_67 : decode prog_1_method_3_code 67 = .ok (.aload_n 0, 1) := by decide +kernel
theorem d_P_put_68 : decode prog_1_method_3_code 68 = .ok (.getfield 22, 3) := by decide +kernel
theorem d_P_put_71 : decode prog_1_method_3_code 71 = .ok (.aload 6, 2) := by decide +kernel
theorem d_P_put_73 : decode prog_1_method_3_code 73 = .ok (.iload_n 2, 1) := by decide +kernel
theorem d_P_put_74 : decode prog_1_method_3_code 74 = .ok (.invokevirtual 78, 3) := by decide +kernel
theorem d_P_put_77 : decode prog_1_method_3_code 77 = .ok (.astore 7, 2) := by decide +kernel
theorem d_P_put_79 : decode prog_1_method_3_code 79 = .ok (.aload_n 0, 1) := by decide +kernel
theorem d_P_put_80 : decode prog_1_method_3_code 80 = .ok (.getfield 22, 3) := by decide +kernel
theorem d_P_put_83 : decode prog_1_method_3_code 83 = .ok (.iload_n 3, 1) := by decide +kernel
theorem d_P_put_84 : decode prog_1_method_3_code 84 = .ok (.iload 4, 2) := by decide +kernel
theorem d_P_put_86 : decode prog_1_method_3_code 86 = .ok (.iload 5, 2) := by decide +kernel
theorem d_P_put_88 : decode prog_1_method_3_code 88 = .ok (.invokevirtual 82, 3) := by decide +kernel
theorem d_P_put_91 : decode prog_1_method_3_code 91 = .ok (.astore 8, 2) := by decide +kernel
theorem d_P_put_93 : decode prog_1_method_3_code 93 = .ok (.aload_n 0, 1) := by decide +kernel
theorem d_P_put_94 : decode prog_1_method_3_code 94 = .ok (.iload_n 1, 1) := by decide +kernel
theorem d_P_put_95 : decode prog_1_method_3_code 95 = .ok (.aload_n 0, 1) := by decide +kernel
theorem d_P_put_96 : decode prog_1_method_3_code 96 = .ok (.getfield 22, 3) := by decide +kernel
theorem d_P_put_99 : decode prog_1_method_3_code 99 = .ok (.aload_n 0, 1) := by decide +kernel
theorem d_P_put_100 : decode prog_1_method_3_code 100 = .ok (.getfield 22, 3) := by decide +kernel
theorem d_P_put_103 : decode prog_1_method_3_code 103 = .ok (.aload 7, 2) := by decide +kernel
theorem d_P_put_105 : decode prog_1_method_3_code 105 = .ok (.getfield 86, 3) := by decide +kernel
theorem d_P_put_108 : decode prog_1_method_3_code 108 = .ok (.aload 8, 2) := by decide +kernel
theorem d_P_put_110 : decode prog_1_method_3_code 110 = .ok (.invokevirtual 92, 3) := by decide +kernel
theorem d_P_put_113 : decode prog_1_method_3_code 113 = .ok (.aload 7, 2) := by decide +kernel
theorem d_P_put_115 : decode prog_1_method_3_code 115 = .ok (.getfield 96, 3) := by decide +kernel
theorem d_P_put_118 : decode prog_1_method_3_code 118 = .ok (.invokevirtual 92, 3) := by decide +kernel
theorem d_P_put_121 : decode prog_1_method_3_code 121 = .ok (.invokevirtual 99, 3) := by decide +kernel
theorem d_P_put_124 : decode prog_1_method_3_code 124 = .ok (.ireturn, 1) := by decide +kernel
theorem d_P_put_27 : decode prog_1_method_3_code 27 = .ok (.new 54, 3) := by decide +kernel
theorem d_P_put_30 : decode prog_1_method_3_code 30 = .ok (.dup, 1) := by decide +kernel
theorem d_P_put_31 : decode prog_1_method_3_code 31 = .ok (.ldc 56, 2) := by decide +kernel
theorem d_P_put_33 : decode prog_1_method_3_code 33 = .ok (.invokespecial 58, 3) := by decide +kernel
theorem d_P_put_36 : decode prog_1_method_3_code 36 = .ok (.athrow, 1) := by decide +kernel
theorem d_P_demandFree_0 : decode prog_1_method_27_code 0 = .ok (.iload_n 1, 1) := by decide +kernel
theorem d_P_demandFree_1 : decode prog_1_method_27_code 1 = .ok (.iload_n 2, 1) := by decide +kernel
theorem d_P_demandFree_2 : decode prog_1_method_27_code 2 = .ok (.if_icmp .eq 11, 3) := by decide +kernel
theorem d_P_demandFree_5 : decode prog_1_method_27_code 5 = .ok (.aload_n 0, 1) := by decide +kernel
theorem d_P_demandFree_6 : decode prog_1_method_27_code 6 = .ok (.iload_n 1, 1) := by decide +kernel
theorem d_P_demandFree_7 : decode prog_1_method_27_code 7 = .ok (.invokevirtual 59, 3) := by decide +kernel
theorem d_P_demandFree_10 : decode prog_1_method_27_code 10 = .ok (.ifnull 13, 3) := by decide +kernel
theorem d_P_demandFree_23 : decode prog_1_method_27_code 23 = .ok (.return_, 1) := by decide +kernel
theorem d_P_demandFree_13 : decode prog_1_method_27_code 13 = .ok (.new 30, 3) := by decide +kernel
theorem d_P_demandFree_16 : decode prog_1_method_27_code 16 = .ok (.dup, 1) := by decide +kernel
theorem d_P_demandFree_17 : decode prog_1_method_27_code 17 = .ok (.ldc 220, 2) := by decide +kernel
theorem d_P_demandFree_19 : decode prog_1_method_27_code 19 = .ok (.invokespecial 34, 3) := by decide +kernel
theorem d_P_demandFree_22 : decode prog_1_method_27_code 22 = .ok (.athrow, 1) := by decide +kernel
theorem d_P_demandRange_0 : decode prog_1_method_26_code 0 = .ok (.aload_n 0, 1) := by decide +kernel
theorem d_P_demandRange_1 : decode prog_1_method_26_code 1 = .ok (.iload_n 1, 1) := by decide +kernel
theorem d_P_demandRange_2 : decode prog_1_method_26_code 2 = .ok (.invokevirtual 107, 3) := by decide +kernel
theorem d_P_demandRange_5 : decode prog_1_method_26_code 5 = .ok (.iload_n 3, 1) := by decide +kernel
theorem d_P_demandRange_6 : decode prog_1_method_26_code 6 = .ok (.ifCond .lt 21, 3) := by decide +kernel
theorem d_P_demandRange_9 : decode prog_1_method_26_code 9 = .ok (.iload_n 2, 1) := by decide +kernel
theorem d_P_demandRange_10 : decode prog_1_method_26_code 10 = .ok (.ifCond .lt 17, 3) := by decide +kernel
theorem d_P_demandRange_13 : decode prog_1_method_26_code 13 = .ok (.iload_n 2, 1) := by decide +kernel
theorem d_P_demandRange_14 : decode prog_1_method_26_code 14 = .ok (.aload_n 0, 1) := by decide +kernel
theorem d_P_demandRange_15 : decode prog_1_method_26_code 15 = .ok (.iload_n 1, 1) := by decide +kernel
theorem d_P_demandRange_16 : decode prog_1_method_26_code 16 = .ok (.invokevirtual 59, 3) := by decide +kernel
theorem d_P_demandRange_19 : decode prog_1_method_26_code 19 = .ok (.invokestatic 137, 3) := by decide +kernel
theorem d_P_demandRange_22 : decode prog_1_method_26_code 22 = .ok (.iload_n 3, 1) := by decide +kernel
theorem d_P_demandRange_23 : decode prog_1_method_26_code 23 = .ok (.isub, 1) := by decide +kernel
theorem d_P_demandRange_24 : decode prog_1_method_26_code 24 = .ok (.if_icmp .le 13, 3) := by decide +kernel
theorem d_P_demandRange_37 : decode prog_1_method_26_code 37 = .ok (.return_, 1) := by decide +kernel
theorem d_P_demandRange_27 : decode prog_1_method_26_code 27 = .ok (.new 54, 3) := by decide +kernel
theorem d_P_demandRange_30 : decode prog_1_method_26_code 30 = .ok (.dup, 1) := by decide +kernel
theorem d_P_demandRange_31 : decode prog_1_method_26_code 31 = .ok (.ldc 218, 2) := by decide +kernel
theorem d_P_demandRange_33 : decode prog_1_method_26_code 33 = .ok (.invokespecial 58, 3) := by decide +kernel
theorem d_P_demandRange_36 : decode prog_1_method_26_code 36 = .ok (.athrow, 1) := by decide +kernel
theorem d_Y_afterCut_0 : decode prog_6_method_3_code 0 = .ok (.iload_n 1, 1) := by decide +kernel
theorem d_Y_afterCut_1 : decode prog_6_method_3_code 1 = .ok (.iload_n 2, 1) := by decide +kernel
theorem d_Y_afterCut_2 : decode prog_6_method_3_code 2 = .ok (.iadd, 1) := by decide +kernel
theorem d_Y_afterCut_3 : decode prog_6_method_3_code 3 = .ok (.istore_n 3, 1) := by decide +kernel
theorem d_Y_afterCut_4 : decode prog_6_method_3_code 4 = .ok (.aload_n 0, 1) := by decide +kernel
theorem d_Y_afterCut_5 : decode prog_6_method_3_code 5 = .ok (.iload_n 1, 1) := by decide +kernel
theorem d_Y_afterCut_6 : decode prog_6_method_3_code 6 = .ok (.invokestatic 7, 3) := by decide +kernel
theorem d_Y_afterCut_9 : decode prog_6_method_3_code 9 = .ok (.aload_n 0, 1) := by decide +kernel
theorem d_Y_afterCut_10 : decode prog_6_method_3_code 10 = .ok (.iload_n 3, 1) := by decide +kernel
theorem d_Y_afterCut_11 : decode prog_6_method_3_code 11 = .ok (.invokestatic 13, 3) := by decide +kernel
theorem d_Y_afterCut_14 : decode prog_6_method_3_code 14 = .ok (.iadd, 1) := by decide +kernel
theorem d_Y_afterCut_15 : decode prog_6_method_3_code 15 = .ok (.istore 4, 2) := by decide +kernel
theorem d_Y_afterCut_17 : decode prog_6_method_3_code 17 = .ok (.iload_n 3, 1) := by decide +kernel
theorem d_Y_afterCut_18 : decode prog_6_method_3_code 18 = .ok (.aload_n 0, 1) := by decide +kernel
theorem d_Y_afterCut_19 : decode prog_6_method_3_code 19 = .ok (.invokestatic 23, 3) := by decide +kernel
theorem d_Y_afterCut_22 : decode prog_6_method_3_code 22 = .ok (.if_icmp .lt 6, 3) := by decide +kernel
theorem d_Y_afterCut_28 : decode prog_6_method_3_code 28 = .ok (.iload 4, 2) := by decide +kernel
theorem d_Y_afterCut_30 : decode prog_6_method_3_code 30 = .ok (.aload_n 0, 1) := by decide +kernel
theorem d_Y_afterCut_31 : decode prog_6_method_3_code 31 = .ok (.iload_n 1, 1) := by decide +kernel
theorem d_Y_afterCut_32 : decode prog_6_method_3_code 32 = .ok (.aload_n 0, 1) := by decide +kernel
theorem d_Y_afterCut_33 : decode prog_6_method_3_code 33 = .ok (.iload_n 3, 1) := by decide +kernel
theorem d_Y_afterCut_34 : decode prog_6_method_3_code 34 = .ok (.invokestatic 29, 3) := by decide +kernel
theorem d_Y_afterCut_37 : decode prog_6_method_3_code 37 = .ok (.aload_n 0, 1) := by decide +kernel
theorem d_Y_afterCut_38 : decode prog_6_method_3_code 38 = .ok (.iload_n 3, 1) := by decide +kernel
theorem d_Y_afterCut_39 : decode prog_6_method_3_code 39 = .ok (.invokestatic 32, 3) := by decide +kernel
theorem d_Y_afterCut_42 : decode prog_6_method_3_code 42 = .ok (.invokestatic 16, 3) := by decide +kernel
theorem d_Y_afterCut_45 : decode prog_6_method_3_code 45 = .ok (.isub, 1) := by decide +kernel
theorem d_Y_afterCut_46 : decode prog_6_method_3_code 46 = .ok (.ireturn, 1) := by decide +kernel
theorem d_Y_afterCut_25 : decode prog_6_method_3_code 25 = .ok (.iload 4, 2) := by decide +kernel
theorem d_Y_afterCut_27 : decode prog_6_method_3_code 27 = .ok (.ireturn, 1) := by decide +kernel
theorem d_Y_within_0 : decode prog_6_method_6_code 0 = .ok (.iload_n 2, 1) := by decide +kernel
theorem d_Y_within_1 : decode prog_6_method_6_code 1 = .ok (.iconst 1, 1) := by decide +kernel
theorem d_Y_within_2 : decode prog_6_method_6_code 2 = .ok (.if_icmp .ge 7, 3) := by decide +kernel
theorem d_Y_within_9 : decode prog_6_method_6_code 9 = .ok (.aload_n 0, 1) := by decide +kernel
theorem d_Y_within_10 : decode prog_6_method_6_code 10 = .ok (.iload_n 1, 1) := by decide +kernel
theorem d_Y_within_11 : decode prog_6_method_6_code 11 = .ok (.iload_n 2, 1) := by decide +kernel
theorem d_Y_within_12 : decode prog_6_method_6_code 12 = .ok (.iadd, 1) := by decide +kernel
theorem d_Y_within_13 : decode prog_6_method_6_code 13 = .ok (.iconst 1, 1) := by decide +kernel
theorem d_Y_within_14 : decode prog_6_method_6_code 14 = .ok (.isub, 1) := by decide +kernel
theorem d_Y_within_15 : decode prog_6_method_6_code 15 = .ok (.invokestatic 46, 3) := by decide +kernel
theorem d_Y_within_18 : decode prog_6_method_6_code 18 = .ok (.aload_n 0, 1) := by decide +kernel
theorem d_Y_within_19 : decode prog_6_method_6_code 19 = .ok (.iload_n 1, 1) := by decide +kernel
theorem d_Y_within_20 : decode prog_6_method_6_code 20 = .ok (.invokestatic 46, 3) := by decide +kernel
theorem d_Y_within_23 : decode prog_6_method_6_code 23 = .ok (.isub, 1) := by decide +kernel
theorem d_Y_within_24 : decode prog_6_method_6_code 24 = .ok (.iconst 1, 1) := by decide +kernel
theorem d_Y_within_25 : decode prog_6_method_6_code 25 = .ok (.iadd, 1) := by decide +kernel
theorem d_Y_within_5 : decode prog_6_method_6_code 5 = .ok (.iconst 0, 1) := by decide +kernel
theorem d_Y_within_6 : decode prog_6_method_6_code 6 = .ok (.goto 20, 3) := by decide +kernel
theorem d_Y_within_26 : decode prog_6_method_6_code 26 = .ok (.ireturn, 1) := by decide +kernel
theorem d_P_cut_0 : decode prog_1_method_4_code 0 = .ok (.aload_n 0, 1) := by decide +kernel
theorem d_P_cut_1 : decode prog_1_method_4_code 1 = .ok (.iload_n 1, 1) := by decide +kernel
theorem d_P_cut_2 : decode prog_1_method_4_code 2 = .ok (.iload_n 2, 1) := by decide +kernel
theorem d_P_cut_3 : decode prog_1_method_4_code 3 = .ok (.iload_n 3, 1) := by decide +kernel
theorem d_P_cut_4 : decode prog_1_method_4_code 4 = .ok (.invokevirtual 103, 3) := by decide +kernel
theorem d_P_cut_7 : decode prog_1_method_4_code 7 = .ok (.aload_n 0, 1) := by decide +kernel
theorem d_P_cut_8 : decode prog_1_method_4_code 8 = .ok (.iload 4, 2) := by decide +kernel
theorem d_P_cut_10 : decode prog_1_method_4_code 10 = .ok (.invokevirtual 107, 3) := by decide +kernel
theorem d_P_cut_13 : decode prog_1_method_4_code 13 = .ok (.aload_n 0, 1) := by decide +kernel
theorem d_P_cut_14 : decode prog_1_method_4_code 14 = .ok (.iload 4, 2) := by decide +kernel
theorem d_P_cut_16 : decode prog_1_method_4_code 16 = .ok (.iload_n 1, 1) := by decide +kernel
theorem d_P_cut_17 : decode prog_1_method_4_code 17 = .ok (.invokevirtual 111, 3) := by decide +kernel
theorem d_P_cut_20 : decode prog_1_method_4_code 20 = .ok (.aload_n 0, 1) := by decide +kernel
theorem d_P_cut_21 : decode prog_1_method_4_code 21 = .ok (.iload_n 1, 1) := by decide +kernel
theorem d_P_cut_22 : decode prog_1_method_4_code 22 = .ok (.invokevirtual 59, 3) := by decide +kernel
theorem d_P_cut_25 : decode prog_1_method_4_code 25 = .ok (.astore 5, 2) := by decide +kernel
theorem d_P_cut_27 : decode prog_1_method_4_code 27 = .ok (.aload_n 0, 1) := by decide +kernel
theorem d_P_cut_28 : decode prog_1_method_4_code 28 = .ok (.iconst 0, 1) := by decide +kernel
theorem d_P_cut_29 : decode prog_1_method_4_code 29 = .ok (.aload 5, 2) := by decide +kernel
theorem d_P_cut_31 : decode prog_1_method_4_code 31 = .ok (.iload_n 2, 1) := by decide +kernel
theorem d_P_cut_32 : decode prog_1_method_4_code 32 = .ok (.iload_n 3, 1) := by decide +kernel
theorem d_P_cut_33 : decode prog_1_method_4_code 33 = .ok (.invokestatic 114, 3) := by decide +kernel
theorem d_P_cut_36 : decode prog_1_method_4_code 36 = .ok (.aload 5, 2) := by decide +kernel
theorem d_P_cut_38 : decode prog_1_method_4_code 38 = .ok (.iload_n 2, 1) := by decide +kernel
theorem d_P_cut_39 : decode prog_1_method_4_code 39 = .ok (.iload_n 3, 1) := by decide +kernel
theorem d_P_cut_40 : decode prog_1_method_4_code 40 = .ok (.invokestatic 118, 3) := by decide +kernel
theorem d_P_cut_43 : decode prog_1_method_4_code 43 = .ok (.iadd, 1) := by decide +kernel
theorem d_P_cut_44 : decode prog_1_method_4_code 44 = .ok (.aload 5, 2) := by decide +kernel
theorem d_P_cut_46 : decode prog_1_method_4_code 46 = .ok (.invokestatic 69, 3) := by decide +kernel
theorem d_P_cut_49 : decode prog_1_method_4_code 49 = .ok (.isub, 1) := by decide +kernel
theorem d_P_cut_50 : decode prog_1_method_4_code 50 = .ok (.invokevirtual 75, 3) := by decide +kernel
theorem d_P_cut_53 : decode prog_1_method_4_code 53 = .ok (.aload_n 0, 1) := by decide +kernel
theorem d_P_cut_54 : decode prog_1_method_4_code 54 = .ok (.getfield 22, 3) := by decide +kernel
theorem d_P_cut_57 : decode prog_1_method_4_code 57 = .ok (.aload 5, 2) := by decide +kernel
theorem d_P_cut_59 : decode prog_1_method_4_code 59 = .ok (.iload_n 2, 1) := by decide +kernel
theorem d_P_cut_60 : decode prog_1_method_4_code 60 = .ok (.invokevirtual 78, 3) := by decide +kernel
theorem d_P_cut_63 : decode prog_1_method_4_code 63 = .ok (.astore 6, 2) := by decide +kernel
theorem d_P_cut_65 : decode prog_1_method_4_code 65 = .ok (.aload_n 0, 1) := by decide +kernel
theorem d_P_cut_66 : decode prog_1_method_4_code 66 = .ok (.getfield 22, 3) := by decide +kernel
theorem d_P_cut_69 : decode prog_1_method_4_code 69 = .ok (.aload 6, 2) := by decide +kernel
theorem d_P_cut_71 : decode prog_1_method_4_code 71 = .ok (.getfield 96, 3) := by decide +kernel
theorem d_P_cut_74 : decode prog_1_method_4_code 74 = .ok (.iload_n 3, 1) := by decide +kernel
theorem d_P_cut_75 : decode prog_1_method_4_code 75 = .ok (.invokevirtual 78, 3) := by decide +kernel
theorem d_P_cut_78 : decode prog_1_method_4_code 78 = .ok (.astore 7, 2) := by decide +kernel
theorem d_P_cut_80 : decode prog_1_method_4_code 80 = .ok (.aload_n 0, 1) := by decide +kernel
theorem d_P_cut_81 : decode prog_1_method_4_code 81 = .ok (.iload 4, 2) := by decide +kernel
theorem d_P_cut_83 : decode prog_1_method_4_code 83 = .ok (.aload 7, 2) := by decide +kernel
theorem d_P_cut_85 : decode prog_1_method_4_code 85 = .ok (.getfield 86, 3) := by decide +kernel
theorem d_P_cut_88 : decode prog_1_method_4_code 88 = .ok (.invokevirtual 99, 3) := by decide +kernel
theorem d_P_cut_91 : decode prog_1_method_4_code 91 = .ok (.pop, 1) := by decide +kernel
theorem d_P_cut_92 : decode prog_1_method_4_code 92 = .ok (.aload_n 0, 1) := by decide +kernel
theorem d_P_cut_93 : decode prog_1_method_4_code 93 = .ok (.iload_n 1, 1) := by decide +kernel
theorem d_P_cut_94 : decode prog_1_method_4_code 94 = .ok (.aload_n 0, 1) := by decide +kernel
theorem d_P_cut_95 : decode prog_1_method_4_code 95 = .ok (.getfield 22, 3) := by decide +kernel
theorem d_P_cut_98 : decode prog_1_method_4_code 98 = .ok (.aload 6, 2) := by decide +kernel
theorem d_P_cut_100 : decode prog_1_method_4_code 100 = .ok (.getfield 86, 3) := by decide +kernel
theorem d_P_cut_103 : decode prog_1_method_4_code 103 = .ok (.aload 7, 2) := by decide +kernel
theorem d_P_cut_105 : decode prog_1_method_4_code 105 = .ok (.getfield 96, 3) := by decide +kernel
theorem d_P_cut_108 : decode prog_1_method_4_code 108 = .ok (.invokevirtual 92, 3) := by decide +kernel
theorem d_P_cut_111 : decode prog_1_method_4_code 111 = .ok (.invokevirtual 99, 3) := by decide +kernel
theorem d_P_cut_114 : decode prog_1_method_4_code 114 = .ok (.ireturn, 1) := by decide +kernel
theorem d_Y_afterPaste_0 : decode prog_6_method_4_code 0 = .ok (.aload_n 2, 1) := by decide +kernel
theorem d_Y_afterPaste_1 : decode prog_6_method_4_code 1 = .ok (.ifnonnull 8, 3) := by decide +kernel
theorem d_Y_afterPaste_4 : decode prog_6_method_4_code 4 = .ok (.aload_n 0, 1) := by decide +kernel
theorem d_Y_afterPaste_5 : decode prog_6_method_4_code 5 = .ok (.invokestatic 35, 3) := by decide +kernel
theorem d_Y_afterPaste_8 : decode prog_6_method_4_code 8 = .ok (.ireturn, 1) := by decide +kernel
theorem d_Y_afterPaste_9 : decode prog_6_method_4_code 9 = .ok (.aload_n 2, 1) := by decide +kernel
theorem d_Y_afterPaste_10 : decode prog_6_method_4_code 10 = .ok (.invokestatic 23, 3) := by decide +kernel
theorem d_Y_afterPaste_13 : decode prog_6_method_4_code 13 = .ok (.iconst 1, 1) := by decide +kernel
theorem d_Y_afterPaste_14 : decode prog_6_method_4_code 14 = .ok (.isub, 1) := by decide +kernel
theorem d_Y_afterPaste_15 : decode prog_6_method_4_code 15 = .ok (.istore_n 3, 1) := by decide +kernel
theorem d_Y_afterPaste_16 : decode prog_6_method_4_code 16 = .ok (.aload_n 0, 1) := by decide +kernel
theorem d_Y_afterPaste_17 : decode prog_6_method_4_code 17 = .ok (.iload_n 1, 1) := by decide +kernel
theorem d_Y_afterPaste_18 : decode prog_6_method_4_code 18 = .ok (.invokestatic 7, 3) := by decide +kernel
theorem d_Y_afterPaste_21 : decode prog_6_method_4_code 21 = .ok (.aload_n 2, 1) := by decide +kernel
theorem d_Y_afterPaste_22 : decode prog_6_method_4_code 22 = .ok (.invokestatic 35, 3) := by decide +kernel
theorem d_Y_afterPaste_25 : decode prog_6_method_4_code 25 = .ok (.iadd, 1) := by decide +kernel
theorem d_Y_afterPaste_26 : decode prog_6_method_4_code 26 = .ok (.aload_n 0, 1) := by decide +kernel
theorem d_Y_afterPaste_27 : decode prog_6_method_4_code 27 = .ok (.iload_n 1, 1) := by decide +kernel
theorem d_Y_afterPaste_28 : decode prog_6_method_4_code 28 = .ok (.invokestatic 13, 3) := by decide +kernel
theorem d_Y_afterPaste_31 : decode prog_6_method_4_code 31 = .ok (.iadd, 1) := by decide +kernel
theorem d_Y_afterPaste_32 : decode prog_6_method_4_code 32 = .ok (.aload_n 0, 1) := by decide +kernel
theorem d_Y_afterPaste_33 : decode prog_6_method_4_code 33 = .ok (.iload_n 1, 1) := by decide +kernel
theorem d_Y_afterPaste_34 : decode prog_6_method_4_code 34 = .ok (.aload_n 2, 1) := by decide +kernel
theorem d_Y_afterPaste_35 : decode prog_6_method_4_code 35 = .ok (.iconst 0, 1) := by decide +kernel
theorem d_Y_afterPaste_36 : decode prog_6_method_4_code 36 = .ok (.invokestatic 29, 3) := by decide +kernel
theorem d_Y_afterPaste_39 : decode prog_6_method_4_code 39 = .ok (.aload_n 2, 1) := by decide +kernel
theorem d_Y_afterPaste_40 : decode prog_6_method_4_code 40 = .ok (.iconst 0, 1) := by decide +kernel
theorem d_Y_afterPaste_41 : decode prog_6_method_4_code 41 = .ok (.invokestatic 32, 3) := by decide +kernel
theorem d_Y_afterPaste_44 : decode prog_6_method_4_code 44 = .ok (.invokestatic 16, 3) := by decide +kernel
theorem d_Y_afterPaste_47 : decode prog_6_method_4_code 47 = .ok (.isub, 1) := by decide +kernel
theorem d_Y_afterPaste_48 : decode prog_6_method_4_code 48 = .ok (.aload_n 0, 1) := by decide +kernel
theorem d_Y_afterPaste_49 : decode prog_6_method_4_code 49 = .ok (.iload_n 1, 1) := by decide +kernel
theorem d_Y_afterPaste_50 : decode prog_6_method_4_code 50 = .ok (.aload_n 2, 1) := by decide +kernel
theorem d_Y_afterPaste_51 : decode prog_6_method_4_code 51 = .ok (.iload_n 3, 1) := by decide +kernel
theorem d_Y_afterPaste_52 : decode prog_6_method_4_code 52 = .ok (.invokestatic 29, 3) := by decide +kernel
theorem d_Y_afterPaste_55 : decode prog_6_method_4_code 55 = .ok (.aload_n 2, 1) := by decide +kernel
theorem d_Y_afterPaste_56 : decode prog_6_method_4_code 56 = .ok (.iload_n 3, 1) := by decide +kernel
theorem d_Y_afterPaste_57 : decode prog_6_method_4_code 57 = .ok (.invokestatic 32, 3) := by decide +kernel
theorem d_Y_afterPaste_60 : decode prog_6_method_4_code 60 = .ok (.invokestatic 20, 3) := by decide +kernel
theorem d_Y_afterPaste_63 : decode prog_6_method_4_code 63 = .ok (.isub, 1) := by decide +kernel
theorem d_Y_afterPaste_64 : decode prog_6_method_4_code 64 = .ok (.ireturn, 1) := by decide +kernel
theorem d_P_paste_0 : decode prog_1_method_5_code 0 = .ok (.aload_n 0, 1) := by decide +kernel
theorem d_P_paste_1 : decode prog_1_method_5_code 1 = .ok (.iload_n 1, 1) := by decide +kernel
theorem d_P_paste_2 : decode prog_1_method_5_code 2 = .ok (.iload_n 2, 1) := by decide +kernel
theorem d_P_paste_3 : decode prog_1_method_5_code 3 = .ok (.invokevirtual 50, 3) := by decide +kernel
theorem d_P_paste_6 : decode prog_1_method_5_code 6 = .ok (.aload_n 0, 1) := by decide +kernel
theorem d_P_paste_7 : decode prog_1_method_5_code 7 = .ok (.iload_n 3, 1) := by decide +kernel
theorem d_P_paste_8 : decode prog_1_method_5_code 8 = .ok (.invokevirtual 107, 3) := by decide +kernel
theorem d_P_paste_11 : decode prog_1_method_5_code 11 = .ok (.iload_n 3, 1) := by decide +kernel
theorem d_P_paste_12 : decode prog_1_method_5_code 12 = .ok (.iload_n 1, 1) := by decide +kernel
theorem d_P_paste_13 : decode prog_1_method_5_code 13 = .ok (.if_icmp .ne 13, 3) := by decide +kernel
theorem d_P_paste_26 : decode prog_1_method_5_code 26 = .ok (.aload_n 0, 1) := by decide +kernel
theorem d_P_paste_27 : decode prog_1_method_5_code 27 = .ok (.iload_n 1, 1) := by decide +kernel
theorem d_P_paste_28 : decode prog_1_method_5_code 28 = .ok (.invokevirtual 59, 3) := by decide +kernel
theorem d_P_paste_31 : decode prog_1_method_5_code 31 = .ok (.astore 4, 2) := by decide +kernel
theorem d_P_paste_33 : decode prog_1_method_5_code 33 = .ok (.aload_n 0, 1) := by decide +kernel
theorem d_P_paste_34 : decode prog_1_method_5_code 34 = .ok (.iload_n 3, 1) := by decide +kernel
theorem d_P_paste_35 : decode prog_1_method_5_code 35 = .ok (.invokevirtual 59, 3) := by decide +kernel
theorem d_P_paste_38 : decode prog_1_method_5_code 38 = .ok (.astore 5, 2) := by decide +kernel
theorem d_P_paste_40 : decode prog_1_method_5_code 40 = .ok (.aload_n 0, 1) := by decide +kernel
theorem d_P_paste_41 : decode prog_1_method_5_code 41 = .ok (.iconst 0, 1) := by decide +kernel
theorem d_P_paste_42 : decode prog_1_method_5_code 42 = .ok (.aload 4, 2) := by decide +kernel
theorem d_P_paste_44 : decode prog_1_method_5_code 44 = .ok (.iload_n 2, 1) := by decide +kernel
theorem d_P_paste_45 : decode prog_1_method_5_code 45 = .ok (.aload 5, 2) := by decide +kernel
theorem d_P_paste_47 : decode prog_1_method_5_code 47 = .ok (.invokestatic 123, 3) := by decide +kernel
theorem d_P_paste_50 : decode prog_1_method_5_code 50 = .ok (.aload 4, 2) := by decide +kernel
theorem d_P_paste_52 : decode prog_1_method_5_code 52 = .ok (.invokestatic 69, 3) := by decide +kernel
theorem d_P_paste_55 : decode prog_1_method_5_code 55 = .ok (.isub, 1) := by decide +kernel
theorem d_P_paste_56 : decode prog_1_method_5_code 56 = .ok (.aload 5, 2) := by decide +kernel
theorem d_P_paste_58 : decode prog_1_method_5_code 58 = .ok (.invokestatic 69, 3) := by decide +kernel
theorem d_P_paste_61 : decode prog_1_method_5_code 61 = .ok (.isub, 1) := by decide +kernel
theorem d_P_paste_62 : decode prog_1_method_5_code 62 = .ok (.invokevirtual 75, 3) := by decide +kernel
theorem d_P_paste_65 : decode prog_1_method_5_code 65 = .ok (.aload_n 0, 1) := by decide +kernel
theorem d_P_paste_66 : decode prog_1_method_5_code 66 = .ok (.getfield 22, 3) := by decide +kernel
theorem d_P_paste_69 : decode prog_1_method_5_code 69 = .ok (.aload 4, 2) := by decide +kernel
theorem d_P_paste_71 : decode prog_1_method_5_code 71 = .ok (.iload_n 2, 1) := by decide +kernel
theorem d_P_paste_72 : decode prog_1_method_5_code 72 = .ok (.invokevirtual 78, 3) := by decide +kernel
theorem d_P_paste_75 : decode prog_1_method_5_code 75 = .ok (.astore 6, 2) := by decide +kernel
theorem d_P_paste_77 : decode prog_1_method_5_code 77 = .ok (.aload_n 0, 1) := by decide +kernel
theorem d_P_paste_78 : decode prog_1_method_5_code 78 = .ok (.iload_n 3, 1) := by decide +kernel
theorem d_P_paste_79 : decode prog_1_method_5_code 79 = .ok (.aconst_null, 1) := by decide +kernel
theorem d_P_paste_80 : decode prog_1_method_5_code 80 = .ok (.invokevirtual 99, 3) := by decide +kernel
theorem d_P_paste_83 : decode prog_1_method_5_code 83 = .ok (.pop, 1) := by decide +kernel
theorem d_P_paste_84 : decode prog_1_method_5_code 84 = .ok (.aload_n 0, 1) := by decide +kernel
theorem d_P_paste_85 : decode prog_1_method_5_code 85 = .ok (.iload_n 1, 1) := by decide +kernel
theorem d_P_paste_86 : decode prog_1_method_5_code 86 = .ok (.aload_n 0, 1) := by decide +kernel
theorem d_P_paste_87 : decode prog_1_method_5_code 87 = .ok (.getfield 22, 3) := by decide +kernel
theorem d_P_paste_90 : decode prog_1_method_5_code 90 = .ok (.aload_n 0, 1) := by decide +kernel
theorem d_P_paste_91 : decode prog_1_method_5_code 91 = .ok (.getfield 22, 3) := by decide +kernel
theorem d_P_paste_94 : decode prog_1_method_5_code 94 = .ok (.aload 6, 2) := by decide +kernel
theorem d_P_paste_96 : decode prog_1_method_5_code 96 = .ok (.getfield 86, 3) := by decide +kernel
theorem d_P_paste_99 : decode prog_1_method_5_code 99 = .ok (.aload 5, 2) := by decide +kernel
theorem d_P_paste_101 : decode prog_1_method_5_code 101 = .ok (.invokevirtual 92, 3) := by decide +kernel
theorem d_P_paste_104 : decode prog_1_method_5_code 104 = .ok (.aload 6, 2) := by decide +kernel
theorem d_P_paste_106 : decode prog_1_method_5_code 106 = .ok (.getfield 96, 3) := by decide +kernel
theorem d_P_paste_109 : decode prog_1_method_5_code 109 = .ok (.invokevirtual 92, 3) := by decide +kernel
theorem d_P_paste_112 : decode prog_1_method_5_code 112 = .ok (.invokevirtual 99, 3) := by decide +kernel
theorem d_P_paste_115 : decode prog_1_method_5_code 115 = .ok (.ireturn, 1) := by decide +kernel
theorem d_P_paste_16 : decode prog_1_method_5_code 16 = .ok (.new 30, 3) := by decide +kernel
theorem d_P_paste_19 : decode prog_1_method_5_code 19 = .ok (.dup, 1) := by decide +kernel
theorem d_P_paste_20 : decode prog_1_method_5_code 20 = .ok (.ldc 121, 2) := by decide +kernel
theorem d_P_paste_22 : decode prog_1_method_5_code 22 = .ok (.invokespecial 34, 3) := by decide +kernel
theorem d_P_paste_25 : decode prog_1_method_5_code 25 = .ok (.athrow, 1) := by decide +kernel
theorem d_T_twin_0 : decode prog_7_method_8_code 0 = .ok (.aload_n 1, 1) := by decide +kernel
theorem d_T_twin_1 : decode prog_7_method_8_code 1 = .ok (.ifnull 14, 3) := by decide +kernel
theorem d_T_twin_4 : decode prog_7_method_8_code 4 = .ok (.iload_n 2, 1) := by decide +kernel
theorem d_T_twin_5 : decode prog_7_method_8_code 5 = .ok (.iload_n 3, 1) := by decide +kernel
theorem d_T_twin_6 : decode prog_7_method_8_code 6 = .ok (.if_icmp .ge 9, 3) := by decide +kernel
theorem d_T_twin_9 : decode prog_7_method_8_code 9 = .ok (.iload 4, 2) := by decide +kernel
theorem d_T_twin_11 : decode prog_7_method_8_code 11 = .ok (.iconst 1, 1) := by decide +kernel
theorem d_T_twin_12 : decode prog_7_method_8_code 12 = .ok (.if_icmp .ge 5, 3) := by decide +kernel
theorem d_T_twin_17 : decode prog_7_method_8_code 17 = .ok (.aload_n 1, 1) := by decide +kernel
theorem d_T_twin_18 : decode prog_7_method_8_code 18 = .ok (.getfield 35, 3) := by decide +kernel
theorem d_T_twin_21 : decode prog_7_method_8_code 21 = .ok (.invokestatic 55, 3) := by decide +kernel
theorem d_T_twin_24 : decode prog_7_method_8_code 24 = .ok (.istore 5, 2) := by decide +kernel
theorem d_T_twin_26 : decode prog_7_method_8_code 26 = .ok (.iload 5, 2) := by decide +kernel
theorem d_T_twin_28 : decode prog_7_method_8_code 28 = .ok (.aload_n 1, 1) := by decide +kernel
theorem d_T_twin_29 : decode prog_7_method_8_code 29 = .ok (.getfield 25, 3) := by decide +kernel
theorem d_T_twin_32 : decode prog_7_method_8_code 32 = .ok (.iadd, 1) := by decide +kernel
theorem d_T_twin_33 : decode prog_7_method_8_code 33 = .ok (.istore 6, 2) := by decide +kernel
theorem d_T_twin_35 : decode prog_7_method_8_code 35 = .ok (.aload_n 0, 1) := by decide +kernel
theorem d_T_twin_36 : decode prog_7_method_8_code 36 = .ok (.aload_n 1, 1) := by decide +kernel
theorem d_T_twin_37 : decode prog_7_method_8_code 37 = .ok (.getfield 35, 3) := by decide +kernel
theorem d_T_twin_40 : decode prog_7_method_8_code 40 = .ok (.iload_n 2, 1) := by decide +kernel
theorem d_T_twin_41 : decode prog_7_method_8_code 41 = .ok (.iload_n 3, 1) := by decide +kernel
theorem d_T_twin_42 : decode prog_7_method_8_code 42 = .ok (.iload 5, 2) := by decide +kernel
theorem d_T_twin_44 : decode prog_7_method_8_code 44 = .ok (.invokestatic 82, 3) := by decide +kernel
theorem d_T_twin_47 : decode prog_7_method_8_code 47 = .ok (.iload 4, 2) := by decide +kernel
theorem d_T_twin_49 : decode prog_7_method_8_code 49 = .ok (.iconst 1, 1) := by decide +kernel
theorem d_T_twin_50 : decode prog_7_method_8_code 50 = .ok (.isub, 1) := by decide +kernel
theorem d_T_twin_51 : decode prog_7_method_8_code 51 = .ok (.invokevirtual 88, 3) := by decide +kernel
theorem d_T_twin_54 : decode prog_7_method_8_code 54 = .ok (.astore 7, 2) := by decide +kernel
theorem d_T_twin_56 : decode prog_7_method_8_code 56 = .ok (.aload_n 0, 1) := by decide +kernel
theorem d_T_twin_57 : decode prog_7_method_8_code 57 = .ok (.aload_n 1, 1) := by decide +kernel
theorem d_T_twin_58 : decode prog_7_method_8_code 58 = .ok (.getfield 18, 3) := by decide +kernel
theorem d_T_twin_61 : decode prog_7_method_8_code 61 = .ok (.iload_n 2, 1) := by decide +kernel
theorem d_T_twin_62 : decode prog_7_method_8_code 62 = .ok (.iload 6, 2) := by decide +kernel
theorem d_T_twin_64 : decode prog_7_method_8_code 64 = .ok (.invokestatic 92, 3) := by decide +kernel
theorem d_T_twin_67 : decode prog_7_method_8_code 67 = .ok (.iload 6, 2) := by decide +kernel
theorem d_T_twin_69 : decode prog_7_method_8_code 69 = .ok (.isub, 1) := by decide +kernel
theorem d_T_twin_70 : decode prog_7_method_8_code 70 = .ok (.iload_n 3, 1) := by decide +kernel
theorem d_T_twin_71 : decode prog_7_method_8_code 71 = .ok (.iload 6, 2) := by decide +kernel
theorem d_T_twin_73 : decode prog_7_method_8_code 73 = .ok (.isub, 1) := by decide +kernel
theorem d_T_twin_74 : decode prog_7_method_8_code 74 = .ok (.iload 4, 2) := by decide +kernel
theorem d_T_twin_76 : decode prog_7_method_8_code 76 = .ok (.iconst 1, 1) := by decide +kernel
theorem d_T_twin_77 : decode prog_7_method_8_code 77 = .ok (.isub, 1) := by decide +kernel
theorem d_T_twin_78 : decode prog_7_method_8_code 78 = .ok (.invokevirtual 88, 3) := by decide +kernel
theorem d_T_twin_81 : decode prog_7_method_8_code 81 = .ok (.astore 8, 2) := by decide +kernel
theorem d_T_twin_83 : decode prog_7_method_8_code 83 = .ok (.iload_n 2, 1) := by decide +kernel
theorem d_T_twin_84 : decode prog_7_method_8_code 84 = .ok (.iload 5, 2) := by decide +kernel
theorem d_T_twin_86 : decode prog_7_method_8_code 86 = .ok (.invokestatic 92, 3) := by decide +kernel
theorem d_T_twin_89 : decode prog_7_method_8_code 89 = .ok (.istore 9, 2) := by decide +kernel
theorem d_T_twin_91 : decode prog_7_method_8_code 91 = .ok (.iload_n 3, 1) := by decide +kernel
theorem d_T_twin_92 : decode prog_7_method_8_code 92 = .ok (.iload 6, 2) := by decide +kernel
theorem d_T_twin_94 : decode prog_7_method_8_code 94 = .ok (.invokestatic 82, 3) := by decide +kernel
theorem d_T_twin_97 : decode prog_7_method_8_code 97 = .ok (.istore 10, 2) := by decide +kernel
theorem d_T_twin_99 : decode prog_7_method_8_code 99 = .ok (.iload 9, 2) := by decide +kernel
theorem d_T_twin_101 : decode prog_7_method_8_code 101 = .ok (.iload 10, 2) := by decide +kernel
theorem d_T_twin_103 : decode prog_7_method_8_code 103 = .ok (.if_icmp .lt 16, 3) := by decide +kernel
theorem d_T_twin_119 : decode prog_7_method_8_code 119 = .ok (.aload 7, 2) := by decide +kernel
theorem d_T_twin_121 : decode prog_7_method_8_code 121 = .ok (.aload_n 0, 1) := by decide +kernel
theorem d_T_twin_122 : decode prog_7_method_8_code 122 = .ok (.aload_n 1, 1) := by decide +kernel
theorem d_T_twin_123 : decode prog_7_method_8_code 123 = .ok (.getfield 21, 3) := by decide +kernel
theorem d_T_twin_126 : decode prog_7_method_8_code 126 = .ok (.iload 9, 2) := by decide +kernel
theorem d_T_twin_128 : decode prog_7_method_8_code 128 = .ok (.iadd, 1) := by decide +kernel
theorem d_T_twin_129 : decode prog_7_method_8_code 129 = .ok (.iload 5, 2) := by decide +kernel
theorem d_T_twin_131 : decode prog_7_method_8_code 131 = .ok (.isub, 1) := by decide +kernel
theorem d_T_twin_132 : decode prog_7_method_8_code 132 = .ok (.iload 10, 2) := by decide +kernel
theorem d_T_twin_134 : decode prog_7_method_8_code 134 = .ok (.iload 9, 2) := by decide +kernel
theorem d_T_twin_136 : decode prog_7_method_8_code 136 = .ok (.isub, 1) := by decide +kernel
theorem d_T_twin_137 : decode prog_7_method_8_code 137 = .ok (.aload_n 1, 1) := by decide +kernel
theorem d_T_twin_138 : decode prog_7_method_8_code 138 = .ok (.getfield 28, 3) := by decide +kernel
theorem d_T_twin_141 : decode prog_7_method_8_code 141 = .ok (.invokevirtual 65, 3) := by decide +kernel
theorem d_T_twin_144 : decode prog_7_method_8_code 144 = .ok (.aload 8, 2) := by decide +kernel
theorem d_T_twin_146 : decode prog_7_method_8_code 146 = .ok (.bipush 40, 2) := by decide +kernel
theorem d_T_twin_148 : decode prog_7_method_8_code 148 = .ok (.invokestatic 61, 3) := by decide +kernel
end
section
theorem d_T_twin_151 : decode prog_7_method_8_code 151 = .ok (.areturn, 1) := by decide +kernel
theorem d_T_twin_106 : decode prog_7_method_8_code 106 = .ok (.aload 7, 2) := by decide +kernel
theorem d_T_twin_108 : decode prog_7_method_8_code 108 = .ok (.ifnonnull 8, 3) := by decide +kernel
theorem d_T_twin_111 : decode prog_7_method_8_code 111 = .ok (.aload 8, 2) := by decide +kernel
theorem d_T_twin_113 : decode prog_7_method_8_code 113 = .ok (.goto 5, 3) := by decide +kernel
theorem d_T_twin_116 : decode prog_7_method_8_code 116 = .ok (.aload 7, 2) := by decide +kernel
theorem d_T_twin_15 : decode prog_7_method_8_code 15 = .ok (.aconst_null, 1) := by decide +kernel
theorem d_T_twin_16 : decode prog_7_method_8_code 16 = .ok (.areturn, 1) := by decide +kernel
theorem d_T_twin_118 : decode prog_7_method_8_code 118 = .ok (.areturn, 1) := by decide +kernel
theorem d_P_copy_0 : decode prog_1_method_6_code 0 = .ok (.aload_n 0, 1) := by decide +kernel
theorem d_P_copy_1 : decode prog_1_method_6_code 1 = .ok (.iload_n 1, 1) := by decide +kernel
theorem d_P_copy_2 : decode prog_1_method_6_code 2 = .ok (.iload_n 2, 1) := by decide +kernel
theorem d_P_copy_3 : decode prog_1_method_6_code 3 = .ok (.iload_n 3, 1) := by decide +kernel
theorem d_P_copy_4 : decode prog_1_method_6_code 4 = .ok (.invokevirtual 103, 3) := by decide +kernel
theorem d_P_copy_7 : decode prog_1_method_6_code 7 = .ok (.aload_n 0, 1) := by decide +kernel
theorem d_P_copy_8 : decode prog_1_method_6_code 8 = .ok (.iload 4, 2) := by decide +kernel
theorem d_P_copy_10 : decode prog_1_method_6_code 10 = .ok (.invokevirtual 107, 3) := by decide +kernel
theorem d_P_copy_13 : decode prog_1_method_6_code 13 = .ok (.aload_n 0, 1) := by decide +kernel
theorem d_P_copy_14 : decode prog_1_method_6_code 14 = .ok (.iload 4, 2) := by decide +kernel
theorem d_P_copy_16 : decode prog_1_method_6_code 16 = .ok (.iload_n 1, 1) := by decide +kernel
theorem d_P_copy_17 : decode prog_1_method_6_code 17 = .ok (.invokevirtual 111, 3) := by decide +kernel
theorem d_P_copy_20 : decode prog_1_method_6_code 20 = .ok (.aload_n 0, 1) := by decide +kernel
theorem d_P_copy_21 : decode prog_1_method_6_code 21 = .ok (.iload_n 1, 1) := by decide +kernel
theorem d_P_copy_22 : decode prog_1_method_6_code 22 = .ok (.invokevirtual 59, 3) := by decide +kernel
theorem d_P_copy_25 : decode prog_1_method_6_code 25 = .ok (.astore 5, 2) := by decide +kernel
theorem d_P_copy_27 : decode prog_1_method_6_code 27 = .ok (.aload_n 0, 1) := by decide +kernel
theorem d_P_copy_28 : decode prog_1_method_6_code 28 = .ok (.iload_n 3, 1) := by decide +kernel
theorem d_P_copy_29 : decode prog_1_method_6_code 29 = .ok (.aload 5, 2) := by decide +kernel
theorem d_P_copy_31 : decode prog_1_method_6_code 31 = .ok (.iload_n 2, 1) := by decide +kernel
theorem d_P_copy_32 : decode prog_1_method_6_code 32 = .ok (.iload_n 3, 1) := by decide +kernel
theorem d_P_copy_33 : decode prog_1_method_6_code 33 = .ok (.invokestatic 118, 3) := by decide +kernel
theorem d_P_copy_36 : decode prog_1_method_6_code 36 = .ok (.invokevirtual 75, 3) := by decide +kernel
theorem d_P_copy_39 : decode prog_1_method_6_code 39 = .ok (.aload_n 0, 1) := by decide +kernel
theorem d_P_copy_40 : decode prog_1_method_6_code 40 = .ok (.iload 4, 2) := by decide +kernel
theorem d_P_copy_42 : decode prog_1_method_6_code 42 = .ok (.aload_n 0, 1) := by decide +kernel
theorem d_P_copy_43 : decode prog_1_method_6_code 43 = .ok (.getfield 22, 3) := by decide +kernel
theorem d_P_copy_46 : decode prog_1_method_6_code 46 = .ok (.aload 5, 2) := by decide +kernel
theorem d_P_copy_48 : decode prog_1_method_6_code 48 = .ok (.iload_n 2, 1) := by decide +kernel
theorem d_P_copy_49 : decode prog_1_method_6_code 49 = .ok (.iload_n 2, 1) := by decide +kernel
theorem d_P_copy_50 : decode prog_1_method_6_code 50 = .ok (.iload_n 3, 1) := by decide +kernel
theorem d_P_copy_51 : decode prog_1_method_6_code 51 = .ok (.iadd, 1) := by decide +kernel
theorem d_P_copy_52 : decode prog_1_method_6_code 52 = .ok (.bipush 40, 2) := by decide +kernel
theorem d_P_copy_54 : decode prog_1_method_6_code 54 = .ok (.invokevirtual 127, 3) := by decide +kernel
theorem d_P_copy_57 : decode prog_1_method_6_code 57 = .ok (.invokevirtual 99, 3) := by decide +kernel
theorem d_P_copy_60 : decode prog_1_method_6_code 60 = .ok (.pop, 1) := by decide +kernel
theorem d_P_copy_61 : decode prog_1_method_6_code 61 = .ok (.aload_n 0, 1) := by decide +kernel
theorem d_P_copy_62 : decode prog_1_method_6_code 62 = .ok (.iload 4, 2) := by decide +kernel
theorem d_P_copy_64 : decode prog_1_method_6_code 64 = .ok (.invokevirtual 59, 3) := by decide +kernel
theorem d_P_copy_67 : decode prog_1_method_6_code 67 = .ok (.invokestatic 69, 3) := by decide +kernel
theorem d_P_copy_70 : decode prog_1_method_6_code 70 = .ok (.ireturn, 1) := by decide +kernel
theorem d_Y_tagged_0 : decode prog_6_method_12_code 0 = .ok (.iload_n 0, 1) := by decide +kernel
theorem d_Y_tagged_1 : decode prog_6_method_12_code 1 = .ok (.iload_n 1, 1) := by decide +kernel
theorem d_Y_tagged_2 : decode prog_6_method_12_code 2 = .ok (.iconst (-1), 1) := by decide +kernel
theorem d_Y_tagged_3 : decode prog_6_method_12_code 3 = .ok (.ixor, 1) := by decide +kernel
theorem d_Y_tagged_4 : decode prog_6_method_12_code 4 = .ok (.iand, 1) := by decide +kernel
theorem d_Y_tagged_5 : decode prog_6_method_12_code 5 = .ok (.iload_n 2, 1) := by decide +kernel
theorem d_Y_tagged_6 : decode prog_6_method_12_code 6 = .ok (.iload_n 1, 1) := by decide +kernel
theorem d_Y_tagged_7 : decode prog_6_method_12_code 7 = .ok (.iand, 1) := by decide +kernel
theorem d_Y_tagged_8 : decode prog_6_method_12_code 8 = .ok (.ior, 1) := by decide +kernel
theorem d_Y_tagged_9 : decode prog_6_method_12_code 9 = .ok (.ireturn, 1) := by decide +kernel
theorem d_Y_withinTagged_0 : decode prog_6_method_7_code 0 = .ok (.aload_n 0, 1) := by decide +kernel
theorem d_Y_withinTagged_1 : decode prog_6_method_7_code 1 = .ok (.iload_n 1, 1) := by decide +kernel
theorem d_Y_withinTagged_2 : decode prog_6_method_7_code 2 = .ok (.invokestatic 46, 3) := by decide +kernel
theorem d_Y_withinTagged_5 : decode prog_6_method_7_code 5 = .ok (.istore 5, 2) := by decide +kernel
theorem d_Y_withinTagged_7 : decode prog_6_method_7_code 7 = .ok (.aload_n 0, 1) := by decide +kernel
theorem d_Y_withinTagged_8 : decode prog_6_method_7_code 8 = .ok (.iload_n 1, 1) := by decide +kernel
theorem d_Y_withinTagged_9 : decode prog_6_method_7_code 9 = .ok (.iload_n 2, 1) := by decide +kernel
theorem d_Y_withinTagged_10 : decode prog_6_method_7_code 10 = .ok (.iadd, 1) := by decide +kernel
theorem d_Y_withinTagged_11 : decode prog_6_method_7_code 11 = .ok (.iconst 1, 1) := by decide +kernel
theorem d_Y_withinTagged_12 : decode prog_6_method_7_code 12 = .ok (.isub, 1) := by decide +kernel
theorem d_Y_withinTagged_13 : decode prog_6_method_7_code 13 = .ok (.invokestatic 46, 3) := by decide +kernel
theorem d_Y_withinTagged_16 : decode prog_6_method_7_code 16 = .ok (.istore 6, 2) := by decide +kernel
theorem d_Y_withinTagged_18 : decode prog_6_method_7_code 18 = .ok (.iconst 1, 1) := by decide +kernel
theorem d_Y_withinTagged_19 : decode prog_6_method_7_code 19 = .ok (.istore 7, 2) := by decide +kernel
theorem d_Y_withinTagged_21 : decode prog_6_method_7_code 21 = .ok (.aload_n 0, 1) := by decide +kernel
theorem d_Y_withinTagged_22 : decode prog_6_method_7_code 22 = .ok (.iload 5, 2) := by decide +kernel
theorem d_Y_withinTagged_24 : decode prog_6_method_7_code 24 = .ok (.invokestatic 49, 3) := by decide +kernel
theorem d_Y_withinTagged_27 : decode prog_6_method_7_code 27 = .ok (.astore 8, 2) := by decide +kernel
theorem d_Y_withinTagged_29 : decode prog_6_method_7_code 29 = .ok (.iload 5, 2) := by decide +kernel
theorem d_Y_withinTagged_31 : decode prog_6_method_7_code 31 = .ok (.iconst 1, 1) := by decide +kernel
theorem d_Y_withinTagged_32 : decode prog_6_method_7_code 32 = .ok (.iadd, 1) := by decide +kernel
theorem d_Y_withinTagged_33 : decode prog_6_method_7_code 33 = .ok (.istore 9, 2) := by decide +kernel
theorem d_Y_withinTagged_35 : decode prog_6_method_7_code 35 = .ok (.iload 9, 2) := by decide +kernel
theorem d_Y_withinTagged_37 : decode prog_6_method_7_code 37 = .ok (.iload 6, 2) := by decide +kernel
theorem d_Y_withinTagged_39 : decode prog_6_method_7_code 39 = .ok (.if_icmp .gt 78, 3) := by decide +kernel
theorem d_Y_withinTagged_117 : decode prog_6_method_7_code 117 = .ok (.iload 7, 2) := by decide +kernel
theorem d_Y_withinTagged_119 : decode prog_6_method_7_code 119 = .ok (.ireturn, 1) := by decide +kernel
theorem d_Y_withinTagged_42 : decode prog_6_method_7_code 42 = .ok (.aload_n 0, 1) := by decide +kernel
theorem d_Y_withinTagged_43 : decode prog_6_method_7_code 43 = .ok (.iload 9, 2) := by decide +kernel
theorem d_Y_withinTagged_45 : decode prog_6_method_7_code 45 = .ok (.invokestatic 49, 3) := by decide +kernel
theorem d_Y_withinTagged_48 : decode prog_6_method_7_code 48 = .ok (.astore 10, 2) := by decide +kernel
theorem d_Y_withinTagged_50 : decode prog_6_method_7_code 50 = .ok (.aload 8, 2) := by decide +kernel
theorem d_Y_withinTagged_52 : decode prog_6_method_7_code 52 = .ok (.ifnull 52, 3) := by decide +kernel
theorem d_Y_withinTagged_55 : decode prog_6_method_7_code 55 = .ok (.aload 10, 2) := by decide +kernel
theorem d_Y_withinTagged_57 : decode prog_6_method_7_code 57 = .ok (.ifnull 47, 3) := by decide +kernel
theorem d_Y_withinTagged_60 : decode prog_6_method_7_code 60 = .ok (.aload 8, 2) := by decide +kernel
theorem d_Y_withinTagged_62 : decode prog_6_method_7_code 62 = .ok (.getfield 53, 3) := by decide +kernel
theorem d_Y_withinTagged_65 : decode prog_6_method_7_code 65 = .ok (.aload 8, 2) := by decide +kernel
theorem d_Y_withinTagged_67 : decode prog_6_method_7_code 67 = .ok (.getfield 59, 3) := by decide +kernel
theorem d_Y_withinTagged_70 : decode prog_6_method_7_code 70 = .ok (.iadd, 1) := by decide +kernel
theorem d_Y_withinTagged_71 : decode prog_6_method_7_code 71 = .ok (.aload 10, 2) := by decide +kernel
theorem d_Y_withinTagged_73 : decode prog_6_method_7_code 73 = .ok (.getfield 53, 3) := by decide +kernel
theorem d_Y_withinTagged_76 : decode prog_6_method_7_code 76 = .ok (.if_icmp .ne 28, 3) := by decide +kernel
theorem d_Y_withinTagged_79 : decode prog_6_method_7_code 79 = .ok (.aload 8, 2) := by decide +kernel
theorem d_Y_withinTagged_81 : decode prog_6_method_7_code 81 = .ok (.getfield 62, 3) := by decide +kernel
theorem d_Y_withinTagged_84 : decode prog_6_method_7_code 84 = .ok (.iload_n 3, 1) := by decide +kernel
theorem d_Y_withinTagged_85 : decode prog_6_method_7_code 85 = .ok (.iload 4, 2) := by decide +kernel
theorem d_Y_withinTagged_87 : decode prog_6_method_7_code 87 = .ok (.invokestatic 38, 3) := by decide +kernel
theorem d_Y_withinTagged_90 : decode prog_6_method_7_code 90 = .ok (.aload 10, 2) := by decide +kernel
theorem d_Y_withinTagged_92 : decode prog_6_method_7_code 92 = .ok (.getfield 62, 3) := by decide +kernel
theorem d_Y_withinTagged_95 : decode prog_6_method_7_code 95 = .ok (.iload_n 3, 1) := by decide +kernel
theorem d_Y_withinTagged_96 : decode prog_6_method_7_code 96 = .ok (.iload 4, 2) := by decide +kernel
theorem d_Y_withinTagged_98 : decode prog_6_method_7_code 98 = .ok (.invokestatic 38, 3) := by decide +kernel
theorem d_Y_withinTagged_101 : decode prog_6_method_7_code 101 = .ok (.if_icmp .eq 6, 3) := by decide +kernel
theorem d_Y_withinTagged_104 : decode prog_6_method_7_code 104 = .ok (.iinc 7 1, 3) := by decide +kernel
theorem d_Y_withinTagged_107 : decode prog_6_method_7_code 107 = .ok (.aload 10, 2) := by decide +kernel
theorem d_Y_withinTagged_109 : decode prog_6_method_7_code 109 = .ok (.astore 8, 2) := by decide +kernel
theorem d_Y_withinTagged_111 : decode prog_6_method_7_code 111 = .ok (.iinc 9 1, 3) := by decide +kernel
theorem d_Y_withinTagged_114 : decode prog_6_method_7_code 114 = .ok (.goto (-79), 3) := by decide +kernel
theorem d_Y_afterTag_0 : decode prog_6_method_5_code 0 = .ok (.iload_n 2, 1) := by decide +kernel
theorem d_Y_afterTag_1 : decode prog_6_method_5_code 1 = .ok (.iconst 1, 1) := by decide +kernel
theorem d_Y_afterTag_2 : decode prog_6_method_5_code 2 = .ok (.if_icmp .ge 8, 3) := by decide +kernel
theorem d_Y_afterTag_10 : decode prog_6_method_5_code 10 = .ok (.iload_n 1, 1) := by decide +kernel
theorem d_Y_afterTag_11 : decode prog_6_method_5_code 11 = .ok (.iload_n 2, 1) := by decide +kernel
theorem d_Y_afterTag_12 : decode prog_6_method_5_code 12 = .ok (.iadd, 1) := by decide +kernel
theorem d_Y_afterTag_13 : decode prog_6_method_5_code 13 = .ok (.iconst 1, 1) := by decide +kernel
theorem d_Y_afterTag_14 : decode prog_6_method_5_code 14 = .ok (.isub, 1) := by decide +kernel
theorem d_Y_afterTag_15 : decode prog_6_method_5_code 15 = .ok (.istore 5, 2) := by decide +kernel
theorem d_Y_afterTag_17 : decode prog_6_method_5_code 17 = .ok (.aload_n 0, 1) := by decide +kernel
theorem d_Y_afterTag_18 : decode prog_6_method_5_code 18 = .ok (.iload_n 1, 1) := by decide +kernel
theorem d_Y_afterTag_19 : decode prog_6_method_5_code 19 = .ok (.invokestatic 32, 3) := by decide +kernel
theorem d_Y_afterTag_22 : decode prog_6_method_5_code 22 = .ok (.iload_n 3, 1) := by decide +kernel
theorem d_Y_afterTag_23 : decode prog_6_method_5_code 23 = .ok (.iload 4, 2) := by decide +kernel
theorem d_Y_afterTag_25 : decode prog_6_method_5_code 25 = .ok (.invokestatic 38, 3) := by decide +kernel
theorem d_Y_afterTag_28 : decode prog_6_method_5_code 28 = .ok (.istore 6, 2) := by decide +kernel
theorem d_Y_afterTag_30 : decode prog_6_method_5_code 30 = .ok (.aload_n 0, 1) := by decide +kernel
theorem d_Y_afterTag_31 : decode prog_6_method_5_code 31 = .ok (.iload 5, 2) := by decide +kernel
theorem d_Y_afterTag_33 : decode prog_6_method_5_code 33 = .ok (.invokestatic 32, 3) := by decide +kernel
theorem d_Y_afterTag_36 : decode prog_6_method_5_code 36 = .ok (.iload_n 3, 1) := by decide +kernel
theorem d_Y_afterTag_37 : decode prog_6_method_5_code 37 = .ok (.iload 4, 2) := by decide +kernel
theorem d_Y_afterTag_39 : decode prog_6_method_5_code 39 = .ok (.invokestatic 38, 3) := by decide +kernel
theorem d_Y_afterTag_42 : decode prog_6_method_5_code 42 = .ok (.istore 7, 2) := by decide +kernel
theorem d_Y_afterTag_44 : decode prog_6_method_5_code 44 = .ok (.aload_n 0, 1) := by decide +kernel
theorem d_Y_afterTag_45 : decode prog_6_method_5_code 45 = .ok (.iload_n 1, 1) := by decide +kernel
theorem d_Y_afterTag_46 : decode prog_6_method_5_code 46 = .ok (.invokestatic 7, 3) := by decide +kernel
theorem d_Y_afterTag_49 : decode prog_6_method_5_code 49 = .ok (.aload_n 0, 1) := by decide +kernel
theorem d_Y_afterTag_50 : decode prog_6_method_5_code 50 = .ok (.iload_n 1, 1) := by decide +kernel
theorem d_Y_afterTag_51 : decode prog_6_method_5_code 51 = .ok (.iload_n 2, 1) := by decide +kernel
theorem d_Y_afterTag_52 : decode prog_6_method_5_code 52 = .ok (.iload_n 3, 1) := by decide +kernel
theorem d_Y_afterTag_53 : decode prog_6_method_5_code 53 = .ok (.iload 4, 2) := by decide +kernel
theorem d_Y_afterTag_55 : decode prog_6_method_5_code 55 = .ok (.invokestatic 42, 3) := by decide +kernel
theorem d_Y_afterTag_58 : decode prog_6_method_5_code 58 = .ok (.iadd, 1) := by decide +kernel
theorem d_Y_afterTag_59 : decode prog_6_method_5_code 59 = .ok (.aload_n 0, 1) := by decide +kernel
theorem d_Y_afterTag_60 : decode prog_6_method_5_code 60 = .ok (.iload_n 1, 1) := by decide +kernel
theorem d_Y_afterTag_61 : decode prog_6_method_5_code 61 = .ok (.iload_n 2, 1) := by decide +kernel
theorem d_Y_afterTag_62 : decode prog_6_method_5_code 62 = .ok (.iadd, 1) := by decide +kernel
theorem d_Y_afterTag_63 : decode prog_6_method_5_code 63 = .ok (.invokestatic 13, 3) := by decide +kernel
theorem d_Y_afterTag_66 : decode prog_6_method_5_code 66 = .ok (.iadd, 1) := by decide +kernel
theorem d_Y_afterTag_67 : decode prog_6_method_5_code 67 = .ok (.aload_n 0, 1) := by decide +kernel
theorem d_Y_afterTag_68 : decode prog_6_method_5_code 68 = .ok (.iload_n 1, 1) := by decide +kernel
theorem d_Y_afterTag_69 : decode prog_6_method_5_code 69 = .ok (.aload_n 0, 1) := by decide +kernel
theorem d_Y_afterTag_70 : decode prog_6_method_5_code 70 = .ok (.iload_n 1, 1) := by decide +kernel
theorem d_Y_afterTag_71 : decode prog_6_method_5_code 71 = .ok (.invokestatic 29, 3) := by decide +kernel
theorem d_Y_afterTag_74 : decode prog_6_method_5_code 74 = .ok (.iload 6, 2) := by decide +kernel
theorem d_Y_afterTag_76 : decode prog_6_method_5_code 76 = .ok (.invokestatic 16, 3) := by decide +kernel
theorem d_Y_afterTag_79 : decode prog_6_method_5_code 79 = .ok (.isub, 1) := by decide +kernel
theorem d_Y_afterTag_80 : decode prog_6_method_5_code 80 = .ok (.aload_n 0, 1) := by decide +kernel
theorem d_Y_afterTag_81 : decode prog_6_method_5_code 81 = .ok (.iload_n 1, 1) := by decide +kernel
theorem d_Y_afterTag_82 : decode prog_6_method_5_code 82 = .ok (.iload_n 2, 1) := by decide +kernel
theorem d_Y_afterTag_83 : decode prog_6_method_5_code 83 = .ok (.iadd, 1) := by decide +kernel
theorem d_Y_afterTag_84 : decode prog_6_method_5_code 84 = .ok (.aload_n 0, 1) := by decide +kernel
theorem d_Y_afterTag_85 : decode prog_6_method_5_code 85 = .ok (.iload 5, 2) := by decide +kernel
theorem d_Y_afterTag_87 : decode prog_6_method_5_code 87 = .ok (.invokestatic 29, 3) := by decide +kernel
theorem d_Y_afterTag_90 : decode prog_6_method_5_code 90 = .ok (.iload 7, 2) := by decide +kernel
theorem d_Y_afterTag_92 : decode prog_6_method_5_code 92 = .ok (.invokestatic 20, 3) := by decide +kernel
theorem d_Y_afterTag_95 : decode prog_6_method_5_code 95 = .ok (.isub, 1) := by decide +kernel
theorem d_Y_afterTag_96 : decode prog_6_method_5_code 96 = .ok (.ireturn, 1) := by decide +kernel
theorem d_Y_afterTag_5 : decode prog_6_method_5_code 5 = .ok (.aload_n 0, 1) := by decide +kernel
theorem d_Y_afterTag_6 : decode prog_6_method_5_code 6 = .ok (.invokestatic 35, 3) := by decide +kernel
theorem d_Y_afterTag_9 : decode prog_6_method_5_code 9 = .ok (.ireturn, 1) := by decide +kernel
theorem d_T_retag_0 : decode prog_7_method_9_code 0 = .ok (.aload_n 1, 1) := by decide +kernel
theorem d_T_retag_1 : decode prog_7_method_9_code 1 = .ok (.ifnull 9, 3) := by decide +kernel
theorem d_T_retag_4 : decode prog_7_method_9_code 4 = .ok (.iload 4, 2) := by decide +kernel
theorem d_T_retag_6 : decode prog_7_method_9_code 6 = .ok (.iconst 1, 1) := by decide +kernel
theorem d_T_retag_7 : decode prog_7_method_9_code 7 = .ok (.if_icmp .ge 5, 3) := by decide +kernel
theorem d_T_retag_12 : decode prog_7_method_9_code 12 = .ok (.aload_n 0, 1) := by decide +kernel
theorem d_T_retag_13 : decode prog_7_method_9_code 13 = .ok (.aload_n 1, 1) := by decide +kernel
theorem d_T_retag_14 : decode prog_7_method_9_code 14 = .ok (.getfield 35, 3) := by decide +kernel
theorem d_T_retag_17 : decode prog_7_method_9_code 17 = .ok (.iload_n 2, 1) := by decide +kernel
theorem d_T_retag_18 : decode prog_7_method_9_code 18 = .ok (.iload_n 3, 1) := by decide +kernel
theorem d_T_retag_19 : decode prog_7_method_9_code 19 = .ok (.iload 4, 2) := by decide +kernel
theorem d_T_retag_21 : decode prog_7_method_9_code 21 = .ok (.iconst 1, 1) := by decide +kernel
theorem d_T_retag_22 : decode prog_7_method_9_code 22 = .ok (.isub, 1) := by decide +kernel
theorem d_T_retag_23 : decode prog_7_method_9_code 23 = .ok (.invokevirtual 95, 3) := by decide +kernel
theorem d_T_retag_26 : decode prog_7_method_9_code 26 = .ok (.astore 5, 2) := by decide +kernel
theorem d_T_retag_28 : decode prog_7_method_9_code 28 = .ok (.aload_n 0, 1) := by decide +kernel
theorem d_T_retag_29 : decode prog_7_method_9_code 29 = .ok (.aload_n 1, 1) := by decide +kernel
theorem d_T_retag_30 : decode prog_7_method_9_code 30 = .ok (.getfield 18, 3) := by decide +kernel
theorem d_T_retag_33 : decode prog_7_method_9_code 33 = .ok (.iload_n 2, 1) := by decide +kernel
theorem d_T_retag_34 : decode prog_7_method_9_code 34 = .ok (.iload_n 3, 1) := by decide +kernel
theorem d_T_retag_35 : decode prog_7_method_9_code 35 = .ok (.iload 4, 2) := by decide +kernel
theorem d_T_retag_37 : decode prog_7_method_9_code 37 = .ok (.iconst 1, 1) := by decide +kernel
theorem d_T_retag_38 : decode prog_7_method_9_code 38 = .ok (.isub, 1) := by decide +kernel
theorem d_T_retag_39 : decode prog_7_method_9_code 39 = .ok (.invokevirtual 95, 3) := by decide +kernel
theorem d_T_retag_42 : decode prog_7_method_9_code 42 = .ok (.astore 6, 2) := by decide +kernel
theorem d_T_retag_44 : decode prog_7_method_9_code 44 = .ok (.aload_n 1, 1) := by decide +kernel
theorem d_T_retag_45 : decode prog_7_method_9_code 45 = .ok (.aload_n 1, 1) := by decide +kernel
theorem d_T_retag_46 : decode prog_7_method_9_code 46 = .ok (.getfield 28, 3) := by decide +kernel
theorem d_T_retag_49 : decode prog_7_method_9_code 49 = .ok (.iload_n 2, 1) := by decide +kernel
theorem d_T_retag_50 : decode prog_7_method_9_code 50 = .ok (.iload_n 3, 1) := by decide +kernel
theorem d_T_retag_51 : decode prog_7_method_9_code 51 = .ok (.invokestatic 98, 3) := by decide +kernel
theorem d_T_retag_54 : decode prog_7_method_9_code 54 = .ok (.putfield 28, 3) := by decide +kernel
theorem d_T_retag_57 : decode prog_7_method_9_code 57 = .ok (.aload_n 0, 1) := by decide +kernel
theorem d_T_retag_58 : decode prog_7_method_9_code 58 = .ok (.aload_n 0, 1) := by decide +kernel
theorem d_T_retag_59 : decode prog_7_method_9_code 59 = .ok (.aload 5, 2) := by decide +kernel
theorem d_T_retag_61 : decode prog_7_method_9_code 61 = .ok (.aload_n 1, 1) := by decide +kernel
theorem d_T_retag_62 : decode prog_7_method_9_code 62 = .ok (.invokestatic 31, 3) := by decide +kernel
theorem d_T_retag_65 : decode prog_7_method_9_code 65 = .ok (.invokevirtual 104, 3) := by decide +kernel
theorem d_T_retag_68 : decode prog_7_method_9_code 68 = .ok (.aload 6, 2) := by decide +kernel
theorem d_T_retag_70 : decode prog_7_method_9_code 70 = .ok (.invokevirtual 104, 3) := by decide +kernel
theorem d_T_retag_73 : decode prog_7_method_9_code 73 = .ok (.areturn, 1) := by decide +kernel
theorem d_T_retag_10 : decode prog_7_method_9_code 10 = .ok (.aload_n 1, 1) := by decide +kernel
theorem d_T_retag_11 : decode prog_7_method_9_code 11 = .ok (.areturn, 1) := by decide +kernel
theorem d_P_tag_0 : decode prog_1_method_7_code 0 = .ok (.aload_n 0, 1) := by decide +kernel
theorem d_P_tag_1 : decode prog_1_method_7_code 1 = .ok (.iload_n 1, 1) := by decide +kernel
theorem d_P_tag_2 : decode prog_1_method_7_code 2 = .ok (.iload_n 2, 1) := by decide +kernel
theorem d_P_tag_3 : decode prog_1_method_7_code 3 = .ok (.iload_n 3, 1) := by decide +kernel
theorem d_P_tag_4 : decode prog_1_method_7_code 4 = .ok (.invokevirtual 103, 3) := by decide +kernel
theorem d_P_tag_7 : decode prog_1_method_7_code 7 = .ok (.aload_n 0, 1) := by decide +kernel
theorem d_P_tag_8 : decode prog_1_method_7_code 8 = .ok (.iload_n 1, 1) := by decide +kernel
theorem d_P_tag_9 : decode prog_1_method_7_code 9 = .ok (.invokevirtual 59, 3) := by decide +kernel
theorem d_P_tag_12 : decode prog_1_method_7_code 12 = .ok (.astore 6, 2) := by decide +kernel
theorem d_P_tag_14 : decode prog_1_method_7_code 14 = .ok (.aload_n 0, 1) := by decide +kernel
theorem d_P_tag_15 : decode prog_1_method_7_code 15 = .ok (.iconst 0, 1) := by decide +kernel
theorem d_P_tag_16 : decode prog_1_method_7_code 16 = .ok (.aload 6, 2) := by decide +kernel
theorem d_P_tag_18 : decode prog_1_method_7_code 18 = .ok (.iload_n 2, 1) := by decide +kernel
theorem d_P_tag_19 : decode prog_1_method_7_code 19 = .ok (.iload_n 3, 1) := by decide +kernel
theorem d_P_tag_20 : decode prog_1_method_7_code 20 = .ok (.iload 4, 2) := by decide +kernel
theorem d_P_tag_22 : decode prog_1_method_7_code 22 = .ok (.iload 5, 2) := by decide +kernel
theorem d_P_tag_24 : decode prog_1_method_7_code 24 = .ok (.invokestatic 131, 3) := by decide +kernel
theorem d_P_tag_27 : decode prog_1_method_7_code 27 = .ok (.aload 6, 2) := by decide +kernel
theorem d_P_tag_29 : decode prog_1_method_7_code 29 = .ok (.invokestatic 69, 3) := by decide +kernel
theorem d_P_tag_32 : decode prog_1_method_7_code 32 = .ok (.isub, 1) := by decide +kernel
theorem d_P_tag_33 : decode prog_1_method_7_code 33 = .ok (.invokevirtual 75, 3) := by decide +kernel
theorem d_P_tag_36 : decode prog_1_method_7_code 36 = .ok (.aload_n 0, 1) := by decide +kernel
theorem d_P_tag_37 : decode prog_1_method_7_code 37 = .ok (.getfield 22, 3) := by decide +kernel
theorem d_P_tag_40 : decode prog_1_method_7_code 40 = .ok (.aload 6, 2) := by decide +kernel
theorem d_P_tag_42 : decode prog_1_method_7_code 42 = .ok (.iload_n 2, 1) := by decide +kernel
theorem d_P_tag_43 : decode prog_1_method_7_code 43 = .ok (.invokevirtual 78, 3) := by decide +kernel
theorem d_P_tag_46 : decode prog_1_method_7_code 46 = .ok (.astore 7, 2) := by decide +kernel
theorem d_P_tag_48 : decode prog_1_method_7_code 48 = .ok (.aload_n 0, 1) := by decide +kernel
theorem d_P_tag_49 : decode prog_1_method_7_code 49 = .ok (.getfield 22, 3) := by decide +kernel
theorem d_P_tag_52 : decode prog_1_method_7_code 52 = .ok (.aload 7, 2) := by decide +kernel
theorem d_P_tag_54 : decode prog_1_method_7_code 54 = .ok (.getfield 96, 3) := by decide +kernel
theorem d_P_tag_57 : decode prog_1_method_7_code 57 = .ok (.iload_n 3, 1) := by decide +kernel
theorem d_P_tag_58 : decode prog_1_method_7_code 58 = .ok (.invokevirtual 78, 3) := by decide +kernel
theorem d_P_tag_61 : decode prog_1_method_7_code 61 = .ok (.astore 8, 2) := by decide +kernel
theorem d_P_tag_63 : decode prog_1_method_7_code 63 = .ok (.aload_n 0, 1) := by decide +kernel
theorem d_P_tag_64 : decode prog_1_method_7_code 64 = .ok (.getfield 22, 3) := by decide +kernel
theorem d_P_tag_67 : decode prog_1_method_7_code 67 = .ok (.aload 8, 2) := by decide +kernel
theorem d_P_tag_69 : decode prog_1_method_7_code 69 = .ok (.getfield 86, 3) := by decide +kernel
theorem d_P_tag_72 : decode prog_1_method_7_code 72 = .ok (.iload 4, 2) := by decide +kernel
theorem d_P_tag_74 : decode prog_1_method_7_code 74 = .ok (.iload 5, 2) := by decide +kernel
theorem d_P_tag_76 : decode prog_1_method_7_code 76 = .ok (.bipush 40, 2) := by decide +kernel
theorem d_P_tag_78 : decode prog_1_method_7_code 78 = .ok (.invokevirtual 134, 3) := by decide +kernel
theorem d_P_tag_81 : decode prog_1_method_7_code 81 = .ok (.astore 9, 2) := by decide +kernel
theorem d_P_tag_83 : decode prog_1_method_7_code 83 = .ok (.aload_n 0, 1) := by decide +kernel
theorem d_P_tag_84 : decode prog_1_method_7_code 84 = .ok (.iload_n 1, 1) := by decide +kernel
theorem d_P_tag_85 : decode prog_1_method_7_code 85 = .ok (.aload_n 0, 1) := by decide +kernel
theorem d_P_tag_86 : decode prog_1_method_7_code 86 = .ok (.getfield 22, 3) := by decide +kernel
theorem d_P_tag_89 : decode prog_1_method_7_code 89 = .ok (.aload_n 0, 1) := by decide +kernel
theorem d_P_tag_90 : decode prog_1_method_7_code 90 = .ok (.getfield 22, 3) := by decide +kernel
theorem d_P_tag_93 : decode prog_1_method_7_code 93 = .ok (.aload 7, 2) := by decide +kernel
theorem d_P_tag_95 : decode prog_1_method_7_code 95 = .ok (.getfield 86, 3) := by decide +kernel
theorem d_P_tag_98 : decode prog_1_method_7_code 98 = .ok (.aload 9, 2) := by decide +kernel
theorem d_P_tag_100 : decode prog_1_method_7_code 100 = .ok (.invokevirtual 92, 3) := by decide +kernel
theorem d_P_tag_103 : decode prog_1_method_7_code 103 = .ok (.aload 8, 2) := by decide +kernel
theorem d_P_tag_105 : decode prog_1_method_7_code 105 = .ok (.getfield 96, 3) := by decide +kernel
theorem d_P_tag_108 : decode prog_1_method_7_code 108 = .ok (.invokevirtual 92, 3) := by decide +kernel
theorem d_P_tag_111 : decode prog_1_method_7_code 111 = .ok (.invokevirtual 99, 3) := by decide +kernel
theorem d_P_tag_114 : decode prog_1_method_7_code 114 = .ok (.pop, 1) := by decide +kernel
theorem d_P_tag_115 : decode prog_1_method_7_code 115 = .ok (.aload_n 0, 1) := by decide +kernel
theorem d_P_tag_116 : decode prog_1_method_7_code 116 = .ok (.iload_n 1, 1) := by decide +kernel
theorem d_P_tag_117 : decode prog_1_method_7_code 117 = .ok (.invokevirtual 59, 3) := by decide +kernel
theorem d_P_tag_120 : decode prog_1_method_7_code 120 = .ok (.invokestatic 69, 3) := by decide +kernel
theorem d_P_tag_123 : decode prog_1_method_7_code 123 = .ok (.ireturn, 1) := by decide +kernel
theorem d_T_giveBackAll_0 : decode prog_7_method_4_code 0 = .ok (.aload_n 1, 1) := by decide +kernel
theorem d_T_giveBackAll_1 : decode prog_7_method_4_code 1 = .ok (.ifnull 8, 3) := by decide +kernel
theorem d_T_giveBackAll_4 : decode prog_7_method_4_code 4 = .ok (.iload_n 2, 1) := by decide +kernel
theorem d_T_giveBackAll_5 : decode prog_7_method_4_code 5 = .ok (.iconst 1, 1) := by decide +kernel
theorem d_T_giveBackAll_6 : decode prog_7_method_4_code 6 = .ok (.if_icmp .ge 4, 3) := by decide +kernel
theorem d_T_giveBackAll_10 : decode prog_7_method_4_code 10 = .ok (.aload_n 0, 1) := by decide +kernel
theorem d_T_giveBackAll_11 : decode prog_7_method_4_code 11 = .ok (.aload_n 1, 1) := by decide +kernel
theorem d_T_giveBackAll_12 : decode prog_7_method_4_code 12 = .ok (.getfield 35, 3) := by decide +kernel
theorem d_T_giveBackAll_15 : decode prog_7_method_4_code 15 = .ok (.iload_n 2, 1) := by decide +kernel
theorem d_T_giveBackAll_16 : decode prog_7_method_4_code 16 = .ok (.iconst 1, 1) := by decide +kernel
theorem d_T_giveBackAll_17 : decode prog_7_method_4_code 17 = .ok (.isub, 1) := by decide +kernel
theorem d_T_giveBackAll_18 : decode prog_7_method_4_code 18 = .ok (.invokevirtual 38, 3) := by decide +kernel
theorem d_T_giveBackAll_21 : decode prog_7_method_4_code 21 = .ok (.aload_n 0, 1) := by decide +kernel
theorem d_T_giveBackAll_22 : decode prog_7_method_4_code 22 = .ok (.aload_n 1, 1) := by decide +kernel
theorem d_T_giveBackAll_23 : decode prog_7_method_4_code 23 = .ok (.getfield 18, 3) := by decide +kernel
theorem d_T_giveBackAll_26 : decode prog_7_method_4_code 26 = .ok (.iload_n 2, 1) := by decide +kernel
theorem d_T_giveBackAll_27 : decode prog_7_method_4_code 27 = .ok (.iconst 1, 1) := by decide +kernel
theorem d_T_giveBackAll_28 : decode prog_7_method_4_code 28 = .ok (.isub, 1) := by decide +kernel
theorem d_T_giveBackAll_29 : decode prog_7_method_4_code 29 = .ok (.invokevirtual 38, 3) := by decide +kernel
theorem d_T_giveBackAll_32 : decode prog_7_method_4_code 32 = .ok (.aload_n 0, 1) := by decide +kernel
theorem d_T_giveBackAll_33 : decode prog_7_method_4_code 33 = .ok (.aload_n 1, 1) := by decide +kernel
theorem d_T_giveBackAll_34 : decode prog_7_method_4_code 34 = .ok (.invokevirtual 42, 3) := by decide +kernel
theorem d_T_giveBackAll_37 : decode prog_7_method_4_code 37 = .ok (.return_, 1) := by decide +kernel
theorem d_T_giveBackAll_9 : decode prog_7_method_4_code 9 = .ok (.return_, 1) := by decide +kernel
theorem d_P_wipe_0 : decode prog_1_method_8_code 0 = .ok (.aload_n 0, 1) := by decide +kernel
theorem d_P_wipe_1 : decode prog_1_method_8_code 1 = .ok (.iload_n 1, 1) := by decide +kernel
theorem d_P_wipe_2 : decode prog_1_method_8_code 2 = .ok (.invokevirtual 107, 3) := by decide +kernel
theorem d_P_wipe_5 : decode prog_1_method_8_code 5 = .ok (.aload_n 0, 1) := by decide +kernel
theorem d_P_wipe_6 : decode prog_1_method_8_code 6 = .ok (.iload_n 1, 1) := by decide +kernel
theorem d_P_wipe_7 : decode prog_1_method_8_code 7 = .ok (.invokevirtual 59, 3) := by decide +kernel
theorem d_P_wipe_10 : decode prog_1_method_8_code 10 = .ok (.astore_n 2, 1) := by decide +kernel
theorem d_P_wipe_11 : decode prog_1_method_8_code 11 = .ok (.aload_n 2, 1) := by decide +kernel
theorem d_P_wipe_12 : decode prog_1_method_8_code 12 = .ok (.invokestatic 137, 3) := by decide +kernel
theorem d_P_wipe_15 : decode prog_1_method_8_code 15 = .ok (.istore_n 3, 1) := by decide +kernel
theorem d_P_wipe_16 : decode prog_1_method_8_code 16 = .ok (.aload_n 0, 1) := by decide +kernel
theorem d_P_wipe_17 : decode prog_1_method_8_code 17 = .ok (.iload_n 1, 1) := by decide +kernel
theorem d_P_wipe_18 : decode prog_1_method_8_code 18 = .ok (.aconst_null, 1) := by decide +kernel
theorem d_P_wipe_19 : decode prog_1_method_8_code 19 = .ok (.invokevirtual 99, 3) := by decide +kernel
theorem d_P_wipe_22 : decode prog_1_method_8_code 22 = .ok (.pop, 1) := by decide +kernel
theorem d_P_wipe_23 : decode prog_1_method_8_code 23 = .ok (.aload_n 0, 1) := by decide +kernel
theorem d_P_wipe_24 : decode prog_1_method_8_code 24 = .ok (.getfield 22, 3) := by decide +kernel
theorem d_P_wipe_27 : decode prog_1_method_8_code 27 = .ok (.aload_n 2, 1) := by decide +kernel
theorem d_P_wipe_28 : decode prog_1_method_8_code 28 = .ok (.bipush 40, 2) := by decide +kernel
theorem d_P_wipe_30 : decode prog_1_method_8_code 30 = .ok (.invokevirtual 140, 3) := by decide +kernel
theorem d_P_wipe_33 : decode prog_1_method_8_code 33 = .ok (.iload_n 3, 1) := by decide +kernel
theorem d_P_wipe_34 : decode prog_1_method_8_code 34 = .ok (.ireturn, 1) := by decide +kernel
theorem d_P_length_0 : decode prog_1_method_9_code 0 = .ok (.aload_n 0, 1) := by decide +kernel
theorem d_P_length_1 : decode prog_1_method_9_code 1 = .ok (.iload_n 1, 1) := by decide +kernel
theorem d_P_length_2 : decode prog_1_method_9_code 2 = .ok (.invokevirtual 144, 3) := by decide +kernel
theorem d_P_length_5 : decode prog_1_method_9_code 5 = .ok (.ifCond .eq 14, 3) := by decide +kernel
theorem d_P_length_19 : decode prog_1_method_9_code 19 = .ok (.iconst (-1), 1) := by decide +kernel
theorem d_P_length_8 : decode prog_1_method_9_code 8 = .ok (.aload_n 0, 1) := by decide +kernel
theorem d_P_length_9 : decode prog_1_method_9_code 9 = .ok (.iload_n 1, 1) := by decide +kernel
theorem d_P_length_10 : decode prog_1_method_9_code 10 = .ok (.invokevirtual 59, 3) := by decide +kernel
theorem d_P_length_13 : decode prog_1_method_9_code 13 = .ok (.invokestatic 137, 3) := by decide +kernel
theorem d_P_length_16 : decode prog_1_method_9_code 16 = .ok (.goto 4, 3) := by decide +kernel
theorem d_P_length_20 : decode prog_1_method_9_code 20 = .ok (.ireturn, 1) := by decide +kernel
theorem d_P_byteAt_0 : decode prog_1_method_17_code 0 = .ok (.iload_n 1, 1) := by decide +kernel
theorem d_P_byteAt_1 : decode prog_1_method_17_code 1 = .ok (.ifCond .lt 20, 3) := by decide +kernel
theorem d_P_byteAt_4 : decode prog_1_method_17_code 4 = .ok (.iload_n 1, 1) := by decide +kernel
theorem d_P_byteAt_5 : decode prog_1_method_17_code 5 = .ok (.aload_n 0, 1) := by decide +kernel
theorem d_P_byteAt_6 : decode prog_1_method_17_code 6 = .ok (.getfield 37, 3) := by decide +kernel
theorem d_P_byteAt_9 : decode prog_1_method_17_code 9 = .ok (.if_icmp .ge 12, 3) := by decide +kernel
theorem d_P_byteAt_12 : decode prog_1_method_17_code 12 = .ok (.iload_n 1, 1) := by decide +kernel
theorem d_P_byteAt_13 : decode prog_1_method_17_code 13 = .ok (.aload_n 0, 1) := by decide +kernel
theorem d_P_byteAt_14 : decode prog_1_method_17_code 14 = .ok (.getfield 9, 3) := by decide +kernel
theorem d_P_byteAt_17 : decode prog_1_method_17_code 17 = .ok (.arraylength, 1) := by decide +kernel
theorem d_P_byteAt_18 : decode prog_1_method_17_code 18 = .ok (.if_icmp .lt 7, 3) := by decide +kernel
theorem d_P_byteAt_25 : decode prog_1_method_17_code 25 = .ok (.aload_n 0, 1) := by decide +kernel
theorem d_P_byteAt_26 : decode prog_1_method_17_code 26 = .ok (.getfield 9, 3) := by decide +kernel
theorem d_P_byteAt_29 : decode prog_1_method_17_code 29 = .ok (.iload_n 1, 1) := by decide +kernel
theorem d_P_byteAt_30 : decode prog_1_method_17_code 30 = .ok (.baload, 1) := by decide +kernel
theorem d_P_byteAt_31 : decode prog_1_method_17_code 31 = .ok (.sipush 255, 3) := by decide +kernel
theorem d_P_byteAt_34 : decode prog_1_method_17_code 34 = .ok (.iand, 1) := by decide +kernel
theorem d_P_byteAt_21 : decode prog_1_method_17_code 21 = .ok (.iconst 0, 1) := by decide +kernel
theorem d_P_byteAt_22 : decode prog_1_method_17_code 22 = .ok (.goto 13, 3) := by decide +kernel
theorem d_P_byteAt_35 : decode prog_1_method_17_code 35 = .ok (.ireturn, 1) := by decide +kernel
theorem d_P_look_0 : decode prog_1_method_10_code 0 = .ok (.aload_n 0, 1) := by decide +kernel
theorem d_P_look_1 : decode prog_1_method_10_code 1 = .ok (.iload_n 1, 1) := by decide +kernel
theorem d_P_look_2 : decode prog_1_method_10_code 2 = .ok (.invokevirtual 107, 3) := by decide +kernel
theorem d_P_look_5 : decode prog_1_method_10_code 5 = .ok (.aload_n 0, 1) := by decide +kernel
theorem d_P_look_6 : decode prog_1_method_10_code 6 = .ok (.iload_n 1, 1) := by decide +kernel
theorem d_P_look_7 : decode prog_1_method_10_code 7 = .ok (.invokevirtual 59, 3) := by decide +kernel
theorem d_P_look_10 : decode prog_1_method_10_code 10 = .ok (.astore 4, 2) := by decide +kernel
theorem d_P_look_12 : decode prog_1_method_10_code 12 = .ok (.iload_n 2, 1) := by decide +kernel
theorem d_P_look_13 : decode prog_1_method_10_code 13 = .ok (.ifCond .lt 12, 3) := by decide +kernel
theorem d_P_look_16 : decode prog_1_method_10_code 16 = .ok (.iload_n 2, 1) := by decide +kernel
theorem d_P_look_17 : decode prog_1_method_10_code 17 = .ok (.aload 4, 2) := by decide +kernel
theorem d_P_look_19 : decode prog_1_method_10_code 19 = .ok (.invokestatic 137, 3) := by decide +kernel
theorem d_P_look_22 : decode prog_1_method_10_code 22 = .ok (.if_icmp .lt 13, 3) := by decide +kernel
theorem d_P_look_35 : decode prog_1_method_10_code 35 = .ok (.iload_n 3, 1) := by decide +kernel
theorem d_P_look_36 : decode prog_1_method_10_code 36 = .ok (.tableswitch 64 0 3 #[32, 43, 50, 57], 32) := by decide +kernel
theorem d_P_look_68 : decode prog_1_method_10_code 68 = .ok (.aload_n 0, 1) := by decide +kernel
theorem d_P_look_69 : decode prog_1_method_10_code 69 = .ok (.aload 4, 2) := by decide +kernel
theorem d_P_look_71 : decode prog_1_method_10_code 71 = .ok (.iload_n 2, 1) := by decide +kernel
theorem d_P_look_72 : decode prog_1_method_10_code 72 = .ok (.invokestatic 150, 3) := by decide +kernel
theorem d_P_look_75 : decode prog_1_method_10_code 75 = .ok (.invokevirtual 154, 3) := by decide +kernel
theorem d_P_look_78 : decode prog_1_method_10_code 78 = .ok (.ireturn, 1) := by decide +kernel
theorem d_P_look_79 : decode prog_1_method_10_code 79 = .ok (.aload 4, 2) := by decide +kernel
theorem d_P_look_81 : decode prog_1_method_10_code 81 = .ok (.iload_n 2, 1) := by decide +kernel
theorem d_P_look_82 : decode prog_1_method_10_code 82 = .ok (.invokestatic 150, 3) := by decide +kernel
theorem d_P_look_85 : decode prog_1_method_10_code 85 = .ok (.ireturn, 1) := by decide +kernel
theorem d_P_look_86 : decode prog_1_method_10_code 86 = .ok (.aload 4, 2) := by decide +kernel
theorem d_P_look_88 : decode prog_1_method_10_code 88 = .ok (.iload_n 2, 1) := by decide +kernel
theorem d_P_look_89 : decode prog_1_method_10_code 89 = .ok (.invokestatic 158, 3) := by decide +kernel
theorem d_P_look_92 : decode prog_1_method_10_code 92 = .ok (.ireturn, 1) := by decide +kernel
theorem d_P_look_93 : decode prog_1_method_10_code 93 = .ok (.aload 4, 2) := by decide +kernel
theorem d_P_look_95 : decode prog_1_method_10_code 95 = .ok (.iload_n 2, 1) := by decide +kernel
theorem d_P_look_96 : decode prog_1_method_10_code 96 = .ok (.invokestatic 161, 3) := by decide +kernel
theorem d_P_look_99 : decode prog_1_method_10_code 99 = .ok (.ireturn, 1) := by decide +kernel
theorem d_P_look_100 : decode prog_1_method_10_code 100 = .ok (.new 30, 3) := by decide +kernel
theorem d_P_look_103 : decode prog_1_method_10_code 103 = .ok (.dup, 1) := by decide +kernel
theorem d_P_look_104 : decode prog_1_method_10_code 104 = .ok (.ldc 164, 2) := by decide +kernel
theorem d_P_look_106 : decode prog_1_method_10_code 106 = .ok (.invokespecial 34, 3) := by decide +kernel
theorem d_P_look_109 : decode prog_1_method_10_code 109 = .ok (.athrow, 1) := by decide +kernel
theorem d_P_look_25 : decode prog_1_method_10_code 25 = .ok (.new 54, 3) := by decide +kernel
theorem d_P_look_28 : decode prog_1_method_10_code 28 = .ok (.dup, 1) := by decide +kernel
theorem d_P_look_29 : decode prog_1_method_10_code 29 = .ok (.ldc 148, 2) := by decide +kernel
theorem d_P_look_31 : decode prog_1_method_10_code 31 = .ok (.invokespecial 58, 3) := by decide +kernel
theorem d_P_look_34 : decode prog_1_method_10_code 34 = .ok (.athrow, 1) := by decide +kernel
theorem d_P_piece_0 : decode prog_1_method_11_code 0 = .ok (.aload_n 0, 1) := by decide +kernel
theorem d_P_piece_1 : decode prog_1_method_11_code 1 = .ok (.iload_n 1, 1) := by decide +kernel
theorem d_P_piece_2 : decode prog_1_method_11_code 2 = .ok (.invokevirtual 107, 3) := by decide +kernel
theorem d_P_piece_5 : decode prog_1_method_11_code 5 = .ok (.aload_n 0, 1) := by decide +kernel
theorem d_P_piece_6 : decode prog_1_method_11_code 6 = .ok (.iload_n 1, 1) := by decide +kernel
theorem d_P_piece_7 : decode prog_1_method_11_code 7 = .ok (.invokevirtual 59, 3) := by decide +kernel
theorem d_P_piece_10 : decode prog_1_method_11_code 10 = .ok (.astore 4, 2) := by decide +kernel
theorem d_P_piece_12 : decode prog_1_method_11_code 12 = .ok (.aload 4, 2) := by decide +kernel
theorem d_P_piece_14 : decode prog_1_method_11_code 14 = .ok (.iload_n 2, 1) := by decide +kernel
theorem d_P_piece_15 : decode prog_1_method_11_code 15 = .ok (.invokestatic 166, 3) := by decide +kernel
theorem d_P_piece_18 : decode prog_1_method_11_code 18 = .ok (.astore 5, 2) := by decide +kernel
theorem d_P_piece_20 : decode prog_1_method_11_code 20 = .ok (.aload 5, 2) := by decide +kernel
theorem d_P_piece_22 : decode prog_1_method_11_code 22 = .ok (.ifnonnull 13, 3) := by decide +kernel
theorem d_P_piece_25 : decode prog_1_method_11_code 25 = .ok (.new 54, 3) := by decide +kernel
theorem d_P_piece_28 : decode prog_1_method_11_code 28 = .ok (.dup, 1) := by decide +kernel
theorem d_P_piece_29 : decode prog_1_method_11_code 29 = .ok (.ldc 170, 2) := by decide +kernel
theorem d_P_piece_31 : decode prog_1_method_11_code 31 = .ok (.invokespecial 58, 3) := by decide +kernel
theorem d_P_piece_34 : decode prog_1_method_11_code 34 = .ok (.athrow, 1) := by decide +kernel
theorem d_P_piece_35 : decode prog_1_method_11_code 35 = .ok (.iload_n 3, 1) := by decide +kernel
theorem d_P_piece_36 : decode prog_1_method_11_code 36 = .ok (.tableswitch 57 0 3 #[32, 39, 45, 51], 32) := by decide +kernel
theorem d_P_piece_68 : decode prog_1_method_11_code 68 = .ok (.aload 4, 2) := by decide +kernel
theorem d_P_piece_70 : decode prog_1_method_11_code 70 = .ok (.iload_n 2, 1) := by decide +kernel
theorem d_P_piece_71 : decode prog_1_method_11_code 71 = .ok (.invokestatic 172, 3) := by decide +kernel
theorem d_P_piece_74 : decode prog_1_method_11_code 74 = .ok (.ireturn, 1) := by decide +kernel
theorem d_P_piece_75 : decode prog_1_method_11_code 75 = .ok (.aload 5, 2) := by decide +kernel
theorem d_P_piece_77 : decode prog_1_method_11_code 77 = .ok (.getfield 175, 3) := by decide +kernel
theorem d_P_piece_80 : decode prog_1_method_11_code 80 = .ok (.ireturn, 1) := by decide +kernel
theorem d_P_piece_81 : decode prog_1_method_11_code 81 = .ok (.aload 5, 2) := by decide +kernel
theorem d_P_piece_83 : decode prog_1_method_11_code 83 = .ok (.getfield 178, 3) := by decide +kernel
theorem d_P_piece_86 : decode prog_1_method_11_code 86 = .ok (.ireturn, 1) := by decide +kernel
theorem d_P_piece_87 : decode prog_1_method_11_code 87 = .ok (.aload 5, 2) := by decide +kernel
theorem d_P_piece_89 : decode prog_1_method_11_code 89 = .ok (.getfield 181, 3) := by decide +kernel
theorem d_P_piece_92 : decode prog_1_method_11_code 92 = .ok (.ireturn, 1) := by decide +kernel
theorem d_P_piece_93 : decode prog_1_method_11_code 93 = .ok (.new 30, 3) := by decide +kernel
theorem d_P_piece_96 : decode prog_1_method_11_code 96 = .ok (.dup, 1) := by decide +kernel
theorem d_P_piece_97 : decode prog_1_method_11_code 97 = .ok (.ldc 184, 2) := by decide +kernel
theorem d_P_piece_99 : decode prog_1_method_11_code 99 = .ok (.invokespecial 34, 3) := by decide +kernel
theorem d_P_piece_102 : decode prog_1_method_11_code 102 = .ok (.athrow, 1) := by decide +kernel
theorem d_D_init_0 : decode prog_4_method_1_code 0 = .ok (.aload_n 0, 1) := by decide +kernel
theorem d_D_init_1 : decode prog_4_method_1_code 1 = .ok (.invokespecial 1, 3) := by decide +kernel
theorem d_D_init_4 : decode prog_4_method_1_code 4 = .ok (.aload_n 0, 1) := by decide +kernel
theorem d_D_init_5 : decode prog_4_method_1_code 5 = .ok (.aload_n 1, 1) := by decide +kernel
theorem d_D_init_6 : decode prog_4_method_1_code 6 = .ok (.putfield 7, 3) := by decide +kernel
theorem d_D_init_9 : decode prog_4_method_1_code 9 = .ok (.aload_n 0, 1) := by decide +kernel
theorem d_D_init_10 : decode prog_4_method_1_code 10 = .ok (.aload_n 1, 1) := by decide +kernel
theorem d_D_init_11 : decode prog_4_method_1_code 11 = .ok (.iload_n 2, 1) := by decide +kernel
theorem d_D_init_12 : decode prog_4_method_1_code 12 = .ok (.invokestatic 13, 3) := by decide +kernel
theorem d_D_init_15 : decode prog_4_method_1_code 15 = .ok (.putfield 19, 3) := by decide +kernel
theorem d_D_init_18 : decode prog_4_method_1_code 18 = .ok (.aload_n 0, 1) := by decide +kernel
theorem d_D_init_19 : decode prog_4_method_1_code 19 = .ok (.aload_n 1, 1) := by decide +kernel
theorem d_D_init_20 : decode prog_4_method_1_code 20 = .ok (.aload_n 0, 1) := by decide +kernel
theorem d_D_init_21 : decode prog_4_method_1_code 21 = .ok (.getfield 19, 3) := by decide +kernel
theorem d_D_init_24 : decode prog_4_method_1_code 24 = .ok (.invokestatic 23, 3) := by decide +kernel
theorem d_D_init_27 : decode prog_4_method_1_code 27 = .ok (.putfield 27, 3) := by decide +kernel
theorem d_D_init_30 : decode prog_4_method_1_code 30 = .ok (.aload_n 0, 1) := by decide +kernel
theorem d_D_init_31 : decode prog_4_method_1_code 31 = .ok (.iload_n 2, 1) := by decide +kernel
theorem d_D_init_32 : decode prog_4_method_1_code 32 = .ok (.aload_n 1, 1) := by decide +kernel
theorem d_D_init_33 : decode prog_4_method_1_code 33 = .ok (.aload_n 0, 1) := by decide +kernel
theorem d_D_init_34 : decode prog_4_method_1_code 34 = .ok (.getfield 19, 3) := by decide +kernel
theorem d_D_init_37 : decode prog_4_method_1_code 37 = .ok (.invokestatic 30, 3) := by decide +kernel
theorem d_D_init_40 : decode prog_4_method_1_code 40 = .ok (.isub, 1) := by decide +kernel
theorem d_D_init_41 : decode prog_4_method_1_code 41 = .ok (.putfield 33, 3) := by decide +kernel
theorem d_D_init_44 : decode prog_4_method_1_code 44 = .ok (.return_, 1) := by decide +kernel
theorem d_D_nextSource_0 : decode prog_4_method_2_code 0 = .ok (.aload_n 0, 1) := by decide +kernel
theorem d_D_nextSource_1 : decode prog_4_method_2_code 1 = .ok (.getfield 27, 3) := by decide +kernel
theorem d_D_nextSource_4 : decode prog_4_method_2_code 4 = .ok (.ifnonnull 5, 3) := by decide +kernel
theorem d_D_nextSource_7 : decode prog_4_method_2_code 7 = .ok (.iconst (-1), 1) := by decide +kernel
theorem d_D_nextSource_8 : decode prog_4_method_2_code 8 = .ok (.ireturn, 1) := by decide +kernel
theorem d_D_nextSource_9 : decode prog_4_method_2_code 9 = .ok (.aload_n 0, 1) := by decide +kernel
theorem d_D_nextSource_10 : decode prog_4_method_2_code 10 = .ok (.getfield 27, 3) := by decide +kernel
theorem d_D_nextSource_13 : decode prog_4_method_2_code 13 = .ok (.getfield 36, 3) := by decide +kernel
theorem d_D_nextSource_16 : decode prog_4_method_2_code 16 = .ok (.aload_n 0, 1) := by decide +kernel
theorem d_D_nextSource_17 : decode prog_4_method_2_code 17 = .ok (.getfield 33, 3) := by decide +kernel
theorem d_D_nextSource_20 : decode prog_4_method_2_code 20 = .ok (.iadd, 1) := by decide +kernel
theorem d_D_nextSource_21 : decode prog_4_method_2_code 21 = .ok (.istore_n 1, 1) := by decide +kernel
theorem d_D_nextSource_22 : decode prog_4_method_2_code 22 = .ok (.aload_n 0, 1) := by decide +kernel
theorem d_D_nextSource_23 : decode prog_4_method_2_code 23 = .ok (.dup, 1) := by decide +kernel
theorem d_D_nextSource_24 : decode prog_4_method_2_code 24 = .ok (.getfield 33, 3) := by decide +kernel
theorem d_D_nextSource_27 : decode prog_4_method_2_code 27 = .ok (.iconst 1, 1) := by decide +kernel
theorem d_D_nextSource_28 : decode prog_4_method_2_code 28 = .ok (.iadd, 1) := by decide +kernel
theorem d_D_nextSource_29 : decode prog_4_method_2_code 29 = .ok (.putfield 33, 3) := by decide +kernel
theorem d_D_nextSource_32 : decode prog_4_method_2_code 32 = .ok (.aload_n 0, 1) := by decide +kernel
theorem d_D_nextSource_33 : decode prog_4_method_2_code 33 = .ok (.getfield 33, 3) := by decide +kernel
theorem d_D_nextSource_36 : decode prog_4_method_2_code 36 = .ok (.aload_n 0, 1) := by decide +kernel
theorem d_D_nextSource_37 : decode prog_4_method_2_code 37 = .ok (.getfield 27, 3) := by decide +kernel
theorem d_D_nextSource_40 : decode prog_4_method_2_code 40 = .ok (.getfield 41, 3) := by decide +kernel
theorem d_D_nextSource_43 : decode prog_4_method_2_code 43 = .ok (.if_icmp .lt 33, 3) := by decide +kernel
theorem d_D_nextSource_46 : decode prog_4_method_2_code 46 = .ok (.aload_n 0, 1) := by decide +kernel
theorem d_D_nextSource_47 : decode prog_4_method_2_code 47 = .ok (.dup, 1) := by decide +kernel
theorem d_D_nextSource_48 : decode prog_4_method_2_code 48 = .ok (.getfield 19, 3) := by decide +kernel
theorem d_D_nextSource_51 : decode prog_4_method_2_code 51 = .ok (.iconst 1, 1) := by decide +kernel
theorem d_D_nextSource_52 : decode prog_4_method_2_code 52 = .ok (.iadd, 1) := by decide +kernel
theorem d_D_nextSource_53 : decode prog_4_method_2_code 53 = .ok (.putfield 19, 3) := by decide +kernel
theorem d_D_nextSource_56 : decode prog_4_method_2_code 56 = .ok (.aload_n 0, 1) := by decide +kernel
theorem d_D_nextSource_57 : decode prog_4_method_2_code 57 = .ok (.aload_n 0, 1) := by decide +kernel
theorem d_D_nextSource_58 : decode prog_4_method_2_code 58 = .ok (.getfield 7, 3) := by decide +kernel
theorem d_D_nextSource_61 : decode prog_4_method_2_code 61 = .ok (.aload_n 0, 1) := by decide +kernel
theorem d_D_nextSource_62 : decode prog_4_method_2_code 62 = .ok (.getfield 19, 3) := by decide +kernel
theorem d_D_nextSource_65 : decode prog_4_method_2_code 65 = .ok (.invokestatic 23, 3) := by decide +kernel
theorem d_D_nextSource_68 : decode prog_4_method_2_code 68 = .ok (.putfield 27, 3) := by decide +kernel
theorem d_D_nextSource_71 : decode prog_4_method_2_code 71 = .ok (.aload_n 0, 1) := by decide +kernel
theorem d_D_nextSource_72 : decode prog_4_method_2_code 72 = .ok (.iconst 0, 1) := by decide +kernel
theorem d_D_nextSource_73 : decode prog_4_method_2_code 73 = .ok (.putfield 33, 3) := by decide +kernel
theorem d_D_nextSource_76 : decode prog_4_method_2_code 76 = .ok (.iload_n 1, 1) := by decide +kernel
theorem d_D_nextSource_77 : decode prog_4_method_2_code 77 = .ok (.ireturn, 1) := by decide +kernel
theorem d_P_find_0 : decode prog_1_method_12_code 0 = .ok (.aload_n 0, 1) := by decide +kernel
theorem d_P_find_1 : decode prog_1_method_12_code 1 = .ok (.iload_n 1, 1) := by decide +kernel
theorem d_P_find_2 : decode prog_1_method_12_code 2 = .ok (.iload_n 2, 1) := by decide +kernel
theorem d_P_find_3 : decode prog_1_method_12_code 3 = .ok (.invokevirtual 50, 3) := by decide +kernel
theorem d_P_find_6 : decode prog_1_method_12_code 6 = .ok (.aload_n 0, 1) := by decide +kernel
theorem d_P_find_7 : decode prog_1_method_12_code 7 = .ok (.iload_n 1, 1) := by decide +kernel
theorem d_P_find_8 : decode prog_1_method_12_code 8 = .ok (.invokevirtual 59, 3) := by decide +kernel
theorem d_P_find_11 : decode prog_1_method_12_code 11 = .ok (.astore 4, 2) := by decide +kernel
theorem d_P_find_13 : decode prog_1_method_12_code 13 = .ok (.aload 4, 2) := by decide +kernel
theorem d_P_find_15 : decode prog_1_method_12_code 15 = .ok (.invokestatic 137, 3) := by decide +kernel
theorem d_P_find_18 : decode prog_1_method_12_code 18 = .ok (.istore 5, 2) := by decide +kernel
theorem d_P_find_20 : decode prog_1_method_12_code 20 = .ok (.new 186, 3) := by decide +kernel
theorem d_P_find_23 : decode prog_1_method_12_code 23 = .ok (.dup, 1) := by decide +kernel
theorem d_P_find_24 : decode prog_1_method_12_code 24 = .ok (.aload 4, 2) := by decide +kernel
theorem d_P_find_26 : decode prog_1_method_12_code 26 = .ok (.iload_n 2, 1) := by decide +kernel
theorem d_P_find_27 : decode prog_1_method_12_code 27 = .ok (.invokespecial 188, 3) := by decide +kernel
theorem d_P_find_30 : decode prog_1_method_12_code 30 = .ok (.astore 6, 2) := by decide +kernel
theorem d_P_find_32 : decode prog_1_method_12_code 32 = .ok (.iload_n 2, 1) := by decide +kernel
theorem d_P_find_33 : decode prog_1_method_12_code 33 = .ok (.istore 7, 2) := by decide +kernel
theorem d_P_find_35 : decode prog_1_method_12_code 35 = .ok (.iload 7, 2) := by decide +kernel
theorem d_P_find_37 : decode prog_1_method_12_code 37 = .ok (.iload 5, 2) := by decide +kernel
theorem d_P_find_39 : decode prog_1_method_12_code 39 = .ok (.if_icmp .ge 25, 3) := by decide +kernel
theorem d_P_find_64 : decode prog_1_method_12_code 64 = .ok (.iconst (-1), 1) := by decide +kernel
theorem d_P_find_65 : decode prog_1_method_12_code 65 = .ok (.ireturn, 1) := by decide +kernel
theorem d_P_find_42 : decode prog_1_method_12_code 42 = .ok (.aload_n 0, 1) := by decide +kernel
theorem d_P_find_43 : decode prog_1_method_12_code 43 = .ok (.aload 6, 2) := by decide +kernel
theorem d_P_find_45 : decode prog_1_method_12_code 45 = .ok (.invokevirtual 190, 3) := by decide +kernel
theorem d_P_find_48 : decode prog_1_method_12_code 48 = .ok (.invokevirtual 154, 3) := by decide +kernel
theorem d_P_find_51 : decode prog_1_method_12_code 51 = .ok (.iload_n 3, 1) := by decide +kernel
theorem d_P_find_52 : decode prog_1_method_12_code 52 = .ok (.if_icmp .ne 6, 3) := by decide +kernel
theorem d_P_find_58 : decode prog_1_method_12_code 58 = .ok (.iinc 7 1, 3) := by decide +kernel
theorem d_P_find_61 : decode prog_1_method_12_code 61 = .ok (.goto (-26), 3) := by decide +kernel
theorem d_P_find_55 : decode prog_1_method_12_code 55 = .ok (.iload 7, 2) := by decide +kernel
theorem d_P_find_57 : decode prog_1_method_12_code 57 = .ok (.ireturn, 1) := by decide +kernel
theorem d_P_differ_0 : decode prog_1_method_13_code 0 = .ok (.aload_n 0, 1) := by decide +kernel
theorem d_P_differ_1 : decode prog_1_method_13_code 1 = .ok (.iload_n 1, 1) := by decide +kernel
theorem d_P_differ_2 : decode prog_1_method_13_code 2 = .ok (.invokevirtual 107, 3) := by decide +kernel
theorem d_P_differ_5 : decode prog_1_method_13_code 5 = .ok (.aload_n 0, 1) := by decide +kernel
theorem d_P_differ_6 : decode prog_1_method_13_code 6 = .ok (.iload_n 2, 1) := by decide +kernel
theorem d_P_differ_7 : decode prog_1_method_13_code 7 = .ok (.invokevirtual 107, 3) := by decide +kernel
theorem d_P_differ_10 : decode prog_1_method_13_code 10 = .ok (.aload_n 0, 1) := by decide +kernel
theorem d_P_differ_11 : decode prog_1_method_13_code 11 = .ok (.iload_n 1, 1) := by decide +kernel
theorem d_P_differ_12 : decode prog_1_method_13_code 12 = .ok (.invokevirtual 59, 3) := by decide +kernel
theorem d_P_differ_15 : decode prog_1_method_13_code 15 = .ok (.invokestatic 137, 3) := by decide +kernel
theorem d_P_differ_18 : decode prog_1_method_13_code 18 = .ok (.aload_n 0, 1) := by decide +kernel
theorem d_P_differ_19 : decode prog_1_method_13_code 19 = .ok (.iload_n 2, 1) := by decide +kernel
theorem d_P_differ_20 : decode prog_1_method_13_code 20 = .ok (.invokevirtual 59, 3) := by decide +kernel
theorem d_P_differ_23 : decode prog_1_method_13_code 23 = .ok (.invokestatic 137, 3) := by decide +kernel
theorem d_P_differ_26 : decode prog_1_method_13_code 26 = .ok (.invokestatic 194, 3) := by decide +kernel
theorem d_P_differ_29 : decode prog_1_method_13_code 29 = .ok (.istore_n 3, 1) := by decide +kernel
theorem d_P_differ_30 : decode prog_1_method_13_code 30 = .ok (.new 186, 3) := by decide +kernel
theorem d_P_differ_33 : decode prog_1_method_13_code 33 = .ok (.dup, 1) := by decide +kernel
theorem d_P_differ_34 : decode prog_1_method_13_code 34 = .ok (.aload_n 0, 1) := by decide +kernel
theorem d_P_differ_35 : decode prog_1_method_13_code 35 = .ok (.iload_n 1, 1) := by decide +kernel
theorem d_P_differ_36 : decode prog_1_method_13_code 36 = .ok (.invokevirtual 59, 3) := by decide +kernel
theorem d_P_differ_39 : decode prog_1_method_13_code 39 = .ok (.iconst 0, 1) := by decide +kernel
theorem d_P_differ_40 : decode prog_1_method_13_code 40 = .ok (.invokespecial 188, 3) := by decide +kernel
theorem d_P_differ_43 : decode prog_1_method_13_code 43 = .ok (.astore 4, 2) := by decide +kernel
theorem d_P_differ_45 : decode prog_1_method_13_code 45 = .ok (.new 186, 3) := by decide +kernel
theorem d_P_differ_48 : decode prog_1_method_13_code 48 = .ok (.dup, 1) := by decide +kernel
theorem d_P_differ_49 : decode prog_1_method_13_code 49 = .ok (.aload_n 0, 1) := by decide +kernel
theorem d_P_differ_50 : decode prog_1_method_13_code 50 = .ok (.iload_n 2, 1) := by decide +kernel
theorem d_P_differ_51 : decode prog_1_method_13_code 51 = .ok (.invokevirtual 59, 3) := by decide +kernel
theorem d_P_differ_54 : decode prog_1_method_13_code 54 = .ok (.iconst 0, 1) := by decide +kernel
theorem d_P_differ_55 : decode prog_1_method_13_code 55 = .ok (.invokespecial 188, 3) := by decide +kernel
theorem d_P_differ_58 : decode prog_1_method_13_code 58 = .ok (.astore 5, 2) := by decide +kernel
theorem d_P_differ_60 : decode prog_1_method_13_code 60 = .ok (.iconst 0, 1) := by decide +kernel
theorem d_P_differ_61 : decode prog_1_method_13_code 61 = .ok (.istore 6, 2) := by decide +kernel
theorem d_P_differ_63 : decode prog_1_method_13_code 63 = .ok (.iload 6, 2) := by decide +kernel
theorem d_P_differ_65 : decode prog_1_method_13_code 65 = .ok (.iload_n 3, 1) := by decide +kernel
theorem d_P_differ_66 : decode prog_1_method_13_code 66 = .ok (.if_icmp .ge 33, 3) := by decide +kernel
theorem d_P_differ_99 : decode prog_1_method_13_code 99 = .ok (.iconst (-1), 1) := by decide +kernel
theorem d_P_differ_100 : decode prog_1_method_13_code 100 = .ok (.ireturn, 1) := by decide +kernel
theorem d_P_differ_69 : decode prog_1_method_13_code 69 = .ok (.aload_n 0, 1) := by decide +kernel
theorem d_P_differ_70 : decode prog_1_method_13_code 70 = .ok (.aload 4, 2) := by decide +kernel
theorem d_P_differ_72 : decode prog_1_method_13_code 72 = .ok (.invokevirtual 190, 3) := by decide +kernel
theorem d_P_differ_75 : decode prog_1_method_13_code 75 = .ok (.invokevirtual 154, 3) := by decide +kernel
theorem d_P_differ_78 : decode prog_1_method_13_code 78 = .ok (.aload_n 0, 1) := by decide +kernel
theorem d_P_differ_79 : decode prog_1_method_13_code 79 = .ok (.aload 5, 2) := by decide +kernel
theorem d_P_differ_81 : decode prog_1_method_13_code 81 = .ok (.invokevirtual 190, 3) := by decide +kernel
theorem d_P_differ_84 : decode prog_1_method_13_code 84 = .ok (.invokevirtual 154, 3) := by decide +kernel
theorem d_P_differ_87 : decode prog_1_method_13_code 87 = .ok (.if_icmp .eq 6, 3) := by decide +kernel
theorem d_P_differ_93 : decode prog_1_method_13_code 93 = .ok (.iinc 6 1, 3) := by decide +kernel
theorem d_P_differ_96 : decode prog_1_method_13_code 96 = .ok (.goto (-33), 3) := by decide +kernel
theorem d_P_differ_90 : decode prog_1_method_13_code 90 = .ok (.iload 6, 2) := by decide +kernel
theorem d_P_differ_92 : decode prog_1_method_13_code 92 = .ok (.ireturn, 1) := by decide +kernel
theorem d_R_isShallow_0 : decode prog_5_method_10_code 0 = .ok (.aload_n 0, 1) := by decide +kernel
theorem d_R_isShallow_1 : decode prog_5_method_10_code 1 = .ok (.invokestatic 57, 3) := by decide +kernel
theorem d_R_isShallow_4 : decode prog_5_method_10_code 4 = .ok (.istore_n 1, 1) := by decide +kernel
theorem d_R_isShallow_5 : decode prog_5_method_10_code 5 = .ok (.iload_n 1, 1) := by decide +kernel
theorem d_R_isShallow_6 : decode prog_5_method_10_code 6 = .ok (.iconst 2, 1) := by decide +kernel
theorem d_R_isShallow_7 : decode prog_5_method_10_code 7 = .ok (.if_icmp .gt 5, 3) := by decide +kernel
theorem d_R_isShallow_12 : decode prog_5_method_10_code 12 = .ok (.aload_n 0, 1) := by decide +kernel
theorem d_R_isShallow_13 : decode prog_5_method_10_code 13 = .ok (.invokestatic 34, 3) := by decide +kernel
theorem d_R_isShallow_16 : decode prog_5_method_10_code 16 = .ok (.i2l, 1) := by decide +kernel
theorem d_R_isShallow_17 : decode prog_5_method_10_code 17 = .ok (.lconst 1, 1) := by decide +kernel
theorem d_R_isShallow_18 : decode prog_5_method_10_code 18 = .ok (.ladd, 1) := by decide +kernel
theorem d_R_isShallow_19 : decode prog_5_method_10_code 19 = .ok (.lstore_n 2, 1) := by decide +kernel
theorem d_R_isShallow_20 : decode prog_5_method_10_code 20 = .ok (.iload_n 1, 1) := by decide +kernel
theorem d_R_isShallow_21 : decode prog_5_method_10_code 21 = .ok (.bipush 40, 2) := by decide +kernel
theorem d_R_isShallow_23 : decode prog_5_method_10_code 23 = .ok (.if_icmp .gt 19, 3) := by decide +kernel
theorem d_R_isShallow_26 : decode prog_5_method_10_code 26 = .ok (.lconst 1, 1) := by decide +kernel
theorem d_R_isShallow_27 : decode prog_5_method_10_code 27 = .ok (.iload_n 1, 1) := by decide +kernel
theorem d_R_isShallow_28 : decode prog_5_method_10_code 28 = .ok (.iconst 2, 1) := by decide +kernel
theorem d_R_isShallow_29 : decode prog_5_method_10_code 29 = .ok (.isub, 1) := by decide +kernel
theorem d_R_isShallow_30 : decode prog_5_method_10_code 30 = .ok (.lshl, 1) := by decide +kernel
theorem d_R_isShallow_31 : decode prog_5_method_10_code 31 = .ok (.lload_n 2, 1) := by decide +kernel
theorem d_R_isShallow_32 : decode prog_5_method_10_code 32 = .ok (.lload_n 2, 1) := by decide +kernel
theorem d_R_isShallow_33 : decode prog_5_method_10_code 33 = .ok (.lmul, 1) := by decide +kernel
theorem d_R_isShallow_34 : decode prog_5_method_10_code 34 = .ok (.lcmp, 1) := by decide +kernel
theorem d_R_isShallow_35 : decode prog_5_method_10_code 35 = .ok (.ifCond .gt 7, 3) := by decide +kernel
theorem d_R_isShallow_38 : decode prog_5_method_10_code 38 = .ok (.iconst 1, 1) := by decide +kernel
theorem d_R_isShallow_39 : decode prog_5_method_10_code 39 = .ok (.goto 4, 3) := by decide +kernel
theorem d_R_isShallow_10 : decode prog_5_method_10_code 10 = .ok (.iconst 1, 1) := by decide +kernel
theorem d_R_isShallow_11 : decode prog_5_method_10_code 11 = .ok (.ireturn, 1) := by decide +kernel
theorem d_R_isShallow_42 : decode prog_5_method_10_code 42 = .ok (.iconst 0, 1) := by decide +kernel
theorem d_R_isShallow_43 : decode prog_5_method_10_code 43 = .ok (.ireturn, 1) := by decide +kernel
theorem d_P_allShallow_0 : decode prog_1_method_23_code 0 = .ok (.aload_n 0, 1) := by decide +kernel
theorem d_P_allShallow_1 : decode prog_1_method_23_code 1 = .ok (.getfield 15, 3) := by decide +kernel
theorem d_P_allShallow_4 : decode prog_1_method_23_code 4 = .ok (.astore_n 1, 1) := by decide +kernel
theorem d_P_allShallow_5 : decode prog_1_method_23_code 5 = .ok (.aload_n 1, 1) := by decide +kernel
theorem d_P_allShallow_6 : decode prog_1_method_23_code 6 = .ok (.arraylength, 1) := by decide +kernel
theorem d_P_allShallow_7 : decode prog_1_method_23_code 7 = .ok (.istore_n 2, 1) := by decide +kernel
theorem d_P_allShallow_8 : decode prog_1_method_23_code 8 = .ok (.iconst 0, 1) := by decide +kernel
theorem d_P_allShallow_9 : decode prog_1_method_23_code 9 = .ok (.istore_n 3, 1) := by decide +kernel
theorem d_P_allShallow_10 : decode prog_1_method_23_code 10 = .ok (.iload_n 3, 1) := by decide +kernel
theorem d_P_allShallow_11 : decode prog_1_method_23_code 11 = .ok (.iload_n 2, 1) := by decide +kernel
theorem d_P_allShallow_12 : decode prog_1_method_23_code 12 = .ok (.if_icmp .ge 24, 3) := by decide +kernel
theorem d_P_allShallow_36 : decode prog_1_method_23_code 36 = .ok (.iconst 1, 1) := by decide +kernel
theorem d_P_allShallow_37 : decode prog_1_method_23_code 37 = .ok (.ireturn, 1) := by decide +kernel
theorem d_P_allShallow_15 : decode prog_1_method_23_code 15 = .ok (.aload_n 1, 1) := by decide +kernel
theorem d_P_allShallow_16 : decode prog_1_method_23_code 16 = .ok (.iload_n 3, 1) := by decide +kernel
theorem d_P_allShallow_17 : decode prog_1_method_23_code 17 = .ok (.aaload, 1) := by decide +kernel
theorem d_P_allShallow_18 : decode prog_1_method_23_code 18 = .ok (.astore 4, 2) := by decide +kernel
theorem d_P_allShallow_20 : decode prog_1_method_23_code 20 = .ok (.aload 4, 2) := by decide +kernel
theorem d_P_allShallow_22 : decode prog_1_method_23_code 22 = .ok (.invokestatic 212, 3) := by decide +kernel
theorem d_P_allShallow_25 : decode prog_1_method_23_code 25 = .ok (.ifCond .ne 5, 3) := by decide +kernel
theorem d_P_allShallow_30 : decode prog_1_method_23_code 30 = .ok (.iinc 3 1, 3) := by decide +kernel
theorem d_P_allShallow_33 : decode prog_1_method_23_code 33 = .ok (.goto (-23), 3) := by decide +kernel
theorem d_P_allShallow_28 : decode prog_1_method_23_code 28 = .ok (.iconst 0, 1) := by decide +kernel
theorem d_P_allShallow_29 : decode prog_1_method_23_code 29 = .ok (.ireturn, 1) := by decide +kernel
theorem d_P_count_0 : decode prog_1_method_14_code 0 = .ok (.iload_n 1, 1) := by decide +kernel
theorem d_P_count_1 : decode prog_1_method_14_code 1 = .ok (.tableswitch 59 0 3 #[31, 36, 41, 46], 31) := by decide +kernel
theorem d_P_count_32 : decode prog_1_method_14_code 32 = .ok (.aload_n 0, 1) := by decide +kernel
theorem d_P_count_33 : decode prog_1_method_14_code 33 = .ok (.getfield 37, 3) := by decide +kernel
theorem d_P_count_36 : decode prog_1_method_14_code 36 = .ok (.ireturn, 1) := by decide +kernel
theorem d_P_count_37 : decode prog_1_method_14_code 37 = .ok (.aload_n 0, 1) := by decide +kernel
theorem d_P_count_38 : decode prog_1_method_14_code 38 = .ok (.invokevirtual 200, 3) := by decide +kernel
theorem d_P_count_41 : decode prog_1_method_14_code 41 = .ok (.ireturn, 1) := by decide +kernel
theorem d_P_count_42 : decode prog_1_method_14_code 42 = .ok (.aload_n 0, 1) := by decide +kernel
theorem d_P_count_43 : decode prog_1_method_14_code 43 = .ok (.invokevirtual 203, 3) := by decide +kernel
theorem d_P_count_46 : decode prog_1_method_14_code 46 = .ok (.ireturn, 1) := by decide +kernel
theorem d_P_count_47 : decode prog_1_method_14_code 47 = .ok (.aload_n 0, 1) := by decide +kernel
theorem d_P_count_48 : decode prog_1_method_14_code 48 = .ok (.invokevirtual 206, 3) := by decide +kernel
theorem d_P_count_51 : decode prog_1_method_14_code 51 = .ok (.ifCond .eq 7, 3) := by decide +kernel
theorem d_P_count_58 : decode prog_1_method_14_code 58 = .ok (.iconst 0, 1) := by decide +kernel
theorem d_P_count_54 : decode prog_1_method_14_code 54 = .ok (.iconst 1, 1) := by decide +kernel
theorem d_P_count_55 : decode prog_1_method_14_code 55 = .ok (.goto 4, 3) := by decide +kernel
theorem d_P_count_60 : decode prog_1_method_14_code 60 = .ok (.iconst (-1), 1) := by decide +kernel
theorem d_P_count_61 : decode prog_1_method_14_code 61 = .ok (.ireturn, 1) := by decide +kernel
theorem d_P_count_59 : decode prog_1_method_14_code 59 = .ok (.ireturn, 1) := by decide +kernel
theorem d_M_init_0 : decode prog_9_method_1_code 0 = .ok (.aload_n 0, 1) := by decide +kernel
theorem d_M_init_1 : decode prog_9_method_1_code 1 = .ok (.invokespecial 1, 3) := by decide +kernel
theorem d_M_init_4 : decode prog_9_method_1_code 4 = .ok (.aload_n 0, 1) := by decide +kernel
theorem d_M_init_5 : decode prog_9_method_1_code 5 = .ok (.sipush 2048, 3) := by decide +kernel
theorem d_M_init_8 : decode prog_9_method_1_code 8 = .ok (.newarray .int, 2) := by decide +kernel
theorem d_M_init_10 : decode prog_9_method_1_code 10 = .ok (.putfield 7, 3) := by decide +kernel
theorem d_M_init_13 : decode prog_9_method_1_code 13 = .ok (.aload_n 0, 1) := by decide +kernel
theorem d_M_init_14 : decode prog_9_method_1_code 14 = .ok (.bipush 17, 2) := by decide +kernel
theorem d_M_init_16 : decode prog_9_method_1_code 16 = .ok (.newarray .int, 2) := by decide +kernel
theorem d_M_init_18 : decode prog_9_method_1_code 18 = .ok (.putfield 13, 3) := by decide +kernel
theorem d_M_init_21 : decode prog_9_method_1_code 21 = .ok (.aload_n 0, 1) := by decide +kernel
theorem d_M_init_22 : decode prog_9_method_1_code 22 = .ok (.sipush 4096, 3) := by decide +kernel
theorem d_M_init_25 : decode prog_9_method_1_code 25 = .ok (.newarray .int, 2) := by decide +kernel
theorem d_M_init_27 : decode prog_9_method_1_code 27 = .ok (.putfield 16, 3) := by decide +kernel
theorem d_M_init_30 : decode prog_9_method_1_code 30 = .ok (.aload_n 0, 1) := by decide +kernel
theorem d_M_init_31 : decode prog_9_method_1_code 31 = .ok (.sipush 4096, 3) := by decide +kernel
theorem d_M_init_34 : decode prog_9_method_1_code 34 = .ok (.newarray .int, 2) := by decide +kernel
theorem d_M_init_36 : decode prog_9_method_1_code 36 = .ok (.putfield 19, 3) := by decide +kernel
theorem d_M_init_39 : decode prog_9_method_1_code 39 = .ok (.aload_n 0, 1) := by decide +kernel
theorem d_M_init_40 : decode prog_9_method_1_code 40 = .ok (.sipush 4096, 3) := by decide +kernel
theorem d_M_init_43 : decode prog_9_method_1_code 43 = .ok (.newarray .int, 2) := by decide +kernel
theorem d_M_init_45 : decode prog_9_method_1_code 45 = .ok (.putfield 22, 3) := by decide +kernel
theorem d_M_init_48 : decode prog_9_method_1_code 48 = .ok (.aload_n 0, 1) := by decide +kernel
theorem d_M_init_49 : decode prog_9_method_1_code 49 = .ok (.sipush 4096, 3) := by decide +kernel
theorem d_M_init_52 : decode prog_9_method_1_code 52 = .ok (.newarray .int, 2) := by decide +kernel
theorem d_M_init_54 : decode prog_9_method_1_code 54 = .ok (.putfield 25, 3) := by decide +kernel
theorem d_M_init_57 : decode prog_9_method_1_code 57 = .ok (.return_, 1) := by decide +kernel
theorem d_M_thrown_0 : decode prog_9_method_2_code 0 = .ok (.aload_n 0, 1) := by decide +kernel
end
section
theorem d_M_thrown_1 : decode prog_9_method_2_code 1 = .ok (.getfield 28, 3) := by decide +kernel
theorem d_M_thrown_4 : decode prog_9_method_2_code 4 = .ok (.ireturn, 1) := by decide +kernel
theorem d_M_raise_0 : decode prog_9_method_3_code 0 = .ok (.aload_n 0, 1) := by decide +kernel
theorem d_M_raise_1 : decode prog_9_method_3_code 1 = .ok (.iload_n 1, 1) := by decide +kernel
theorem d_M_raise_2 : decode prog_9_method_3_code 2 = .ok (.putfield 28, 3) := by decide +kernel
theorem d_M_raise_5 : decode prog_9_method_3_code 5 = .ok (.iconst 0, 1) := by decide +kernel
theorem d_M_raise_6 : decode prog_9_method_3_code 6 = .ok (.ireturn, 1) := by decide +kernel
theorem d_M_isText_0 : decode prog_9_method_4_code 0 = .ok (.iload_n 0, 1) := by decide +kernel
theorem d_M_isText_1 : decode prog_9_method_4_code 1 = .ok (.ifCond .lt 13, 3) := by decide +kernel
theorem d_M_isText_4 : decode prog_9_method_4_code 4 = .ok (.iload_n 0, 1) := by decide +kernel
theorem d_M_isText_5 : decode prog_9_method_4_code 5 = .ok (.bipush 16, 2) := by decide +kernel
theorem d_M_isText_7 : decode prog_9_method_4_code 7 = .ok (.if_icmp .ge 7, 3) := by decide +kernel
theorem d_M_isText_10 : decode prog_9_method_4_code 10 = .ok (.iconst 1, 1) := by decide +kernel
theorem d_M_isText_11 : decode prog_9_method_4_code 11 = .ok (.goto 4, 3) := by decide +kernel
theorem d_M_isText_14 : decode prog_9_method_4_code 14 = .ok (.iconst 0, 1) := by decide +kernel
theorem d_M_isText_15 : decode prog_9_method_4_code 15 = .ok (.ireturn, 1) := by decide +kernel
theorem d_M_size_0 : decode prog_9_method_5_code 0 = .ok (.aload_n 0, 1) := by decide +kernel
theorem d_M_size_1 : decode prog_9_method_5_code 1 = .ok (.getfield 13, 3) := by decide +kernel
theorem d_M_size_4 : decode prog_9_method_5_code 4 = .ok (.iload_n 1, 1) := by decide +kernel
theorem d_M_size_5 : decode prog_9_method_5_code 5 = .ok (.iconst 1, 1) := by decide +kernel
theorem d_M_size_6 : decode prog_9_method_5_code 6 = .ok (.iadd, 1) := by decide +kernel
theorem d_M_size_7 : decode prog_9_method_5_code 7 = .ok (.iaload, 1) := by decide +kernel
theorem d_M_size_8 : decode prog_9_method_5_code 8 = .ok (.aload_n 0, 1) := by decide +kernel
theorem d_M_size_9 : decode prog_9_method_5_code 9 = .ok (.getfield 13, 3) := by decide +kernel
theorem d_M_size_12 : decode prog_9_method_5_code 12 = .ok (.iload_n 1, 1) := by decide +kernel
theorem d_M_size_13 : decode prog_9_method_5_code 13 = .ok (.iaload, 1) := by decide +kernel
theorem d_M_size_14 : decode prog_9_method_5_code 14 = .ok (.isub, 1) := by decide +kernel
theorem d_M_size_15 : decode prog_9_method_5_code 15 = .ok (.ireturn, 1) := by decide +kernel
theorem d_M_isPlace_0 : decode prog_9_method_6_code 0 = .ok (.iload_n 1, 1) := by decide +kernel
theorem d_M_isPlace_1 : decode prog_9_method_6_code 1 = .ok (.invokestatic 32, 3) := by decide +kernel
theorem d_M_isPlace_4 : decode prog_9_method_6_code 4 = .ok (.ifCond .eq 20, 3) := by decide +kernel
theorem d_M_isPlace_7 : decode prog_9_method_6_code 7 = .ok (.iload_n 2, 1) := by decide +kernel
theorem d_M_isPlace_8 : decode prog_9_method_6_code 8 = .ok (.ifCond .lt 16, 3) := by decide +kernel
theorem d_M_isPlace_11 : decode prog_9_method_6_code 11 = .ok (.iload_n 2, 1) := by decide +kernel
theorem d_M_isPlace_12 : decode prog_9_method_6_code 12 = .ok (.aload_n 0, 1) := by decide +kernel
theorem d_M_isPlace_13 : decode prog_9_method_6_code 13 = .ok (.iload_n 1, 1) := by decide +kernel
theorem d_M_isPlace_14 : decode prog_9_method_6_code 14 = .ok (.invokevirtual 36, 3) := by decide +kernel
theorem d_M_isPlace_17 : decode prog_9_method_6_code 17 = .ok (.if_icmp .gt 7, 3) := by decide +kernel
theorem d_M_isPlace_20 : decode prog_9_method_6_code 20 = .ok (.iconst 1, 1) := by decide +kernel
theorem d_M_isPlace_21 : decode prog_9_method_6_code 21 = .ok (.goto 4, 3) := by decide +kernel
theorem d_M_isPlace_24 : decode prog_9_method_6_code 24 = .ok (.iconst 0, 1) := by decide +kernel
theorem d_M_isPlace_25 : decode prog_9_method_6_code 25 = .ok (.ireturn, 1) := by decide +kernel
theorem d_M_isRange_0 : decode prog_9_method_7_code 0 = .ok (.aload_n 0, 1) := by decide +kernel
theorem d_M_isRange_1 : decode prog_9_method_7_code 1 = .ok (.iload_n 1, 1) := by decide +kernel
theorem d_M_isRange_2 : decode prog_9_method_7_code 2 = .ok (.iload_n 2, 1) := by decide +kernel
theorem d_M_isRange_3 : decode prog_9_method_7_code 3 = .ok (.invokevirtual 40, 3) := by decide +kernel
theorem d_M_isRange_6 : decode prog_9_method_7_code 6 = .ok (.ifCond .eq 22, 3) := by decide +kernel
theorem d_M_isRange_9 : decode prog_9_method_7_code 9 = .ok (.iload_n 3, 1) := by decide +kernel
theorem d_M_isRange_10 : decode prog_9_method_7_code 10 = .ok (.ifCond .lt 18, 3) := by decide +kernel
theorem d_M_isRange_13 : decode prog_9_method_7_code 13 = .ok (.iload_n 3, 1) := by decide +kernel
theorem d_M_isRange_14 : decode prog_9_method_7_code 14 = .ok (.aload_n 0, 1) := by decide +kernel
theorem d_M_isRange_15 : decode prog_9_method_7_code 15 = .ok (.iload_n 1, 1) := by decide +kernel
theorem d_M_isRange_16 : decode prog_9_method_7_code 16 = .ok (.invokevirtual 36, 3) := by decide +kernel
theorem d_M_isRange_19 : decode prog_9_method_7_code 19 = .ok (.iload_n 2, 1) := by decide +kernel
theorem d_M_isRange_20 : decode prog_9_method_7_code 20 = .ok (.isub, 1) := by decide +kernel
theorem d_M_isRange_21 : decode prog_9_method_7_code 21 = .ok (.if_icmp .gt 7, 3) := by decide +kernel
theorem d_M_isRange_24 : decode prog_9_method_7_code 24 = .ok (.iconst 1, 1) := by decide +kernel
theorem d_M_isRange_25 : decode prog_9_method_7_code 25 = .ok (.goto 4, 3) := by decide +kernel
theorem d_M_isRange_28 : decode prog_9_method_7_code 28 = .ok (.iconst 0, 1) := by decide +kernel
theorem d_M_isRange_29 : decode prog_9_method_7_code 29 = .ok (.ireturn, 1) := by decide +kernel
theorem d_M_write_0 : decode prog_9_method_8_code 0 = .ok (.aload_n 0, 1) := by decide +kernel
theorem d_M_write_1 : decode prog_9_method_8_code 1 = .ok (.lload_n 1, 1) := by decide +kernel
theorem d_M_write_2 : decode prog_9_method_8_code 2 = .ok (.ldc2_w 44, 3) := by decide +kernel
theorem d_M_write_5 : decode prog_9_method_8_code 5 = .ok (.land, 1) := by decide +kernel
theorem d_M_write_6 : decode prog_9_method_8_code 6 = .ok (.lconst 0, 1) := by decide +kernel
theorem d_M_write_7 : decode prog_9_method_8_code 7 = .ok (.lcmp, 1) := by decide +kernel
theorem d_M_write_8 : decode prog_9_method_8_code 8 = .ok (.ifCond .ne 7, 3) := by decide +kernel
theorem d_M_write_15 : decode prog_9_method_8_code 15 = .ok (.iconst 0, 1) := by decide +kernel
theorem d_M_write_11 : decode prog_9_method_8_code 11 = .ok (.iconst 1, 1) := by decide +kernel
theorem d_M_write_12 : decode prog_9_method_8_code 12 = .ok (.goto 4, 3) := by decide +kernel
theorem d_M_write_16 : decode prog_9_method_8_code 16 = .ok (.putfield 28, 3) := by decide +kernel
theorem d_M_write_19 : decode prog_9_method_8_code 19 = .ok (.aload_n 0, 1) := by decide +kernel
theorem d_M_write_20 : decode prog_9_method_8_code 20 = .ok (.getfield 28, 3) := by decide +kernel
theorem d_M_write_23 : decode prog_9_method_8_code 23 = .ok (.ifCond .le 5, 3) := by decide +kernel
theorem d_M_write_28 : decode prog_9_method_8_code 28 = .ok (.iconst 0, 1) := by decide +kernel
theorem d_M_write_29 : decode prog_9_method_8_code 29 = .ok (.istore_n 3, 1) := by decide +kernel
theorem d_M_write_26 : decode prog_9_method_8_code 26 = .ok (.iconst 0, 1) := by decide +kernel
theorem d_M_write_27 : decode prog_9_method_8_code 27 = .ok (.ireturn, 1) := by decide +kernel
theorem d_M_write_30 : decode prog_9_method_8_code 30 = .ok (.iload_n 3, 1) := by decide +kernel
theorem d_M_write_31 : decode prog_9_method_8_code 31 = .ok (.bipush 8, 2) := by decide +kernel
theorem d_M_write_33 : decode prog_9_method_8_code 33 = .ok (.if_icmp .ge 24, 3) := by decide +kernel
theorem d_M_write_36 : decode prog_9_method_8_code 36 = .ok (.lload_n 1, 1) := by decide +kernel
theorem d_M_write_37 : decode prog_9_method_8_code 37 = .ok (.bipush 8, 2) := by decide +kernel
theorem d_M_write_39 : decode prog_9_method_8_code 39 = .ok (.iload_n 3, 1) := by decide +kernel
theorem d_M_write_40 : decode prog_9_method_8_code 40 = .ok (.imul, 1) := by decide +kernel
theorem d_M_write_41 : decode prog_9_method_8_code 41 = .ok (.lshr, 1) := by decide +kernel
theorem d_M_write_42 : decode prog_9_method_8_code 42 = .ok (.ldc2_w 44, 3) := by decide +kernel
theorem d_M_write_45 : decode prog_9_method_8_code 45 = .ok (.land, 1) := by decide +kernel
theorem d_M_write_46 : decode prog_9_method_8_code 46 = .ok (.lconst 0, 1) := by decide +kernel
theorem d_M_write_47 : decode prog_9_method_8_code 47 = .ok (.lcmp, 1) := by decide +kernel
theorem d_M_write_48 : decode prog_9_method_8_code 48 = .ok (.ifCond .eq 9, 3) := by decide +kernel
theorem d_M_write_51 : decode prog_9_method_8_code 51 = .ok (.iinc 3 1, 3) := by decide +kernel
theorem d_M_write_54 : decode prog_9_method_8_code 54 = .ok (.goto (-24), 3) := by decide +kernel
theorem d_M_write_57 : decode prog_9_method_8_code 57 = .ok (.aload_n 0, 1) := by decide +kernel
theorem d_M_write_58 : decode prog_9_method_8_code 58 = .ok (.getfield 46, 3) := by decide +kernel
theorem d_M_write_61 : decode prog_9_method_8_code 61 = .ok (.iload_n 3, 1) := by decide +kernel
theorem d_M_write_62 : decode prog_9_method_8_code 62 = .ok (.iadd, 1) := by decide +kernel
theorem d_M_write_63 : decode prog_9_method_8_code 63 = .ok (.sipush 2048, 3) := by decide +kernel
theorem d_M_write_66 : decode prog_9_method_8_code 66 = .ok (.if_icmp .le 9, 3) := by decide +kernel
theorem d_M_write_75 : decode prog_9_method_8_code 75 = .ok (.iconst 0, 1) := by decide +kernel
theorem d_M_write_76 : decode prog_9_method_8_code 76 = .ok (.istore 4, 2) := by decide +kernel
theorem d_M_write_69 : decode prog_9_method_8_code 69 = .ok (.aload_n 0, 1) := by decide +kernel
theorem d_M_write_70 : decode prog_9_method_8_code 70 = .ok (.iconst 2, 1) := by decide +kernel
theorem d_M_write_71 : decode prog_9_method_8_code 71 = .ok (.invokevirtual 49, 3) := by decide +kernel
theorem d_M_write_74 : decode prog_9_method_8_code 74 = .ok (.ireturn, 1) := by decide +kernel
theorem d_M_write_78 : decode prog_9_method_8_code 78 = .ok (.iload 4, 2) := by decide +kernel
theorem d_M_write_80 : decode prog_9_method_8_code 80 = .ok (.iload_n 3, 1) := by decide +kernel
theorem d_M_write_81 : decode prog_9_method_8_code 81 = .ok (.if_icmp .ge 33, 3) := by decide +kernel
theorem d_M_write_114 : decode prog_9_method_8_code 114 = .ok (.aload_n 0, 1) := by decide +kernel
theorem d_M_write_115 : decode prog_9_method_8_code 115 = .ok (.dup, 1) := by decide +kernel
theorem d_M_write_116 : decode prog_9_method_8_code 116 = .ok (.getfield 46, 3) := by decide +kernel
theorem d_M_write_119 : decode prog_9_method_8_code 119 = .ok (.iload_n 3, 1) := by decide +kernel
theorem d_M_write_120 : decode prog_9_method_8_code 120 = .ok (.iadd, 1) := by decide +kernel
theorem d_M_write_121 : decode prog_9_method_8_code 121 = .ok (.putfield 46, 3) := by decide +kernel
theorem d_M_write_124 : decode prog_9_method_8_code 124 = .ok (.aload_n 0, 1) := by decide +kernel
theorem d_M_write_125 : decode prog_9_method_8_code 125 = .ok (.getfield 46, 3) := by decide +kernel
theorem d_M_write_128 : decode prog_9_method_8_code 128 = .ok (.iload_n 3, 1) := by decide +kernel
theorem d_M_write_129 : decode prog_9_method_8_code 129 = .ok (.isub, 1) := by decide +kernel
theorem d_M_write_130 : decode prog_9_method_8_code 130 = .ok (.ireturn, 1) := by decide +kernel
theorem d_M_write_84 : decode prog_9_method_8_code 84 = .ok (.aload_n 0, 1) := by decide +kernel
theorem d_M_write_85 : decode prog_9_method_8_code 85 = .ok (.getfield 7, 3) := by decide +kernel
theorem d_M_write_88 : decode prog_9_method_8_code 88 = .ok (.aload_n 0, 1) := by decide +kernel
theorem d_M_write_89 : decode prog_9_method_8_code 89 = .ok (.getfield 46, 3) := by decide +kernel
theorem d_M_write_92 : decode prog_9_method_8_code 92 = .ok (.iload 4, 2) := by decide +kernel
theorem d_M_write_94 : decode prog_9_method_8_code 94 = .ok (.iadd, 1) := by decide +kernel
theorem d_M_write_95 : decode prog_9_method_8_code 95 = .ok (.lload_n 1, 1) := by decide +kernel
theorem d_M_write_96 : decode prog_9_method_8_code 96 = .ok (.bipush 8, 2) := by decide +kernel
theorem d_M_write_98 : decode prog_9_method_8_code 98 = .ok (.iload 4, 2) := by decide +kernel
theorem d_M_write_100 : decode prog_9_method_8_code 100 = .ok (.imul, 1) := by decide +kernel
theorem d_M_write_101 : decode prog_9_method_8_code 101 = .ok (.lshr, 1) := by decide +kernel
theorem d_M_write_102 : decode prog_9_method_8_code 102 = .ok (.ldc2_w 44, 3) := by decide +kernel
theorem d_M_write_105 : decode prog_9_method_8_code 105 = .ok (.land, 1) := by decide +kernel
theorem d_M_write_106 : decode prog_9_method_8_code 106 = .ok (.l2i, 1) := by decide +kernel
theorem d_M_write_107 : decode prog_9_method_8_code 107 = .ok (.iastore, 1) := by decide +kernel
theorem d_M_write_108 : decode prog_9_method_8_code 108 = .ok (.iinc 4 1, 3) := by decide +kernel
theorem d_M_write_111 : decode prog_9_method_8_code 111 = .ok (.goto (-33), 3) := by decide +kernel
theorem d_M_keep_0 : decode prog_9_method_9_code 0 = .ok (.iconst 0, 1) := by decide +kernel
theorem d_M_keep_1 : decode prog_9_method_9_code 1 = .ok (.istore 4, 2) := by decide +kernel
theorem d_M_keep_3 : decode prog_9_method_9_code 3 = .ok (.iload 4, 2) := by decide +kernel
theorem d_M_keep_5 : decode prog_9_method_9_code 5 = .ok (.iload_n 3, 1) := by decide +kernel
theorem d_M_keep_6 : decode prog_9_method_9_code 6 = .ok (.if_icmp .ge 55, 3) := by decide +kernel
theorem d_M_keep_61 : decode prog_9_method_9_code 61 = .ok (.return_, 1) := by decide +kernel
theorem d_M_keep_9 : decode prog_9_method_9_code 9 = .ok (.aload_n 0, 1) := by decide +kernel
theorem d_M_keep_10 : decode prog_9_method_9_code 10 = .ok (.getfield 22, 3) := by decide +kernel
theorem d_M_keep_13 : decode prog_9_method_9_code 13 = .ok (.iload 4, 2) := by decide +kernel
theorem d_M_keep_15 : decode prog_9_method_9_code 15 = .ok (.aload_n 0, 1) := by decide +kernel
theorem d_M_keep_16 : decode prog_9_method_9_code 16 = .ok (.getfield 16, 3) := by decide +kernel
theorem d_M_keep_19 : decode prog_9_method_9_code 19 = .ok (.aload_n 0, 1) := by decide +kernel
theorem d_M_keep_20 : decode prog_9_method_9_code 20 = .ok (.getfield 13, 3) := by decide +kernel
theorem d_M_keep_23 : decode prog_9_method_9_code 23 = .ok (.iload_n 1, 1) := by decide +kernel
theorem d_M_keep_24 : decode prog_9_method_9_code 24 = .ok (.iaload, 1) := by decide +kernel
theorem d_M_keep_25 : decode prog_9_method_9_code 25 = .ok (.iload_n 2, 1) := by decide +kernel
theorem d_M_keep_26 : decode prog_9_method_9_code 26 = .ok (.iadd, 1) := by decide +kernel
theorem d_M_keep_27 : decode prog_9_method_9_code 27 = .ok (.iload 4, 2) := by decide +kernel
theorem d_M_keep_29 : decode prog_9_method_9_code 29 = .ok (.iadd, 1) := by decide +kernel
theorem d_M_keep_30 : decode prog_9_method_9_code 30 = .ok (.iaload, 1) := by decide +kernel
theorem d_M_keep_31 : decode prog_9_method_9_code 31 = .ok (.iastore, 1) := by decide +kernel
theorem d_M_keep_32 : decode prog_9_method_9_code 32 = .ok (.aload_n 0, 1) := by decide +kernel
theorem d_M_keep_33 : decode prog_9_method_9_code 33 = .ok (.getfield 25, 3) := by decide +kernel
theorem d_M_keep_36 : decode prog_9_method_9_code 36 = .ok (.iload 4, 2) := by decide +kernel
theorem d_M_keep_38 : decode prog_9_method_9_code 38 = .ok (.aload_n 0, 1) := by decide +kernel
theorem d_M_keep_39 : decode prog_9_method_9_code 39 = .ok (.getfield 19, 3) := by decide +kernel
theorem d_M_keep_42 : decode prog_9_method_9_code 42 = .ok (.aload_n 0, 1) := by decide +kernel
theorem d_M_keep_43 : decode prog_9_method_9_code 43 = .ok (.getfield 13, 3) := by decide +kernel
theorem d_M_keep_46 : decode prog_9_method_9_code 46 = .ok (.iload_n 1, 1) := by decide +kernel
theorem d_M_keep_47 : decode prog_9_method_9_code 47 = .ok (.iaload, 1) := by decide +kernel
theorem d_M_keep_48 : decode prog_9_method_9_code 48 = .ok (.iload_n 2, 1) := by decide +kernel
theorem d_M_keep_49 : decode prog_9_method_9_code 49 = .ok (.iadd, 1) := by decide +kernel
theorem d_M_keep_50 : decode prog_9_method_9_code 50 = .ok (.iload 4, 2) := by decide +kernel
theorem d_M_keep_52 : decode prog_9_method_9_code 52 = .ok (.iadd, 1) := by decide +kernel
theorem d_M_keep_53 : decode prog_9_method_9_code 53 = .ok (.iaload, 1) := by decide +kernel
theorem d_M_keep_54 : decode prog_9_method_9_code 54 = .ok (.iastore, 1) := by decide +kernel
theorem d_M_keep_55 : decode prog_9_method_9_code 55 = .ok (.iinc 4 1, 3) := by decide +kernel
theorem d_M_keep_58 : decode prog_9_method_9_code 58 = .ok (.goto (-55), 3) := by decide +kernel
theorem d_M_remove_0 : decode prog_9_method_10_code 0 = .ok (.aload_n 0, 1) := by decide +kernel
theorem d_M_remove_1 : decode prog_9_method_10_code 1 = .ok (.getfield 13, 3) := by decide +kernel
theorem d_M_remove_4 : decode prog_9_method_10_code 4 = .ok (.iload_n 1, 1) := by decide +kernel
theorem d_M_remove_5 : decode prog_9_method_10_code 5 = .ok (.iaload, 1) := by decide +kernel
theorem d_M_remove_6 : decode prog_9_method_10_code 6 = .ok (.iload_n 2, 1) := by decide +kernel
theorem d_M_remove_7 : decode prog_9_method_10_code 7 = .ok (.iadd, 1) := by decide +kernel
theorem d_M_remove_8 : decode prog_9_method_10_code 8 = .ok (.istore 4, 2) := by decide +kernel
theorem d_M_remove_10 : decode prog_9_method_10_code 10 = .ok (.iload 4, 2) := by decide +kernel
theorem d_M_remove_12 : decode prog_9_method_10_code 12 = .ok (.aload_n 0, 1) := by decide +kernel
theorem d_M_remove_13 : decode prog_9_method_10_code 13 = .ok (.getfield 13, 3) := by decide +kernel
theorem d_M_remove_16 : decode prog_9_method_10_code 16 = .ok (.bipush 16, 2) := by decide +kernel
theorem d_M_remove_18 : decode prog_9_method_10_code 18 = .ok (.iaload, 1) := by decide +kernel
theorem d_M_remove_19 : decode prog_9_method_10_code 19 = .ok (.iload_n 3, 1) := by decide +kernel
theorem d_M_remove_20 : decode prog_9_method_10_code 20 = .ok (.isub, 1) := by decide +kernel
theorem d_M_remove_21 : decode prog_9_method_10_code 21 = .ok (.if_icmp .ge 41, 3) := by decide +kernel
theorem d_M_remove_62 : decode prog_9_method_10_code 62 = .ok (.iload_n 1, 1) := by decide +kernel
theorem d_M_remove_63 : decode prog_9_method_10_code 63 = .ok (.iconst 1, 1) := by decide +kernel
theorem d_M_remove_64 : decode prog_9_method_10_code 64 = .ok (.iadd, 1) := by decide +kernel
theorem d_M_remove_65 : decode prog_9_method_10_code 65 = .ok (.istore 4, 2) := by decide +kernel
theorem d_M_remove_24 : decode prog_9_method_10_code 24 = .ok (.aload_n 0, 1) := by decide +kernel
theorem d_M_remove_25 : decode prog_9_method_10_code 25 = .ok (.getfield 16, 3) := by decide +kernel
theorem d_M_remove_28 : decode prog_9_method_10_code 28 = .ok (.iload 4, 2) := by decide +kernel
theorem d_M_remove_30 : decode prog_9_method_10_code 30 = .ok (.aload_n 0, 1) := by decide +kernel
theorem d_M_remove_31 : decode prog_9_method_10_code 31 = .ok (.getfield 16, 3) := by decide +kernel
theorem d_M_remove_34 : decode prog_9_method_10_code 34 = .ok (.iload 4, 2) := by decide +kernel
theorem d_M_remove_36 : decode prog_9_method_10_code 36 = .ok (.iload_n 3, 1) := by decide +kernel
theorem d_M_remove_37 : decode prog_9_method_10_code 37 = .ok (.iadd, 1) := by decide +kernel
theorem d_M_remove_38 : decode prog_9_method_10_code 38 = .ok (.iaload, 1) := by decide +kernel
theorem d_M_remove_39 : decode prog_9_method_10_code 39 = .ok (.iastore, 1) := by decide +kernel
theorem d_M_remove_40 : decode prog_9_method_10_code 40 = .ok (.aload_n 0, 1) := by decide +kernel
theorem d_M_remove_41 : decode prog_9_method_10_code 41 = .ok (.getfield 19, 3) := by decide +kernel
theorem d_M_remove_44 : decode prog_9_method_10_code 44 = .ok (.iload 4, 2) := by decide +kernel
theorem d_M_remove_46 : decode prog_9_method_10_code 46 = .ok (.aload_n 0, 1) := by decide +kernel
theorem d_M_remove_47 : decode prog_9_method_10_code 47 = .ok (.getfield 19, 3) := by decide +kernel
theorem d_M_remove_50 : decode prog_9_method_10_code 50 = .ok (.iload 4, 2) := by decide +kernel
theorem d_M_remove_52 : decode prog_9_method_10_code 52 = .ok (.iload_n 3, 1) := by decide +kernel
theorem d_M_remove_53 : decode prog_9_method_10_code 53 = .ok (.iadd, 1) := by decide +kernel
theorem d_M_remove_54 : decode prog_9_method_10_code 54 = .ok (.iaload, 1) := by decide +kernel
theorem d_M_remove_55 : decode prog_9_method_10_code 55 = .ok (.iastore, 1) := by decide +kernel
theorem d_M_remove_56 : decode prog_9_method_10_code 56 = .ok (.iinc 4 1, 3) := by decide +kernel
theorem d_M_remove_59 : decode prog_9_method_10_code 59 = .ok (.goto (-49), 3) := by decide +kernel
theorem d_M_remove_67 : decode prog_9_method_10_code 67 = .ok (.iload 4, 2) := by decide +kernel
theorem d_M_remove_69 : decode prog_9_method_10_code 69 = .ok (.bipush 16, 2) := by decide +kernel
theorem d_M_remove_71 : decode prog_9_method_10_code 71 = .ok (.if_icmp .gt 20, 3) := by decide +kernel
theorem d_M_remove_91 : decode prog_9_method_10_code 91 = .ok (.return_, 1) := by decide +kernel
theorem d_M_remove_74 : decode prog_9_method_10_code 74 = .ok (.aload_n 0, 1) := by decide +kernel
theorem d_M_remove_75 : decode prog_9_method_10_code 75 = .ok (.getfield 13, 3) := by decide +kernel
theorem d_M_remove_78 : decode prog_9_method_10_code 78 = .ok (.iload 4, 2) := by decide +kernel
theorem d_M_remove_80 : decode prog_9_method_10_code 80 = .ok (.dup2, 1) := by decide +kernel
theorem d_M_remove_81 : decode prog_9_method_10_code 81 = .ok (.iaload, 1) := by decide +kernel
theorem d_M_remove_82 : decode prog_9_method_10_code 82 = .ok (.iload_n 3, 1) := by decide +kernel
theorem d_M_remove_83 : decode prog_9_method_10_code 83 = .ok (.isub, 1) := by decide +kernel
theorem d_M_remove_84 : decode prog_9_method_10_code 84 = .ok (.iastore, 1) := by decide +kernel
theorem d_M_remove_85 : decode prog_9_method_10_code 85 = .ok (.iinc 4 1, 3) := by decide +kernel
theorem d_M_remove_88 : decode prog_9_method_10_code 88 = .ok (.goto (-21), 3) := by decide +kernel
theorem d_M_insert_0 : decode prog_9_method_11_code 0 = .ok (.aload_n 0, 1) := by decide +kernel
theorem d_M_insert_1 : decode prog_9_method_11_code 1 = .ok (.getfield 13, 3) := by decide +kernel
theorem d_M_insert_4 : decode prog_9_method_11_code 4 = .ok (.iload_n 1, 1) := by decide +kernel
theorem d_M_insert_5 : decode prog_9_method_11_code 5 = .ok (.iaload, 1) := by decide +kernel
theorem d_M_insert_6 : decode prog_9_method_11_code 6 = .ok (.iload_n 2, 1) := by decide +kernel
theorem d_M_insert_7 : decode prog_9_method_11_code 7 = .ok (.iadd, 1) := by decide +kernel
theorem d_M_insert_8 : decode prog_9_method_11_code 8 = .ok (.istore 4, 2) := by decide +kernel
theorem d_M_insert_10 : decode prog_9_method_11_code 10 = .ok (.aload_n 0, 1) := by decide +kernel
theorem d_M_insert_11 : decode prog_9_method_11_code 11 = .ok (.getfield 13, 3) := by decide +kernel
theorem d_M_insert_14 : decode prog_9_method_11_code 14 = .ok (.bipush 16, 2) := by decide +kernel
theorem d_M_insert_16 : decode prog_9_method_11_code 16 = .ok (.iaload, 1) := by decide +kernel
theorem d_M_insert_17 : decode prog_9_method_11_code 17 = .ok (.iconst 1, 1) := by decide +kernel
theorem d_M_insert_18 : decode prog_9_method_11_code 18 = .ok (.isub, 1) := by decide +kernel
theorem d_M_insert_19 : decode prog_9_method_11_code 19 = .ok (.istore 5, 2) := by decide +kernel
theorem d_M_insert_21 : decode prog_9_method_11_code 21 = .ok (.iload 5, 2) := by decide +kernel
theorem d_M_insert_23 : decode prog_9_method_11_code 23 = .ok (.iload 4, 2) := by decide +kernel
theorem d_M_insert_25 : decode prog_9_method_11_code 25 = .ok (.if_icmp .lt 41, 3) := by decide +kernel
theorem d_M_insert_66 : decode prog_9_method_11_code 66 = .ok (.iconst 0, 1) := by decide +kernel
theorem d_M_insert_67 : decode prog_9_method_11_code 67 = .ok (.istore 5, 2) := by decide +kernel
theorem d_M_insert_28 : decode prog_9_method_11_code 28 = .ok (.aload_n 0, 1) := by decide +kernel
theorem d_M_insert_29 : decode prog_9_method_11_code 29 = .ok (.getfield 16, 3) := by decide +kernel
theorem d_M_insert_32 : decode prog_9_method_11_code 32 = .ok (.iload 5, 2) := by decide +kernel
theorem d_M_insert_34 : decode prog_9_method_11_code 34 = .ok (.iload_n 3, 1) := by decide +kernel
theorem d_M_insert_35 : decode prog_9_method_11_code 35 = .ok (.iadd, 1) := by decide +kernel
theorem d_M_insert_36 : decode prog_9_method_11_code 36 = .ok (.aload_n 0, 1) := by decide +kernel
theorem d_M_insert_37 : decode prog_9_method_11_code 37 = .ok (.getfield 16, 3) := by decide +kernel
theorem d_M_insert_40 : decode prog_9_method_11_code 40 = .ok (.iload 5, 2) := by decide +kernel
theorem d_M_insert_42 : decode prog_9_method_11_code 42 = .ok (.iaload, 1) := by decide +kernel
theorem d_M_insert_43 : decode prog_9_method_11_code 43 = .ok (.iastore, 1) := by decide +kernel
theorem d_M_insert_44 : decode prog_9_method_11_code 44 = .ok (.aload_n 0, 1) := by decide +kernel
theorem d_M_insert_45 : decode prog_9_method_11_code 45 = .ok (.getfield 19, 3) := by decide +kernel
theorem d_M_insert_48 : decode prog_9_method_11_code 48 = .ok (.iload 5, 2) := by decide +kernel
theorem d_M_insert_50 : decode prog_9_method_11_code 50 = .ok (.iload_n 3, 1) := by decide +kernel
theorem d_M_insert_51 : decode prog_9_method_11_code 51 = .ok (.iadd, 1) := by decide +kernel
theorem d_M_insert_52 : decode prog_9_method_11_code 52 = .ok (.aload_n 0, 1) := by decide +kernel
theorem d_M_insert_53 : decode prog_9_method_11_code 53 = .ok (.getfield 19, 3) := by decide +kernel
theorem d_M_insert_56 : decode prog_9_method_11_code 56 = .ok (.iload 5, 2) := by decide +kernel
theorem d_M_insert_58 : decode prog_9_method_11_code 58 = .ok (.iaload, 1) := by decide +kernel
theorem d_M_insert_59 : decode prog_9_method_11_code 59 = .ok (.iastore, 1) := by decide +kernel
theorem d_M_insert_60 : decode prog_9_method_11_code 60 = .ok (.iinc 5 (-1), 3) := by decide +kernel
theorem d_M_insert_63 : decode prog_9_method_11_code 63 = .ok (.goto (-42), 3) := by decide +kernel
theorem d_M_insert_69 : decode prog_9_method_11_code 69 = .ok (.iload 5, 2) := by decide +kernel
theorem d_M_insert_71 : decode prog_9_method_11_code 71 = .ok (.iload_n 3, 1) := by decide +kernel
theorem d_M_insert_72 : decode prog_9_method_11_code 72 = .ok (.if_icmp .ge 43, 3) := by decide +kernel
theorem d_M_insert_115 : decode prog_9_method_11_code 115 = .ok (.iload_n 1, 1) := by decide +kernel
theorem d_M_insert_116 : decode prog_9_method_11_code 116 = .ok (.iconst 1, 1) := by decide +kernel
theorem d_M_insert_117 : decode prog_9_method_11_code 117 = .ok (.iadd, 1) := by decide +kernel
theorem d_M_insert_118 : decode prog_9_method_11_code 118 = .ok (.istore 5, 2) := by decide +kernel
theorem d_M_insert_75 : decode prog_9_method_11_code 75 = .ok (.aload_n 0, 1) := by decide +kernel
theorem d_M_insert_76 : decode prog_9_method_11_code 76 = .ok (.getfield 16, 3) := by decide +kernel
theorem d_M_insert_79 : decode prog_9_method_11_code 79 = .ok (.iload 4, 2) := by decide +kernel
theorem d_M_insert_81 : decode prog_9_method_11_code 81 = .ok (.iload 5, 2) := by decide +kernel
theorem d_M_insert_83 : decode prog_9_method_11_code 83 = .ok (.iadd, 1) := by decide +kernel
theorem d_M_insert_84 : decode prog_9_method_11_code 84 = .ok (.aload_n 0, 1) := by decide +kernel
theorem d_M_insert_85 : decode prog_9_method_11_code 85 = .ok (.getfield 22, 3) := by decide +kernel
theorem d_M_insert_88 : decode prog_9_method_11_code 88 = .ok (.iload 5, 2) := by decide +kernel
theorem d_M_insert_90 : decode prog_9_method_11_code 90 = .ok (.iaload, 1) := by decide +kernel
theorem d_M_insert_91 : decode prog_9_method_11_code 91 = .ok (.iastore, 1) := by decide +kernel
theorem d_M_insert_92 : decode prog_9_method_11_code 92 = .ok (.aload_n 0, 1) := by decide +kernel
theorem d_M_insert_93 : decode prog_9_method_11_code 93 = .ok (.getfield 19, 3) := by decide +kernel
theorem d_M_insert_96 : decode prog_9_method_11_code 96 = .ok (.iload 4, 2) := by decide +kernel
theorem d_M_insert_98 : decode prog_9_method_11_code 98 = .ok (.iload 5, 2) := by decide +kernel
theorem d_M_insert_100 : decode prog_9_method_11_code 100 = .ok (.iadd, 1) := by decide +kernel
theorem d_M_insert_101 : decode prog_9_method_11_code 101 = .ok (.aload_n 0, 1) := by decide +kernel
theorem d_M_insert_102 : decode prog_9_method_11_code 102 = .ok (.getfield 25, 3) := by decide +kernel
theorem d_M_insert_105 : decode prog_9_method_11_code 105 = .ok (.iload 5, 2) := by decide +kernel
theorem d_M_insert_107 : decode prog_9_method_11_code 107 = .ok (.iaload, 1) := by decide +kernel
theorem d_M_insert_108 : decode prog_9_method_11_code 108 = .ok (.iastore, 1) := by decide +kernel
theorem d_M_insert_109 : decode prog_9_method_11_code 109 = .ok (.iinc 5 1, 3) := by decide +kernel
theorem d_M_insert_112 : decode prog_9_method_11_code 112 = .ok (.goto (-43), 3) := by decide +kernel
theorem d_M_insert_120 : decode prog_9_method_11_code 120 = .ok (.iload 5, 2) := by decide +kernel
theorem d_M_insert_122 : decode prog_9_method_11_code 122 = .ok (.bipush 16, 2) := by decide +kernel
theorem d_M_insert_124 : decode prog_9_method_11_code 124 = .ok (.if_icmp .gt 20, 3) := by decide +kernel
theorem d_M_insert_144 : decode prog_9_method_11_code 144 = .ok (.return_, 1) := by decide +kernel
theorem d_M_insert_127 : decode prog_9_method_11_code 127 = .ok (.aload_n 0, 1) := by decide +kernel
theorem d_M_insert_128 : decode prog_9_method_11_code 128 = .ok (.getfield 13, 3) := by decide +kernel
theorem d_M_insert_131 : decode prog_9_method_11_code 131 = .ok (.iload 5, 2) := by decide +kernel
theorem d_M_insert_133 : decode prog_9_method_11_code 133 = .ok (.dup2, 1) := by decide +kernel
theorem d_M_insert_134 : decode prog_9_method_11_code 134 = .ok (.iaload, 1) := by decide +kernel
theorem d_M_insert_135 : decode prog_9_method_11_code 135 = .ok (.iload_n 3, 1) := by decide +kernel
theorem d_M_insert_136 : decode prog_9_method_11_code 136 = .ok (.iadd, 1) := by decide +kernel
theorem d_M_insert_137 : decode prog_9_method_11_code 137 = .ok (.iastore, 1) := by decide +kernel
theorem d_M_insert_138 : decode prog_9_method_11_code 138 = .ok (.iinc 5 1, 3) := by decide +kernel
theorem d_M_insert_141 : decode prog_9_method_11_code 141 = .ok (.goto (-21), 3) := by decide +kernel
theorem d_M_parts_0 : decode prog_9_method_12_code 0 = .ok (.iload_n 2, 1) := by decide +kernel
theorem d_M_parts_1 : decode prog_9_method_12_code 1 = .ok (.aload_n 0, 1) := by decide +kernel
theorem d_M_parts_2 : decode prog_9_method_12_code 2 = .ok (.getfield 13, 3) := by decide +kernel
theorem d_M_parts_5 : decode prog_9_method_12_code 5 = .ok (.iload_n 1, 1) := by decide +kernel
theorem d_M_parts_6 : decode prog_9_method_12_code 6 = .ok (.iaload, 1) := by decide +kernel
theorem d_M_parts_7 : decode prog_9_method_12_code 7 = .ok (.if_icmp .eq 39, 3) := by decide +kernel
theorem d_M_parts_10 : decode prog_9_method_12_code 10 = .ok (.aload_n 0, 1) := by decide +kernel
theorem d_M_parts_11 : decode prog_9_method_12_code 11 = .ok (.getfield 16, 3) := by decide +kernel
theorem d_M_parts_14 : decode prog_9_method_12_code 14 = .ok (.iload_n 2, 1) := by decide +kernel
theorem d_M_parts_15 : decode prog_9_method_12_code 15 = .ok (.iaload, 1) := by decide +kernel
theorem d_M_parts_16 : decode prog_9_method_12_code 16 = .ok (.aload_n 0, 1) := by decide +kernel
theorem d_M_parts_17 : decode prog_9_method_12_code 17 = .ok (.getfield 16, 3) := by decide +kernel
theorem d_M_parts_20 : decode prog_9_method_12_code 20 = .ok (.iload_n 2, 1) := by decide +kernel
theorem d_M_parts_21 : decode prog_9_method_12_code 21 = .ok (.iconst 1, 1) := by decide +kernel
theorem d_M_parts_22 : decode prog_9_method_12_code 22 = .ok (.isub, 1) := by decide +kernel
theorem d_M_parts_23 : decode prog_9_method_12_code 23 = .ok (.iaload, 1) := by decide +kernel
theorem d_M_parts_24 : decode prog_9_method_12_code 24 = .ok (.iconst 1, 1) := by decide +kernel
theorem d_M_parts_25 : decode prog_9_method_12_code 25 = .ok (.iadd, 1) := by decide +kernel
theorem d_M_parts_26 : decode prog_9_method_12_code 26 = .ok (.if_icmp .ne 20, 3) := by decide +kernel
theorem d_M_parts_29 : decode prog_9_method_12_code 29 = .ok (.aload_n 0, 1) := by decide +kernel
theorem d_M_parts_30 : decode prog_9_method_12_code 30 = .ok (.getfield 19, 3) := by decide +kernel
theorem d_M_parts_33 : decode prog_9_method_12_code 33 = .ok (.iload_n 2, 1) := by decide +kernel
theorem d_M_parts_34 : decode prog_9_method_12_code 34 = .ok (.iaload, 1) := by decide +kernel
theorem d_M_parts_35 : decode prog_9_method_12_code 35 = .ok (.aload_n 0, 1) := by decide +kernel
theorem d_M_parts_36 : decode prog_9_method_12_code 36 = .ok (.getfield 19, 3) := by decide +kernel
theorem d_M_parts_39 : decode prog_9_method_12_code 39 = .ok (.iload_n 2, 1) := by decide +kernel
theorem d_M_parts_40 : decode prog_9_method_12_code 40 = .ok (.iconst 1, 1) := by decide +kernel
theorem d_M_parts_41 : decode prog_9_method_12_code 41 = .ok (.isub, 1) := by decide +kernel
theorem d_M_parts_42 : decode prog_9_method_12_code 42 = .ok (.iaload, 1) := by decide +kernel
theorem d_M_parts_43 : decode prog_9_method_12_code 43 = .ok (.if_icmp .eq 7, 3) := by decide +kernel
theorem d_M_parts_50 : decode prog_9_method_12_code 50 = .ok (.iconst 0, 1) := by decide +kernel
theorem d_M_parts_46 : decode prog_9_method_12_code 46 = .ok (.iconst 1, 1) := by decide +kernel
theorem d_M_parts_47 : decode prog_9_method_12_code 47 = .ok (.goto 4, 3) := by decide +kernel
theorem d_M_parts_51 : decode prog_9_method_12_code 51 = .ok (.ireturn, 1) := by decide +kernel
theorem d_M_pieces_0 : decode prog_9_method_13_code 0 = .ok (.iconst 0, 1) := by decide +kernel
theorem d_M_pieces_1 : decode prog_9_method_13_code 1 = .ok (.istore_n 2, 1) := by decide +kernel
theorem d_M_pieces_2 : decode prog_9_method_13_code 2 = .ok (.aload_n 0, 1) := by decide +kernel
theorem d_M_pieces_3 : decode prog_9_method_13_code 3 = .ok (.getfield 13, 3) := by decide +kernel
theorem d_M_pieces_6 : decode prog_9_method_13_code 6 = .ok (.iload_n 1, 1) := by decide +kernel
theorem d_M_pieces_7 : decode prog_9_method_13_code 7 = .ok (.iaload, 1) := by decide +kernel
theorem d_M_pieces_8 : decode prog_9_method_13_code 8 = .ok (.istore_n 3, 1) := by decide +kernel
theorem d_M_pieces_9 : decode prog_9_method_13_code 9 = .ok (.iload_n 3, 1) := by decide +kernel
theorem d_M_pieces_10 : decode prog_9_method_13_code 10 = .ok (.aload_n 0, 1) := by decide +kernel
theorem d_M_pieces_11 : decode prog_9_method_13_code 11 = .ok (.getfield 13, 3) := by decide +kernel
theorem d_M_pieces_14 : decode prog_9_method_13_code 14 = .ok (.iload_n 1, 1) := by decide +kernel
theorem d_M_pieces_15 : decode prog_9_method_13_code 15 = .ok (.iconst 1, 1) := by decide +kernel
theorem d_M_pieces_16 : decode prog_9_method_13_code 16 = .ok (.iadd, 1) := by decide +kernel
theorem d_M_pieces_17 : decode prog_9_method_13_code 17 = .ok (.iaload, 1) := by decide +kernel
theorem d_M_pieces_18 : decode prog_9_method_13_code 18 = .ok (.if_icmp .ge 26, 3) := by decide +kernel
theorem d_M_pieces_44 : decode prog_9_method_13_code 44 = .ok (.iload_n 2, 1) := by decide +kernel
theorem d_M_pieces_45 : decode prog_9_method_13_code 45 = .ok (.ireturn, 1) := by decide +kernel
theorem d_M_pieces_21 : decode prog_9_method_13_code 21 = .ok (.iload_n 2, 1) := by decide +kernel
theorem d_M_pieces_22 : decode prog_9_method_13_code 22 = .ok (.aload_n 0, 1) := by decide +kernel
theorem d_M_pieces_23 : decode prog_9_method_13_code 23 = .ok (.iload_n 1, 1) := by decide +kernel
theorem d_M_pieces_24 : decode prog_9_method_13_code 24 = .ok (.iload_n 3, 1) := by decide +kernel
theorem d_M_pieces_25 : decode prog_9_method_13_code 25 = .ok (.invokevirtual 52, 3) := by decide +kernel
theorem d_M_pieces_28 : decode prog_9_method_13_code 28 = .ok (.ifCond .eq 7, 3) := by decide +kernel
theorem d_M_pieces_35 : decode prog_9_method_13_code 35 = .ok (.iconst 0, 1) := by decide +kernel
theorem d_M_pieces_31 : decode prog_9_method_13_code 31 = .ok (.iconst 1, 1) := by decide +kernel
theorem d_M_pieces_32 : decode prog_9_method_13_code 32 = .ok (.goto 4, 3) := by decide +kernel
theorem d_M_pieces_36 : decode prog_9_method_13_code 36 = .ok (.iadd, 1) := by decide +kernel
theorem d_M_pieces_37 : decode prog_9_method_13_code 37 = .ok (.istore_n 2, 1) := by decide +kernel
theorem d_M_pieces_38 : decode prog_9_method_13_code 38 = .ok (.iinc 3 1, 3) := by decide +kernel
theorem d_M_pieces_41 : decode prog_9_method_13_code 41 = .ok (.goto (-32), 3) := by decide +kernel
theorem d_M_allPieces_0 : decode prog_9_method_14_code 0 = .ok (.iconst 0, 1) := by decide +kernel
theorem d_M_allPieces_1 : decode prog_9_method_14_code 1 = .ok (.istore_n 1, 1) := by decide +kernel
theorem d_M_allPieces_2 : decode prog_9_method_14_code 2 = .ok (.iconst 0, 1) := by decide +kernel
theorem d_M_allPieces_3 : decode prog_9_method_14_code 3 = .ok (.istore_n 2, 1) := by decide +kernel
theorem d_M_allPieces_4 : decode prog_9_method_14_code 4 = .ok (.iload_n 2, 1) := by decide +kernel
theorem d_M_allPieces_5 : decode prog_9_method_14_code 5 = .ok (.bipush 16, 2) := by decide +kernel
theorem d_M_allPieces_7 : decode prog_9_method_14_code 7 = .ok (.if_icmp .ge 17, 3) := by decide +kernel
theorem d_M_allPieces_24 : decode prog_9_method_14_code 24 = .ok (.iload_n 1, 1) := by decide +kernel
theorem d_M_allPieces_25 : decode prog_9_method_14_code 25 = .ok (.ireturn, 1) := by decide +kernel
theorem d_M_allPieces_10 : decode prog_9_method_14_code 10 = .ok (.iload_n 1, 1) := by decide +kernel
theorem d_M_allPieces_11 : decode prog_9_method_14_code 11 = .ok (.aload_n 0, 1) := by decide +kernel
theorem d_M_allPieces_12 : decode prog_9_method_14_code 12 = .ok (.iload_n 2, 1) := by decide +kernel
theorem d_M_allPieces_13 : decode prog_9_method_14_code 13 = .ok (.invokevirtual 55, 3) := by decide +kernel
theorem d_M_allPieces_16 : decode prog_9_method_14_code 16 = .ok (.iadd, 1) := by decide +kernel
theorem d_M_allPieces_17 : decode prog_9_method_14_code 17 = .ok (.istore_n 1, 1) := by decide +kernel
theorem d_M_allPieces_18 : decode prog_9_method_14_code 18 = .ok (.iinc 2 1, 3) := by decide +kernel
theorem d_M_allPieces_21 : decode prog_9_method_14_code 21 = .ok (.goto (-17), 3) := by decide +kernel
theorem d_M_put_0 : decode prog_9_method_15_code 0 = .ok (.aload_n 0, 1) := by decide +kernel
theorem d_M_put_1 : decode prog_9_method_15_code 1 = .ok (.aload_n 0, 1) := by decide +kernel
theorem d_M_put_2 : decode prog_9_method_15_code 2 = .ok (.iload_n 1, 1) := by decide +kernel
theorem d_M_put_3 : decode prog_9_method_15_code 3 = .ok (.iload_n 2, 1) := by decide +kernel
theorem d_M_put_4 : decode prog_9_method_15_code 4 = .ok (.invokevirtual 40, 3) := by decide +kernel
theorem d_M_put_7 : decode prog_9_method_15_code 7 = .ok (.ifCond .eq 24, 3) := by decide +kernel
theorem d_M_put_10 : decode prog_9_method_15_code 10 = .ok (.iload_n 3, 1) := by decide +kernel
theorem d_M_put_11 : decode prog_9_method_15_code 11 = .ok (.ifCond .lt 20, 3) := by decide +kernel
theorem d_M_put_14 : decode prog_9_method_15_code 14 = .ok (.iload 4, 2) := by decide +kernel
theorem d_M_put_16 : decode prog_9_method_15_code 16 = .ok (.iconst 1, 1) := by decide +kernel
theorem d_M_put_17 : decode prog_9_method_15_code 17 = .ok (.if_icmp .lt 14, 3) := by decide +kernel
theorem d_M_put_20 : decode prog_9_method_15_code 20 = .ok (.iload_n 3, 1) := by decide +kernel
theorem d_M_put_21 : decode prog_9_method_15_code 21 = .ok (.aload_n 0, 1) := by decide +kernel
theorem d_M_put_22 : decode prog_9_method_15_code 22 = .ok (.getfield 46, 3) := by decide +kernel
theorem d_M_put_25 : decode prog_9_method_15_code 25 = .ok (.iload 4, 2) := by decide +kernel
theorem d_M_put_27 : decode prog_9_method_15_code 27 = .ok (.isub, 1) := by decide +kernel
theorem d_M_put_28 : decode prog_9_method_15_code 28 = .ok (.if_icmp .le 7, 3) := by decide +kernel
theorem d_M_put_35 : decode prog_9_method_15_code 35 = .ok (.iconst 0, 1) := by decide +kernel
theorem d_M_put_31 : decode prog_9_method_15_code 31 = .ok (.iconst 1, 1) := by decide +kernel
theorem d_M_put_32 : decode prog_9_method_15_code 32 = .ok (.goto 4, 3) := by decide +kernel
theorem d_M_put_36 : decode prog_9_method_15_code 36 = .ok (.putfield 28, 3) := by decide +kernel
theorem d_M_put_39 : decode prog_9_method_15_code 39 = .ok (.aload_n 0, 1) := by decide +kernel
theorem d_M_put_40 : decode prog_9_method_15_code 40 = .ok (.getfield 28, 3) := by decide +kernel
theorem d_M_put_43 : decode prog_9_method_15_code 43 = .ok (.ifCond .le 5, 3) := by decide +kernel
theorem d_M_put_48 : decode prog_9_method_15_code 48 = .ok (.iload 4, 2) := by decide +kernel
theorem d_M_put_50 : decode prog_9_method_15_code 50 = .ok (.sipush 4096, 3) := by decide +kernel
theorem d_M_put_53 : decode prog_9_method_15_code 53 = .ok (.aload_n 0, 1) := by decide +kernel
theorem d_M_put_54 : decode prog_9_method_15_code 54 = .ok (.getfield 13, 3) := by decide +kernel
theorem d_M_put_57 : decode prog_9_method_15_code 57 = .ok (.bipush 16, 2) := by decide +kernel
theorem d_M_put_59 : decode prog_9_method_15_code 59 = .ok (.iaload, 1) := by decide +kernel
theorem d_M_put_60 : decode prog_9_method_15_code 60 = .ok (.isub, 1) := by decide +kernel
theorem d_M_put_61 : decode prog_9_method_15_code 61 = .ok (.if_icmp .le 9, 3) := by decide +kernel
theorem d_M_put_70 : decode prog_9_method_15_code 70 = .ok (.iconst 0, 1) := by decide +kernel
theorem d_M_put_71 : decode prog_9_method_15_code 71 = .ok (.istore 6, 2) := by decide +kernel
theorem d_M_put_64 : decode prog_9_method_15_code 64 = .ok (.aload_n 0, 1) := by decide +kernel
theorem d_M_put_65 : decode prog_9_method_15_code 65 = .ok (.iconst 2, 1) := by decide +kernel
theorem d_M_put_66 : decode prog_9_method_15_code 66 = .ok (.invokevirtual 49, 3) := by decide +kernel
theorem d_M_put_69 : decode prog_9_method_15_code 69 = .ok (.ireturn, 1) := by decide +kernel
theorem d_M_put_46 : decode prog_9_method_15_code 46 = .ok (.iconst 0, 1) := by decide +kernel
theorem d_M_put_47 : decode prog_9_method_15_code 47 = .ok (.ireturn, 1) := by decide +kernel
theorem d_M_put_73 : decode prog_9_method_15_code 73 = .ok (.iload 6, 2) := by decide +kernel
theorem d_M_put_75 : decode prog_9_method_15_code 75 = .ok (.iload 4, 2) := by decide +kernel
theorem d_M_put_77 : decode prog_9_method_15_code 77 = .ok (.if_icmp .ge 29, 3) := by decide +kernel
theorem d_M_put_106 : decode prog_9_method_15_code 106 = .ok (.aload_n 0, 1) := by decide +kernel
theorem d_M_put_107 : decode prog_9_method_15_code 107 = .ok (.iload_n 1, 1) := by decide +kernel
theorem d_M_put_108 : decode prog_9_method_15_code 108 = .ok (.iload_n 2, 1) := by decide +kernel
theorem d_M_put_109 : decode prog_9_method_15_code 109 = .ok (.iload 4, 2) := by decide +kernel
theorem d_M_put_111 : decode prog_9_method_15_code 111 = .ok (.invokevirtual 58, 3) := by decide +kernel
theorem d_M_put_114 : decode prog_9_method_15_code 114 = .ok (.aload_n 0, 1) := by decide +kernel
theorem d_M_put_115 : decode prog_9_method_15_code 115 = .ok (.invokevirtual 62, 3) := by decide +kernel
theorem d_M_put_118 : decode prog_9_method_15_code 118 = .ok (.sipush 1024, 3) := by decide +kernel
theorem d_M_put_121 : decode prog_9_method_15_code 121 = .ok (.if_icmp .gt 9, 3) := by decide +kernel
theorem d_M_put_130 : decode prog_9_method_15_code 130 = .ok (.aload_n 0, 1) := by decide +kernel
theorem d_M_put_131 : decode prog_9_method_15_code 131 = .ok (.iload_n 1, 1) := by decide +kernel
theorem d_M_put_132 : decode prog_9_method_15_code 132 = .ok (.iload_n 2, 1) := by decide +kernel
theorem d_M_put_133 : decode prog_9_method_15_code 133 = .ok (.iload 4, 2) := by decide +kernel
theorem d_M_put_135 : decode prog_9_method_15_code 135 = .ok (.invokevirtual 66, 3) := by decide +kernel
theorem d_M_put_138 : decode prog_9_method_15_code 138 = .ok (.aload_n 0, 1) := by decide +kernel
theorem d_M_put_139 : decode prog_9_method_15_code 139 = .ok (.iconst 2, 1) := by decide +kernel
theorem d_M_put_140 : decode prog_9_method_15_code 140 = .ok (.invokevirtual 49, 3) := by decide +kernel
theorem d_M_put_143 : decode prog_9_method_15_code 143 = .ok (.ireturn, 1) := by decide +kernel
theorem d_M_put_124 : decode prog_9_method_15_code 124 = .ok (.aload_n 0, 1) := by decide +kernel
theorem d_M_put_125 : decode prog_9_method_15_code 125 = .ok (.iload_n 1, 1) := by decide +kernel
theorem d_M_put_126 : decode prog_9_method_15_code 126 = .ok (.invokevirtual 36, 3) := by decide +kernel
theorem d_M_put_129 : decode prog_9_method_15_code 129 = .ok (.ireturn, 1) := by decide +kernel
theorem d_M_put_80 : decode prog_9_method_15_code 80 = .ok (.aload_n 0, 1) := by decide +kernel
theorem d_M_put_81 : decode prog_9_method_15_code 81 = .ok (.getfield 22, 3) := by decide +kernel
theorem d_M_put_84 : decode prog_9_method_15_code 84 = .ok (.iload 6, 2) := by decide +kernel
theorem d_M_put_86 : decode prog_9_method_15_code 86 = .ok (.iload_n 3, 1) := by decide +kernel
theorem d_M_put_87 : decode prog_9_method_15_code 87 = .ok (.iload 6, 2) := by decide +kernel
theorem d_M_put_89 : decode prog_9_method_15_code 89 = .ok (.iadd, 1) := by decide +kernel
theorem d_M_put_90 : decode prog_9_method_15_code 90 = .ok (.iastore, 1) := by decide +kernel
theorem d_M_put_91 : decode prog_9_method_15_code 91 = .ok (.aload_n 0, 1) := by decide +kernel
theorem d_M_put_92 : decode prog_9_method_15_code 92 = .ok (.getfield 25, 3) := by decide +kernel
theorem d_M_put_95 : decode prog_9_method_15_code 95 = .ok (.iload 6, 2) := by decide +kernel
theorem d_M_put_97 : decode prog_9_method_15_code 97 = .ok (.iload 5, 2) := by decide +kernel
theorem d_M_put_99 : decode prog_9_method_15_code 99 = .ok (.iastore, 1) := by decide +kernel
theorem d_M_put_100 : decode prog_9_method_15_code 100 = .ok (.iinc 6 1, 3) := by decide +kernel
theorem d_M_put_103 : decode prog_9_method_15_code 103 = .ok (.goto (-30), 3) := by decide +kernel
theorem d_M_cut_0 : decode prog_9_method_16_code 0 = .ok (.aload_n 0, 1) := by decide +kernel
theorem d_M_cut_1 : decode prog_9_method_16_code 1 = .ok (.aload_n 0, 1) := by decide +kernel
theorem d_M_cut_2 : decode prog_9_method_16_code 2 = .ok (.iload_n 1, 1) := by decide +kernel
theorem d_M_cut_3 : decode prog_9_method_16_code 3 = .ok (.iload_n 2, 1) := by decide +kernel
theorem d_M_cut_4 : decode prog_9_method_16_code 4 = .ok (.iload_n 3, 1) := by decide +kernel
theorem d_M_cut_5 : decode prog_9_method_16_code 5 = .ok (.invokevirtual 69, 3) := by decide +kernel
theorem d_M_cut_8 : decode prog_9_method_16_code 8 = .ok (.ifCond .eq 11, 3) := by decide +kernel
theorem d_M_cut_11 : decode prog_9_method_16_code 11 = .ok (.iload 4, 2) := by decide +kernel
theorem d_M_cut_13 : decode prog_9_method_16_code 13 = .ok (.invokestatic 32, 3) := by decide +kernel
theorem d_M_cut_16 : decode prog_9_method_16_code 16 = .ok (.ifCond .ne 7, 3) := by decide +kernel
theorem d_M_cut_23 : decode prog_9_method_16_code 23 = .ok (.iload 4, 2) := by decide +kernel
theorem d_M_cut_25 : decode prog_9_method_16_code 25 = .ok (.iload_n 1, 1) := by decide +kernel
theorem d_M_cut_26 : decode prog_9_method_16_code 26 = .ok (.if_icmp .eq 12, 3) := by decide +kernel
theorem d_M_cut_29 : decode prog_9_method_16_code 29 = .ok (.aload_n 0, 1) := by decide +kernel
theorem d_M_cut_30 : decode prog_9_method_16_code 30 = .ok (.iload 4, 2) := by decide +kernel
theorem d_M_cut_32 : decode prog_9_method_16_code 32 = .ok (.invokevirtual 36, 3) := by decide +kernel
theorem d_M_cut_35 : decode prog_9_method_16_code 35 = .ok (.ifCond .le 7, 3) := by decide +kernel
theorem d_M_cut_42 : decode prog_9_method_16_code 42 = .ok (.iconst 0, 1) := by decide +kernel
theorem d_M_cut_19 : decode prog_9_method_16_code 19 = .ok (.iconst 1, 1) := by decide +kernel
theorem d_M_cut_20 : decode prog_9_method_16_code 20 = .ok (.goto 23, 3) := by decide +kernel
theorem d_M_cut_38 : decode prog_9_method_16_code 38 = .ok (.iconst 2, 1) := by decide +kernel
theorem d_M_cut_39 : decode prog_9_method_16_code 39 = .ok (.goto 4, 3) := by decide +kernel
theorem d_M_cut_43 : decode prog_9_method_16_code 43 = .ok (.putfield 28, 3) := by decide +kernel
theorem d_M_cut_46 : decode prog_9_method_16_code 46 = .ok (.aload_n 0, 1) := by decide +kernel
theorem d_M_cut_47 : decode prog_9_method_16_code 47 = .ok (.getfield 28, 3) := by decide +kernel
theorem d_M_cut_50 : decode prog_9_method_16_code 50 = .ok (.ifCond .le 5, 3) := by decide +kernel
theorem d_M_cut_55 : decode prog_9_method_16_code 55 = .ok (.aload_n 0, 1) := by decide +kernel
theorem d_M_cut_56 : decode prog_9_method_16_code 56 = .ok (.iload_n 1, 1) := by decide +kernel
theorem d_M_cut_57 : decode prog_9_method_16_code 57 = .ok (.iload_n 2, 1) := by decide +kernel
theorem d_M_cut_58 : decode prog_9_method_16_code 58 = .ok (.iload_n 3, 1) := by decide +kernel
theorem d_M_cut_59 : decode prog_9_method_16_code 59 = .ok (.invokevirtual 73, 3) := by decide +kernel
theorem d_M_cut_62 : decode prog_9_method_16_code 62 = .ok (.aload_n 0, 1) := by decide +kernel
theorem d_M_cut_63 : decode prog_9_method_16_code 63 = .ok (.iload_n 1, 1) := by decide +kernel
theorem d_M_cut_64 : decode prog_9_method_16_code 64 = .ok (.iload_n 2, 1) := by decide +kernel
theorem d_M_cut_65 : decode prog_9_method_16_code 65 = .ok (.iload_n 3, 1) := by decide +kernel
theorem d_M_cut_66 : decode prog_9_method_16_code 66 = .ok (.invokevirtual 66, 3) := by decide +kernel
theorem d_M_cut_69 : decode prog_9_method_16_code 69 = .ok (.aload_n 0, 1) := by decide +kernel
theorem d_M_cut_70 : decode prog_9_method_16_code 70 = .ok (.iload 4, 2) := by decide +kernel
theorem d_M_cut_72 : decode prog_9_method_16_code 72 = .ok (.iconst 0, 1) := by decide +kernel
theorem d_M_cut_73 : decode prog_9_method_16_code 73 = .ok (.iload_n 3, 1) := by decide +kernel
theorem d_M_cut_74 : decode prog_9_method_16_code 74 = .ok (.invokevirtual 58, 3) := by decide +kernel
theorem d_M_cut_77 : decode prog_9_method_16_code 77 = .ok (.aload_n 0, 1) := by decide +kernel
theorem d_M_cut_78 : decode prog_9_method_16_code 78 = .ok (.invokevirtual 62, 3) := by decide +kernel
theorem d_M_cut_81 : decode prog_9_method_16_code 81 = .ok (.sipush 1024, 3) := by decide +kernel
theorem d_M_cut_84 : decode prog_9_method_16_code 84 = .ok (.if_icmp .gt 9, 3) := by decide +kernel
theorem d_M_cut_93 : decode prog_9_method_16_code 93 = .ok (.aload_n 0, 1) := by decide +kernel
theorem d_M_cut_94 : decode prog_9_method_16_code 94 = .ok (.iload 4, 2) := by decide +kernel
theorem d_M_cut_96 : decode prog_9_method_16_code 96 = .ok (.iconst 0, 1) := by decide +kernel
theorem d_M_cut_97 : decode prog_9_method_16_code 97 = .ok (.iload_n 3, 1) := by decide +kernel
theorem d_M_cut_98 : decode prog_9_method_16_code 98 = .ok (.invokevirtual 73, 3) := by decide +kernel
theorem d_M_cut_101 : decode prog_9_method_16_code 101 = .ok (.aload_n 0, 1) := by decide +kernel
theorem d_M_cut_102 : decode prog_9_method_16_code 102 = .ok (.iload 4, 2) := by decide +kernel
theorem d_M_cut_104 : decode prog_9_method_16_code 104 = .ok (.iconst 0, 1) := by decide +kernel
theorem d_M_cut_105 : decode prog_9_method_16_code 105 = .ok (.iload_n 3, 1) := by decide +kernel
theorem d_M_cut_106 : decode prog_9_method_16_code 106 = .ok (.invokevirtual 66, 3) := by decide +kernel
theorem d_M_cut_109 : decode prog_9_method_16_code 109 = .ok (.aload_n 0, 1) := by decide +kernel
theorem d_M_cut_110 : decode prog_9_method_16_code 110 = .ok (.iload_n 1, 1) := by decide +kernel
theorem d_M_cut_111 : decode prog_9_method_16_code 111 = .ok (.iload_n 2, 1) := by decide +kernel
theorem d_M_cut_112 : decode prog_9_method_16_code 112 = .ok (.iload_n 3, 1) := by decide +kernel
theorem d_M_cut_113 : decode prog_9_method_16_code 113 = .ok (.invokevirtual 58, 3) := by decide +kernel
theorem d_M_cut_116 : decode prog_9_method_16_code 116 = .ok (.aload_n 0, 1) := by decide +kernel
theorem d_M_cut_117 : decode prog_9_method_16_code 117 = .ok (.iconst 3, 1) := by decide +kernel
theorem d_M_cut_118 : decode prog_9_method_16_code 118 = .ok (.invokevirtual 49, 3) := by decide +kernel
theorem d_M_cut_121 : decode prog_9_method_16_code 121 = .ok (.ireturn, 1) := by decide +kernel
theorem d_M_cut_87 : decode prog_9_method_16_code 87 = .ok (.aload_n 0, 1) := by decide +kernel
theorem d_M_cut_88 : decode prog_9_method_16_code 88 = .ok (.iload_n 1, 1) := by decide +kernel
theorem d_M_cut_89 : decode prog_9_method_16_code 89 = .ok (.invokevirtual 36, 3) := by decide +kernel
theorem d_M_cut_92 : decode prog_9_method_16_code 92 = .ok (.ireturn, 1) := by decide +kernel
theorem d_M_cut_53 : decode prog_9_method_16_code 53 = .ok (.iconst 0, 1) := by decide +kernel
theorem d_M_cut_54 : decode prog_9_method_16_code 54 = .ok (.ireturn, 1) := by decide +kernel
theorem d_M_paste_0 : decode prog_9_method_17_code 0 = .ok (.aload_n 0, 1) := by decide +kernel
theorem d_M_paste_1 : decode prog_9_method_17_code 1 = .ok (.aload_n 0, 1) := by decide +kernel
theorem d_M_paste_2 : decode prog_9_method_17_code 2 = .ok (.iload_n 1, 1) := by decide +kernel
theorem d_M_paste_3 : decode prog_9_method_17_code 3 = .ok (.iload_n 2, 1) := by decide +kernel
theorem d_M_paste_4 : decode prog_9_method_17_code 4 = .ok (.invokevirtual 40, 3) := by decide +kernel
theorem d_M_paste_7 : decode prog_9_method_17_code 7 = .ok (.ifCond .eq 10, 3) := by decide +kernel
theorem d_M_paste_10 : decode prog_9_method_17_code 10 = .ok (.iload_n 3, 1) := by decide +kernel
theorem d_M_paste_11 : decode prog_9_method_17_code 11 = .ok (.invokestatic 32, 3) := by decide +kernel
theorem d_M_paste_14 : decode prog_9_method_17_code 14 = .ok (.ifCond .ne 7, 3) := by decide +kernel
theorem d_M_paste_21 : decode prog_9_method_17_code 21 = .ok (.iload_n 3, 1) := by decide +kernel
theorem d_M_paste_22 : decode prog_9_method_17_code 22 = .ok (.iload_n 1, 1) := by decide +kernel
theorem d_M_paste_23 : decode prog_9_method_17_code 23 = .ok (.if_icmp .ne 7, 3) := by decide +kernel
theorem d_M_paste_30 : decode prog_9_method_17_code 30 = .ok (.iconst 0, 1) := by decide +kernel
theorem d_M_paste_26 : decode prog_9_method_17_code 26 = .ok (.iconst 2, 1) := by decide +kernel
theorem d_M_paste_27 : decode prog_9_method_17_code 27 = .ok (.goto 4, 3) := by decide +kernel
theorem d_M_paste_17 : decode prog_9_method_17_code 17 = .ok (.iconst 1, 1) := by decide +kernel
theorem d_M_paste_18 : decode prog_9_method_17_code 18 = .ok (.goto 13, 3) := by decide +kernel
theorem d_M_paste_31 : decode prog_9_method_17_code 31 = .ok (.putfield 28, 3) := by decide +kernel
theorem d_M_paste_34 : decode prog_9_method_17_code 34 = .ok (.aload_n 0, 1) := by decide +kernel
theorem d_M_paste_35 : decode prog_9_method_17_code 35 = .ok (.getfield 28, 3) := by decide +kernel
theorem d_M_paste_38 : decode prog_9_method_17_code 38 = .ok (.ifCond .le 5, 3) := by decide +kernel
theorem d_M_paste_43 : decode prog_9_method_17_code 43 = .ok (.aload_n 0, 1) := by decide +kernel
theorem d_M_paste_44 : decode prog_9_method_17_code 44 = .ok (.iload_n 3, 1) := by decide +kernel
theorem d_M_paste_45 : decode prog_9_method_17_code 45 = .ok (.invokevirtual 36, 3) := by decide +kernel
theorem d_M_paste_48 : decode prog_9_method_17_code 48 = .ok (.istore 4, 2) := by decide +kernel
theorem d_M_paste_50 : decode prog_9_method_17_code 50 = .ok (.aload_n 0, 1) := by decide +kernel
theorem d_M_paste_51 : decode prog_9_method_17_code 51 = .ok (.iload_n 3, 1) := by decide +kernel
theorem d_M_paste_52 : decode prog_9_method_17_code 52 = .ok (.iconst 0, 1) := by decide +kernel
theorem d_M_paste_53 : decode prog_9_method_17_code 53 = .ok (.iload 4, 2) := by decide +kernel
theorem d_M_paste_55 : decode prog_9_method_17_code 55 = .ok (.invokevirtual 73, 3) := by decide +kernel
theorem d_M_paste_58 : decode prog_9_method_17_code 58 = .ok (.aload_n 0, 1) := by decide +kernel
theorem d_M_paste_59 : decode prog_9_method_17_code 59 = .ok (.iload_n 3, 1) := by decide +kernel
theorem d_M_paste_60 : decode prog_9_method_17_code 60 = .ok (.iconst 0, 1) := by decide +kernel
theorem d_M_paste_61 : decode prog_9_method_17_code 61 = .ok (.iload 4, 2) := by decide +kernel
theorem d_M_paste_63 : decode prog_9_method_17_code 63 = .ok (.invokevirtual 66, 3) := by decide +kernel
theorem d_M_paste_66 : decode prog_9_method_17_code 66 = .ok (.aload_n 0, 1) := by decide +kernel
theorem d_M_paste_67 : decode prog_9_method_17_code 67 = .ok (.iload_n 1, 1) := by decide +kernel
theorem d_M_paste_68 : decode prog_9_method_17_code 68 = .ok (.iload_n 2, 1) := by decide +kernel
theorem d_M_paste_69 : decode prog_9_method_17_code 69 = .ok (.iload 4, 2) := by decide +kernel
theorem d_M_paste_71 : decode prog_9_method_17_code 71 = .ok (.invokevirtual 58, 3) := by decide +kernel
theorem d_M_paste_74 : decode prog_9_method_17_code 74 = .ok (.aload_n 0, 1) := by decide +kernel
theorem d_M_paste_75 : decode prog_9_method_17_code 75 = .ok (.invokevirtual 62, 3) := by decide +kernel
theorem d_M_paste_78 : decode prog_9_method_17_code 78 = .ok (.sipush 1024, 3) := by decide +kernel
theorem d_M_paste_81 : decode prog_9_method_17_code 81 = .ok (.if_icmp .gt 9, 3) := by decide +kernel
theorem d_M_paste_90 : decode prog_9_method_17_code 90 = .ok (.aload_n 0, 1) := by decide +kernel
theorem d_M_paste_91 : decode prog_9_method_17_code 91 = .ok (.iload_n 1, 1) := by decide +kernel
theorem d_M_paste_92 : decode prog_9_method_17_code 92 = .ok (.iload_n 2, 1) := by decide +kernel
theorem d_M_paste_93 : decode prog_9_method_17_code 93 = .ok (.iload 4, 2) := by decide +kernel
theorem d_M_paste_95 : decode prog_9_method_17_code 95 = .ok (.invokevirtual 73, 3) := by decide +kernel
theorem d_M_paste_98 : decode prog_9_method_17_code 98 = .ok (.aload_n 0, 1) := by decide +kernel
theorem d_M_paste_99 : decode prog_9_method_17_code 99 = .ok (.iload_n 1, 1) := by decide +kernel
theorem d_M_paste_100 : decode prog_9_method_17_code 100 = .ok (.iload_n 2, 1) := by decide +kernel
theorem d_M_paste_101 : decode prog_9_method_17_code 101 = .ok (.iload 4, 2) := by decide +kernel
theorem d_M_paste_103 : decode prog_9_method_17_code 103 = .ok (.invokevirtual 66, 3) := by decide +kernel
theorem d_M_paste_106 : decode prog_9_method_17_code 106 = .ok (.aload_n 0, 1) := by decide +kernel
theorem d_M_paste_107 : decode prog_9_method_17_code 107 = .ok (.iload_n 3, 1) := by decide +kernel
theorem d_M_paste_108 : decode prog_9_method_17_code 108 = .ok (.iconst 0, 1) := by decide +kernel
theorem d_M_paste_109 : decode prog_9_method_17_code 109 = .ok (.iload 4, 2) := by decide +kernel
theorem d_M_paste_111 : decode prog_9_method_17_code 111 = .ok (.invokevirtual 58, 3) := by decide +kernel
theorem d_M_paste_114 : decode prog_9_method_17_code 114 = .ok (.aload_n 0, 1) := by decide +kernel
theorem d_M_paste_115 : decode prog_9_method_17_code 115 = .ok (.iconst 3, 1) := by decide +kernel
theorem d_M_paste_116 : decode prog_9_method_17_code 116 = .ok (.invokevirtual 49, 3) := by decide +kernel
theorem d_M_paste_119 : decode prog_9_method_17_code 119 = .ok (.ireturn, 1) := by decide +kernel
theorem d_M_paste_84 : decode prog_9_method_17_code 84 = .ok (.aload_n 0, 1) := by decide +kernel
theorem d_M_paste_85 : decode prog_9_method_17_code 85 = .ok (.iload_n 1, 1) := by decide +kernel
theorem d_M_paste_86 : decode prog_9_method_17_code 86 = .ok (.invokevirtual 36, 3) := by decide +kernel
theorem d_M_paste_89 : decode prog_9_method_17_code 89 = .ok (.ireturn, 1) := by decide +kernel
theorem d_M_paste_41 : decode prog_9_method_17_code 41 = .ok (.iconst 0, 1) := by decide +kernel
theorem d_M_paste_42 : decode prog_9_method_17_code 42 = .ok (.ireturn, 1) := by decide +kernel
theorem d_M_copy_0 : decode prog_9_method_18_code 0 = .ok (.aload_n 0, 1) := by decide +kernel
theorem d_M_copy_1 : decode prog_9_method_18_code 1 = .ok (.aload_n 0, 1) := by decide +kernel
theorem d_M_copy_2 : decode prog_9_method_18_code 2 = .ok (.iload_n 1, 1) := by decide +kernel
theorem d_M_copy_3 : decode prog_9_method_18_code 3 = .ok (.iload_n 2, 1) := by decide +kernel
theorem d_M_copy_4 : decode prog_9_method_18_code 4 = .ok (.iload_n 3, 1) := by decide +kernel
theorem d_M_copy_5 : decode prog_9_method_18_code 5 = .ok (.invokevirtual 69, 3) := by decide +kernel
theorem d_M_copy_8 : decode prog_9_method_18_code 8 = .ok (.ifCond .eq 11, 3) := by decide +kernel
theorem d_M_copy_11 : decode prog_9_method_18_code 11 = .ok (.iload 4, 2) := by decide +kernel
theorem d_M_copy_13 : decode prog_9_method_18_code 13 = .ok (.invokestatic 32, 3) := by decide +kernel
theorem d_M_copy_16 : decode prog_9_method_18_code 16 = .ok (.ifCond .ne 7, 3) := by decide +kernel
theorem d_M_copy_23 : decode prog_9_method_18_code 23 = .ok (.iload 4, 2) := by decide +kernel
theorem d_M_copy_25 : decode prog_9_method_18_code 25 = .ok (.iload_n 1, 1) := by decide +kernel
theorem d_M_copy_26 : decode prog_9_method_18_code 26 = .ok (.if_icmp .eq 12, 3) := by decide +kernel
theorem d_M_copy_29 : decode prog_9_method_18_code 29 = .ok (.aload_n 0, 1) := by decide +kernel
theorem d_M_copy_30 : decode prog_9_method_18_code 30 = .ok (.iload 4, 2) := by decide +kernel
theorem d_M_copy_32 : decode prog_9_method_18_code 32 = .ok (.invokevirtual 36, 3) := by decide +kernel
theorem d_M_copy_35 : decode prog_9_method_18_code 35 = .ok (.ifCond .le 7, 3) := by decide +kernel
theorem d_M_copy_42 : decode prog_9_method_18_code 42 = .ok (.iconst 0, 1) := by decide +kernel
theorem d_M_copy_19 : decode prog_9_method_18_code 19 = .ok (.iconst 1, 1) := by decide +kernel
theorem d_M_copy_20 : decode prog_9_method_18_code 20 = .ok (.goto 23, 3) := by decide +kernel
theorem d_M_copy_38 : decode prog_9_method_18_code 38 = .ok (.iconst 2, 1) := by decide +kernel
theorem d_M_copy_39 : decode prog_9_method_18_code 39 = .ok (.goto 4, 3) := by decide +kernel
theorem d_M_copy_43 : decode prog_9_method_18_code 43 = .ok (.putfield 28, 3) := by decide +kernel
theorem d_M_copy_46 : decode prog_9_method_18_code 46 = .ok (.aload_n 0, 1) := by decide +kernel
theorem d_M_copy_47 : decode prog_9_method_18_code 47 = .ok (.getfield 28, 3) := by decide +kernel
theorem d_M_copy_50 : decode prog_9_method_18_code 50 = .ok (.ifCond .le 5, 3) := by decide +kernel
theorem d_M_copy_55 : decode prog_9_method_18_code 55 = .ok (.iload_n 3, 1) := by decide +kernel
theorem d_M_copy_56 : decode prog_9_method_18_code 56 = .ok (.sipush 4096, 3) := by decide +kernel
theorem d_M_copy_59 : decode prog_9_method_18_code 59 = .ok (.aload_n 0, 1) := by decide +kernel
theorem d_M_copy_60 : decode prog_9_method_18_code 60 = .ok (.getfield 13, 3) := by decide +kernel
theorem d_M_copy_63 : decode prog_9_method_18_code 63 = .ok (.bipush 16, 2) := by decide +kernel
theorem d_M_copy_65 : decode prog_9_method_18_code 65 = .ok (.iaload, 1) := by decide +kernel
theorem d_M_copy_66 : decode prog_9_method_18_code 66 = .ok (.isub, 1) := by decide +kernel
theorem d_M_copy_67 : decode prog_9_method_18_code 67 = .ok (.if_icmp .le 9, 3) := by decide +kernel
theorem d_M_copy_76 : decode prog_9_method_18_code 76 = .ok (.aload_n 0, 1) := by decide +kernel
theorem d_M_copy_77 : decode prog_9_method_18_code 77 = .ok (.iload_n 1, 1) := by decide +kernel
theorem d_M_copy_78 : decode prog_9_method_18_code 78 = .ok (.iload_n 2, 1) := by decide +kernel
theorem d_M_copy_79 : decode prog_9_method_18_code 79 = .ok (.iload_n 3, 1) := by decide +kernel
theorem d_M_copy_80 : decode prog_9_method_18_code 80 = .ok (.invokevirtual 73, 3) := by decide +kernel
theorem d_M_copy_83 : decode prog_9_method_18_code 83 = .ok (.aload_n 0, 1) := by decide +kernel
theorem d_M_copy_84 : decode prog_9_method_18_code 84 = .ok (.iload 4, 2) := by decide +kernel
theorem d_M_copy_86 : decode prog_9_method_18_code 86 = .ok (.iconst 0, 1) := by decide +kernel
theorem d_M_copy_87 : decode prog_9_method_18_code 87 = .ok (.iload_n 3, 1) := by decide +kernel
theorem d_M_copy_88 : decode prog_9_method_18_code 88 = .ok (.invokevirtual 58, 3) := by decide +kernel
theorem d_M_copy_91 : decode prog_9_method_18_code 91 = .ok (.aload_n 0, 1) := by decide +kernel
theorem d_M_copy_92 : decode prog_9_method_18_code 92 = .ok (.invokevirtual 62, 3) := by decide +kernel
theorem d_M_copy_95 : decode prog_9_method_18_code 95 = .ok (.sipush 1024, 3) := by decide +kernel
theorem d_M_copy_98 : decode prog_9_method_18_code 98 = .ok (.if_icmp .gt 10, 3) := by decide +kernel
theorem d_M_copy_108 : decode prog_9_method_18_code 108 = .ok (.aload_n 0, 1) := by decide +kernel
theorem d_M_copy_109 : decode prog_9_method_18_code 109 = .ok (.iload 4, 2) := by decide +kernel
theorem d_M_copy_111 : decode prog_9_method_18_code 111 = .ok (.iconst 0, 1) := by decide +kernel
theorem d_M_copy_112 : decode prog_9_method_18_code 112 = .ok (.iload_n 3, 1) := by decide +kernel
theorem d_M_copy_113 : decode prog_9_method_18_code 113 = .ok (.invokevirtual 66, 3) := by decide +kernel
theorem d_M_copy_116 : decode prog_9_method_18_code 116 = .ok (.aload_n 0, 1) := by decide +kernel
theorem d_M_copy_117 : decode prog_9_method_18_code 117 = .ok (.iconst 3, 1) := by decide +kernel
theorem d_M_copy_118 : decode prog_9_method_18_code 118 = .ok (.invokevirtual 49, 3) := by decide +kernel
theorem d_M_copy_121 : decode prog_9_method_18_code 121 = .ok (.ireturn, 1) := by decide +kernel
theorem d_M_copy_101 : decode prog_9_method_18_code 101 = .ok (.aload_n 0, 1) := by decide +kernel
theorem d_M_copy_102 : decode prog_9_method_18_code 102 = .ok (.iload 4, 2) := by decide +kernel
theorem d_M_copy_104 : decode prog_9_method_18_code 104 = .ok (.invokevirtual 55, 3) := by decide +kernel
theorem d_M_copy_107 : decode prog_9_method_18_code 107 = .ok (.ireturn, 1) := by decide +kernel
theorem d_M_copy_70 : decode prog_9_method_18_code 70 = .ok (.aload_n 0, 1) := by decide +kernel
theorem d_M_copy_71 : decode prog_9_method_18_code 71 = .ok (.iconst 3, 1) := by decide +kernel
theorem d_M_copy_72 : decode prog_9_method_18_code 72 = .ok (.invokevirtual 49, 3) := by decide +kernel
theorem d_M_copy_75 : decode prog_9_method_18_code 75 = .ok (.ireturn, 1) := by decide +kernel
theorem d_M_copy_53 : decode prog_9_method_18_code 53 = .ok (.iconst 0, 1) := by decide +kernel
theorem d_M_copy_54 : decode prog_9_method_18_code 54 = .ok (.ireturn, 1) := by decide +kernel
theorem d_M_tag_0 : decode prog_9_method_19_code 0 = .ok (.aload_n 0, 1) := by decide +kernel
theorem d_M_tag_1 : decode prog_9_method_19_code 1 = .ok (.aload_n 0, 1) := by decide +kernel
theorem d_M_tag_2 : decode prog_9_method_19_code 2 = .ok (.iload_n 1, 1) := by decide +kernel
theorem d_M_tag_3 : decode prog_9_method_19_code 3 = .ok (.iload_n 2, 1) := by decide +kernel
theorem d_M_tag_4 : decode prog_9_method_19_code 4 = .ok (.iload_n 3, 1) := by decide +kernel
theorem d_M_tag_5 : decode prog_9_method_19_code 5 = .ok (.invokevirtual 69, 3) := by decide +kernel
theorem d_M_tag_8 : decode prog_9_method_19_code 8 = .ok (.ifCond .eq 7, 3) := by decide +kernel
theorem d_M_tag_15 : decode prog_9_method_19_code 15 = .ok (.iconst 1, 1) := by decide +kernel
theorem d_M_tag_11 : decode prog_9_method_19_code 11 = .ok (.iconst 0, 1) := by decide +kernel
theorem d_M_tag_12 : decode prog_9_method_19_code 12 = .ok (.goto 4, 3) := by decide +kernel
theorem d_M_tag_16 : decode prog_9_method_19_code 16 = .ok (.putfield 28, 3) := by decide +kernel
theorem d_M_tag_19 : decode prog_9_method_19_code 19 = .ok (.aload_n 0, 1) := by decide +kernel
theorem d_M_tag_20 : decode prog_9_method_19_code 20 = .ok (.getfield 28, 3) := by decide +kernel
theorem d_M_tag_23 : decode prog_9_method_19_code 23 = .ok (.ifCond .le 5, 3) := by decide +kernel
theorem d_M_tag_28 : decode prog_9_method_19_code 28 = .ok (.aload_n 0, 1) := by decide +kernel
theorem d_M_tag_29 : decode prog_9_method_19_code 29 = .ok (.iload_n 1, 1) := by decide +kernel
theorem d_M_tag_30 : decode prog_9_method_19_code 30 = .ok (.iload_n 2, 1) := by decide +kernel
theorem d_M_tag_31 : decode prog_9_method_19_code 31 = .ok (.iload_n 3, 1) := by decide +kernel
theorem d_M_tag_32 : decode prog_9_method_19_code 32 = .ok (.invokevirtual 73, 3) := by decide +kernel
theorem d_M_tag_35 : decode prog_9_method_19_code 35 = .ok (.aload_n 0, 1) := by decide +kernel
theorem d_M_tag_36 : decode prog_9_method_19_code 36 = .ok (.getfield 13, 3) := by decide +kernel
end
section
theorem d_M_tag_39 : decode prog_9_method_19_code 39 = .ok (.iload_n 1, 1) := by decide +kernel
theorem d_M_tag_40 : decode prog_9_method_19_code 40 = .ok (.iaload, 1) := by decide +kernel
theorem d_M_tag_41 : decode prog_9_method_19_code 41 = .ok (.iload_n 2, 1) := by decide +kernel
theorem d_M_tag_42 : decode prog_9_method_19_code 42 = .ok (.iadd, 1) := by decide +kernel
theorem d_M_tag_43 : decode prog_9_method_19_code 43 = .ok (.istore 6, 2) := by decide +kernel
theorem d_M_tag_45 : decode prog_9_method_19_code 45 = .ok (.iconst 0, 1) := by decide +kernel
theorem d_M_tag_46 : decode prog_9_method_19_code 46 = .ok (.istore 7, 2) := by decide +kernel
theorem d_M_tag_26 : decode prog_9_method_19_code 26 = .ok (.iconst 0, 1) := by decide +kernel
theorem d_M_tag_27 : decode prog_9_method_19_code 27 = .ok (.ireturn, 1) := by decide +kernel
theorem d_M_tag_48 : decode prog_9_method_19_code 48 = .ok (.iload 7, 2) := by decide +kernel
theorem d_M_tag_50 : decode prog_9_method_19_code 50 = .ok (.iload_n 3, 1) := by decide +kernel
theorem d_M_tag_51 : decode prog_9_method_19_code 51 = .ok (.if_icmp .ge 40, 3) := by decide +kernel
theorem d_M_tag_91 : decode prog_9_method_19_code 91 = .ok (.aload_n 0, 1) := by decide +kernel
theorem d_M_tag_92 : decode prog_9_method_19_code 92 = .ok (.invokevirtual 62, 3) := by decide +kernel
theorem d_M_tag_95 : decode prog_9_method_19_code 95 = .ok (.sipush 1024, 3) := by decide +kernel
theorem d_M_tag_98 : decode prog_9_method_19_code 98 = .ok (.if_icmp .gt 9, 3) := by decide +kernel
theorem d_M_tag_107 : decode prog_9_method_19_code 107 = .ok (.iconst 0, 1) := by decide +kernel
theorem d_M_tag_108 : decode prog_9_method_19_code 108 = .ok (.istore 7, 2) := by decide +kernel
theorem d_M_tag_101 : decode prog_9_method_19_code 101 = .ok (.aload_n 0, 1) := by decide +kernel
theorem d_M_tag_102 : decode prog_9_method_19_code 102 = .ok (.iload_n 1, 1) := by decide +kernel
theorem d_M_tag_103 : decode prog_9_method_19_code 103 = .ok (.invokevirtual 55, 3) := by decide +kernel
theorem d_M_tag_106 : decode prog_9_method_19_code 106 = .ok (.ireturn, 1) := by decide +kernel
theorem d_M_tag_54 : decode prog_9_method_19_code 54 = .ok (.aload_n 0, 1) := by decide +kernel
theorem d_M_tag_55 : decode prog_9_method_19_code 55 = .ok (.getfield 19, 3) := by decide +kernel
theorem d_M_tag_58 : decode prog_9_method_19_code 58 = .ok (.iload 6, 2) := by decide +kernel
theorem d_M_tag_60 : decode prog_9_method_19_code 60 = .ok (.iload 7, 2) := by decide +kernel
theorem d_M_tag_62 : decode prog_9_method_19_code 62 = .ok (.iadd, 1) := by decide +kernel
theorem d_M_tag_63 : decode prog_9_method_19_code 63 = .ok (.aload_n 0, 1) := by decide +kernel
theorem d_M_tag_64 : decode prog_9_method_19_code 64 = .ok (.getfield 19, 3) := by decide +kernel
theorem d_M_tag_67 : decode prog_9_method_19_code 67 = .ok (.iload 6, 2) := by decide +kernel
theorem d_M_tag_69 : decode prog_9_method_19_code 69 = .ok (.iload 7, 2) := by decide +kernel
theorem d_M_tag_71 : decode prog_9_method_19_code 71 = .ok (.iadd, 1) := by decide +kernel
theorem d_M_tag_72 : decode prog_9_method_19_code 72 = .ok (.iaload, 1) := by decide +kernel
theorem d_M_tag_73 : decode prog_9_method_19_code 73 = .ok (.iload 4, 2) := by decide +kernel
theorem d_M_tag_75 : decode prog_9_method_19_code 75 = .ok (.iconst (-1), 1) := by decide +kernel
theorem d_M_tag_76 : decode prog_9_method_19_code 76 = .ok (.ixor, 1) := by decide +kernel
theorem d_M_tag_77 : decode prog_9_method_19_code 77 = .ok (.iand, 1) := by decide +kernel
theorem d_M_tag_78 : decode prog_9_method_19_code 78 = .ok (.iload 5, 2) := by decide +kernel
theorem d_M_tag_80 : decode prog_9_method_19_code 80 = .ok (.iload 4, 2) := by decide +kernel
theorem d_M_tag_82 : decode prog_9_method_19_code 82 = .ok (.iand, 1) := by decide +kernel
theorem d_M_tag_83 : decode prog_9_method_19_code 83 = .ok (.ior, 1) := by decide +kernel
theorem d_M_tag_84 : decode prog_9_method_19_code 84 = .ok (.iastore, 1) := by decide +kernel
theorem d_M_tag_85 : decode prog_9_method_19_code 85 = .ok (.iinc 7 1, 3) := by decide +kernel
theorem d_M_tag_88 : decode prog_9_method_19_code 88 = .ok (.goto (-40), 3) := by decide +kernel
theorem d_M_tag_110 : decode prog_9_method_19_code 110 = .ok (.iload 7, 2) := by decide +kernel
theorem d_M_tag_112 : decode prog_9_method_19_code 112 = .ok (.iload_n 3, 1) := by decide +kernel
theorem d_M_tag_113 : decode prog_9_method_19_code 113 = .ok (.if_icmp .ge 26, 3) := by decide +kernel
theorem d_M_tag_139 : decode prog_9_method_19_code 139 = .ok (.aload_n 0, 1) := by decide +kernel
theorem d_M_tag_140 : decode prog_9_method_19_code 140 = .ok (.iconst 2, 1) := by decide +kernel
theorem d_M_tag_141 : decode prog_9_method_19_code 141 = .ok (.invokevirtual 49, 3) := by decide +kernel
theorem d_M_tag_144 : decode prog_9_method_19_code 144 = .ok (.ireturn, 1) := by decide +kernel
theorem d_M_tag_116 : decode prog_9_method_19_code 116 = .ok (.aload_n 0, 1) := by decide +kernel
theorem d_M_tag_117 : decode prog_9_method_19_code 117 = .ok (.getfield 19, 3) := by decide +kernel
theorem d_M_tag_120 : decode prog_9_method_19_code 120 = .ok (.iload 6, 2) := by decide +kernel
theorem d_M_tag_122 : decode prog_9_method_19_code 122 = .ok (.iload 7, 2) := by decide +kernel
theorem d_M_tag_124 : decode prog_9_method_19_code 124 = .ok (.iadd, 1) := by decide +kernel
theorem d_M_tag_125 : decode prog_9_method_19_code 125 = .ok (.aload_n 0, 1) := by decide +kernel
theorem d_M_tag_126 : decode prog_9_method_19_code 126 = .ok (.getfield 25, 3) := by decide +kernel
theorem d_M_tag_129 : decode prog_9_method_19_code 129 = .ok (.iload 7, 2) := by decide +kernel
theorem d_M_tag_131 : decode prog_9_method_19_code 131 = .ok (.iaload, 1) := by decide +kernel
theorem d_M_tag_132 : decode prog_9_method_19_code 132 = .ok (.iastore, 1) := by decide +kernel
theorem d_M_tag_133 : decode prog_9_method_19_code 133 = .ok (.iinc 7 1, 3) := by decide +kernel
theorem d_M_tag_136 : decode prog_9_method_19_code 136 = .ok (.goto (-26), 3) := by decide +kernel
theorem d_M_wipe_0 : decode prog_9_method_20_code 0 = .ok (.aload_n 0, 1) := by decide +kernel
theorem d_M_wipe_1 : decode prog_9_method_20_code 1 = .ok (.iload_n 1, 1) := by decide +kernel
theorem d_M_wipe_2 : decode prog_9_method_20_code 2 = .ok (.invokestatic 32, 3) := by decide +kernel
theorem d_M_wipe_5 : decode prog_9_method_20_code 5 = .ok (.ifCond .eq 7, 3) := by decide +kernel
theorem d_M_wipe_12 : decode prog_9_method_20_code 12 = .ok (.iconst 1, 1) := by decide +kernel
theorem d_M_wipe_8 : decode prog_9_method_20_code 8 = .ok (.iconst 0, 1) := by decide +kernel
theorem d_M_wipe_9 : decode prog_9_method_20_code 9 = .ok (.goto 4, 3) := by decide +kernel
theorem d_M_wipe_13 : decode prog_9_method_20_code 13 = .ok (.putfield 28, 3) := by decide +kernel
theorem d_M_wipe_16 : decode prog_9_method_20_code 16 = .ok (.aload_n 0, 1) := by decide +kernel
theorem d_M_wipe_17 : decode prog_9_method_20_code 17 = .ok (.getfield 28, 3) := by decide +kernel
theorem d_M_wipe_20 : decode prog_9_method_20_code 20 = .ok (.ifCond .le 5, 3) := by decide +kernel
theorem d_M_wipe_25 : decode prog_9_method_20_code 25 = .ok (.aload_n 0, 1) := by decide +kernel
theorem d_M_wipe_26 : decode prog_9_method_20_code 26 = .ok (.iload_n 1, 1) := by decide +kernel
theorem d_M_wipe_27 : decode prog_9_method_20_code 27 = .ok (.invokevirtual 36, 3) := by decide +kernel
theorem d_M_wipe_30 : decode prog_9_method_20_code 30 = .ok (.istore_n 2, 1) := by decide +kernel
theorem d_M_wipe_31 : decode prog_9_method_20_code 31 = .ok (.aload_n 0, 1) := by decide +kernel
theorem d_M_wipe_32 : decode prog_9_method_20_code 32 = .ok (.iload_n 1, 1) := by decide +kernel
theorem d_M_wipe_33 : decode prog_9_method_20_code 33 = .ok (.iconst 0, 1) := by decide +kernel
theorem d_M_wipe_34 : decode prog_9_method_20_code 34 = .ok (.iload_n 2, 1) := by decide +kernel
theorem d_M_wipe_35 : decode prog_9_method_20_code 35 = .ok (.invokevirtual 66, 3) := by decide +kernel
theorem d_M_wipe_38 : decode prog_9_method_20_code 38 = .ok (.iload_n 2, 1) := by decide +kernel
theorem d_M_wipe_39 : decode prog_9_method_20_code 39 = .ok (.ireturn, 1) := by decide +kernel
theorem d_M_wipe_23 : decode prog_9_method_20_code 23 = .ok (.iconst 0, 1) := by decide +kernel
theorem d_M_wipe_24 : decode prog_9_method_20_code 24 = .ok (.ireturn, 1) := by decide +kernel
theorem d_M_length_0 : decode prog_9_method_21_code 0 = .ok (.aload_n 0, 1) := by decide +kernel
theorem d_M_length_1 : decode prog_9_method_21_code 1 = .ok (.iconst 0, 1) := by decide +kernel
theorem d_M_length_2 : decode prog_9_method_21_code 2 = .ok (.putfield 28, 3) := by decide +kernel
theorem d_M_length_5 : decode prog_9_method_21_code 5 = .ok (.iload_n 1, 1) := by decide +kernel
theorem d_M_length_6 : decode prog_9_method_21_code 6 = .ok (.invokestatic 32, 3) := by decide +kernel
theorem d_M_length_9 : decode prog_9_method_21_code 9 = .ok (.ifCond .eq 11, 3) := by decide +kernel
theorem d_M_length_20 : decode prog_9_method_21_code 20 = .ok (.iconst (-1), 1) := by decide +kernel
theorem d_M_length_12 : decode prog_9_method_21_code 12 = .ok (.aload_n 0, 1) := by decide +kernel
theorem d_M_length_13 : decode prog_9_method_21_code 13 = .ok (.iload_n 1, 1) := by decide +kernel
theorem d_M_length_14 : decode prog_9_method_21_code 14 = .ok (.invokevirtual 36, 3) := by decide +kernel
theorem d_M_length_17 : decode prog_9_method_21_code 17 = .ok (.goto 4, 3) := by decide +kernel
theorem d_M_length_21 : decode prog_9_method_21_code 21 = .ok (.ireturn, 1) := by decide +kernel
theorem d_M_look_0 : decode prog_9_method_22_code 0 = .ok (.aload_n 0, 1) := by decide +kernel
theorem d_M_look_1 : decode prog_9_method_22_code 1 = .ok (.aload_n 0, 1) := by decide +kernel
theorem d_M_look_2 : decode prog_9_method_22_code 2 = .ok (.iload_n 1, 1) := by decide +kernel
theorem d_M_look_3 : decode prog_9_method_22_code 3 = .ok (.iload_n 2, 1) := by decide +kernel
theorem d_M_look_4 : decode prog_9_method_22_code 4 = .ok (.invokevirtual 40, 3) := by decide +kernel
theorem d_M_look_7 : decode prog_9_method_22_code 7 = .ok (.ifCond .eq 12, 3) := by decide +kernel
theorem d_M_look_10 : decode prog_9_method_22_code 10 = .ok (.iload_n 2, 1) := by decide +kernel
theorem d_M_look_11 : decode prog_9_method_22_code 11 = .ok (.aload_n 0, 1) := by decide +kernel
theorem d_M_look_12 : decode prog_9_method_22_code 12 = .ok (.iload_n 1, 1) := by decide +kernel
theorem d_M_look_13 : decode prog_9_method_22_code 13 = .ok (.invokevirtual 36, 3) := by decide +kernel
theorem d_M_look_16 : decode prog_9_method_22_code 16 = .ok (.if_icmp .ne 7, 3) := by decide +kernel
theorem d_M_look_23 : decode prog_9_method_22_code 23 = .ok (.iload_n 3, 1) := by decide +kernel
theorem d_M_look_24 : decode prog_9_method_22_code 24 = .ok (.ifCond .lt 8, 3) := by decide +kernel
theorem d_M_look_27 : decode prog_9_method_22_code 27 = .ok (.iload_n 3, 1) := by decide +kernel
theorem d_M_look_28 : decode prog_9_method_22_code 28 = .ok (.iconst 3, 1) := by decide +kernel
theorem d_M_look_29 : decode prog_9_method_22_code 29 = .ok (.if_icmp .le 7, 3) := by decide +kernel
theorem d_M_look_36 : decode prog_9_method_22_code 36 = .ok (.iconst 0, 1) := by decide +kernel
theorem d_M_look_19 : decode prog_9_method_22_code 19 = .ok (.iconst 1, 1) := by decide +kernel
theorem d_M_look_20 : decode prog_9_method_22_code 20 = .ok (.goto 17, 3) := by decide +kernel
theorem d_M_look_32 : decode prog_9_method_22_code 32 = .ok (.iconst 2, 1) := by decide +kernel
theorem d_M_look_33 : decode prog_9_method_22_code 33 = .ok (.goto 4, 3) := by decide +kernel
theorem d_M_look_37 : decode prog_9_method_22_code 37 = .ok (.putfield 28, 3) := by decide +kernel
theorem d_M_look_40 : decode prog_9_method_22_code 40 = .ok (.aload_n 0, 1) := by decide +kernel
theorem d_M_look_41 : decode prog_9_method_22_code 41 = .ok (.getfield 28, 3) := by decide +kernel
theorem d_M_look_44 : decode prog_9_method_22_code 44 = .ok (.ifCond .le 5, 3) := by decide +kernel
theorem d_M_look_49 : decode prog_9_method_22_code 49 = .ok (.aload_n 0, 1) := by decide +kernel
theorem d_M_look_50 : decode prog_9_method_22_code 50 = .ok (.getfield 13, 3) := by decide +kernel
theorem d_M_look_53 : decode prog_9_method_22_code 53 = .ok (.iload_n 1, 1) := by decide +kernel
theorem d_M_look_54 : decode prog_9_method_22_code 54 = .ok (.iaload, 1) := by decide +kernel
theorem d_M_look_55 : decode prog_9_method_22_code 55 = .ok (.iload_n 2, 1) := by decide +kernel
theorem d_M_look_56 : decode prog_9_method_22_code 56 = .ok (.iadd, 1) := by decide +kernel
theorem d_M_look_57 : decode prog_9_method_22_code 57 = .ok (.istore 4, 2) := by decide +kernel
theorem d_M_look_59 : decode prog_9_method_22_code 59 = .ok (.iconst (-1), 1) := by decide +kernel
theorem d_M_look_60 : decode prog_9_method_22_code 60 = .ok (.istore 5, 2) := by decide +kernel
theorem d_M_look_62 : decode prog_9_method_22_code 62 = .ok (.aload_n 0, 1) := by decide +kernel
theorem d_M_look_63 : decode prog_9_method_22_code 63 = .ok (.getfield 13, 3) := by decide +kernel
theorem d_M_look_66 : decode prog_9_method_22_code 66 = .ok (.iload_n 1, 1) := by decide +kernel
theorem d_M_look_67 : decode prog_9_method_22_code 67 = .ok (.iaload, 1) := by decide +kernel
theorem d_M_look_68 : decode prog_9_method_22_code 68 = .ok (.istore 6, 2) := by decide +kernel
theorem d_M_look_47 : decode prog_9_method_22_code 47 = .ok (.iconst 0, 1) := by decide +kernel
theorem d_M_look_48 : decode prog_9_method_22_code 48 = .ok (.ireturn, 1) := by decide +kernel
theorem d_M_look_70 : decode prog_9_method_22_code 70 = .ok (.iload 6, 2) := by decide +kernel
theorem d_M_look_72 : decode prog_9_method_22_code 72 = .ok (.iload 4, 2) := by decide +kernel
theorem d_M_look_74 : decode prog_9_method_22_code 74 = .ok (.if_icmp .gt 29, 3) := by decide +kernel
theorem d_M_look_103 : decode prog_9_method_22_code 103 = .ok (.iload_n 3, 1) := by decide +kernel
theorem d_M_look_104 : decode prog_9_method_22_code 104 = .ok (.ifCond .ne 18, 3) := by decide +kernel
theorem d_M_look_122 : decode prog_9_method_22_code 122 = .ok (.iload_n 3, 1) := by decide +kernel
theorem d_M_look_123 : decode prog_9_method_22_code 123 = .ok (.iconst 1, 1) := by decide +kernel
theorem d_M_look_124 : decode prog_9_method_22_code 124 = .ok (.if_icmp .ne 13, 3) := by decide +kernel
theorem d_M_look_137 : decode prog_9_method_22_code 137 = .ok (.iload_n 3, 1) := by decide +kernel
theorem d_M_look_138 : decode prog_9_method_22_code 138 = .ok (.iconst 2, 1) := by decide +kernel
theorem d_M_look_139 : decode prog_9_method_22_code 139 = .ok (.if_icmp .ne 13, 3) := by decide +kernel
theorem d_M_look_152 : decode prog_9_method_22_code 152 = .ok (.iload 5, 2) := by decide +kernel
theorem d_M_look_142 : decode prog_9_method_22_code 142 = .ok (.aload_n 0, 1) := by decide +kernel
theorem d_M_look_143 : decode prog_9_method_22_code 143 = .ok (.getfield 19, 3) := by decide +kernel
theorem d_M_look_146 : decode prog_9_method_22_code 146 = .ok (.iload 4, 2) := by decide +kernel
theorem d_M_look_148 : decode prog_9_method_22_code 148 = .ok (.iaload, 1) := by decide +kernel
theorem d_M_look_149 : decode prog_9_method_22_code 149 = .ok (.goto 5, 3) := by decide +kernel
theorem d_M_look_127 : decode prog_9_method_22_code 127 = .ok (.aload_n 0, 1) := by decide +kernel
theorem d_M_look_128 : decode prog_9_method_22_code 128 = .ok (.getfield 16, 3) := by decide +kernel
theorem d_M_look_131 : decode prog_9_method_22_code 131 = .ok (.iload 4, 2) := by decide +kernel
theorem d_M_look_133 : decode prog_9_method_22_code 133 = .ok (.iaload, 1) := by decide +kernel
theorem d_M_look_134 : decode prog_9_method_22_code 134 = .ok (.goto 20, 3) := by decide +kernel
theorem d_M_look_107 : decode prog_9_method_22_code 107 = .ok (.aload_n 0, 1) := by decide +kernel
theorem d_M_look_108 : decode prog_9_method_22_code 108 = .ok (.getfield 7, 3) := by decide +kernel
theorem d_M_look_111 : decode prog_9_method_22_code 111 = .ok (.aload_n 0, 1) := by decide +kernel
theorem d_M_look_112 : decode prog_9_method_22_code 112 = .ok (.getfield 16, 3) := by decide +kernel
theorem d_M_look_115 : decode prog_9_method_22_code 115 = .ok (.iload 4, 2) := by decide +kernel
theorem d_M_look_117 : decode prog_9_method_22_code 117 = .ok (.iaload, 1) := by decide +kernel
theorem d_M_look_118 : decode prog_9_method_22_code 118 = .ok (.iaload, 1) := by decide +kernel
theorem d_M_look_119 : decode prog_9_method_22_code 119 = .ok (.goto 35, 3) := by decide +kernel
theorem d_M_look_77 : decode prog_9_method_22_code 77 = .ok (.iload 5, 2) := by decide +kernel
theorem d_M_look_79 : decode prog_9_method_22_code 79 = .ok (.aload_n 0, 1) := by decide +kernel
theorem d_M_look_80 : decode prog_9_method_22_code 80 = .ok (.iload_n 1, 1) := by decide +kernel
theorem d_M_look_81 : decode prog_9_method_22_code 81 = .ok (.iload 6, 2) := by decide +kernel
theorem d_M_look_83 : decode prog_9_method_22_code 83 = .ok (.invokevirtual 52, 3) := by decide +kernel
theorem d_M_look_86 : decode prog_9_method_22_code 86 = .ok (.ifCond .eq 7, 3) := by decide +kernel
theorem d_M_look_93 : decode prog_9_method_22_code 93 = .ok (.iconst 0, 1) := by decide +kernel
theorem d_M_look_89 : decode prog_9_method_22_code 89 = .ok (.iconst 1, 1) := by decide +kernel
theorem d_M_look_90 : decode prog_9_method_22_code 90 = .ok (.goto 4, 3) := by decide +kernel
theorem d_M_look_154 : decode prog_9_method_22_code 154 = .ok (.ireturn, 1) := by decide +kernel
theorem d_M_look_94 : decode prog_9_method_22_code 94 = .ok (.iadd, 1) := by decide +kernel
theorem d_M_look_95 : decode prog_9_method_22_code 95 = .ok (.istore 5, 2) := by decide +kernel
theorem d_M_look_97 : decode prog_9_method_22_code 97 = .ok (.iinc 6 1, 3) := by decide +kernel
theorem d_M_look_100 : decode prog_9_method_22_code 100 = .ok (.goto (-30), 3) := by decide +kernel
theorem d_M_piece_0 : decode prog_9_method_23_code 0 = .ok (.aload_n 0, 1) := by decide +kernel
theorem d_M_piece_1 : decode prog_9_method_23_code 1 = .ok (.iload_n 1, 1) := by decide +kernel
theorem d_M_piece_2 : decode prog_9_method_23_code 2 = .ok (.invokestatic 32, 3) := by decide +kernel
theorem d_M_piece_5 : decode prog_9_method_23_code 5 = .ok (.ifCond .eq 16, 3) := by decide +kernel
theorem d_M_piece_8 : decode prog_9_method_23_code 8 = .ok (.iload_n 2, 1) := by decide +kernel
theorem d_M_piece_9 : decode prog_9_method_23_code 9 = .ok (.ifCond .lt 12, 3) := by decide +kernel
theorem d_M_piece_12 : decode prog_9_method_23_code 12 = .ok (.iload_n 2, 1) := by decide +kernel
theorem d_M_piece_13 : decode prog_9_method_23_code 13 = .ok (.aload_n 0, 1) := by decide +kernel
theorem d_M_piece_14 : decode prog_9_method_23_code 14 = .ok (.iload_n 1, 1) := by decide +kernel
theorem d_M_piece_15 : decode prog_9_method_23_code 15 = .ok (.invokevirtual 55, 3) := by decide +kernel
theorem d_M_piece_18 : decode prog_9_method_23_code 18 = .ok (.if_icmp .lt 7, 3) := by decide +kernel
theorem d_M_piece_25 : decode prog_9_method_23_code 25 = .ok (.iload_n 3, 1) := by decide +kernel
theorem d_M_piece_26 : decode prog_9_method_23_code 26 = .ok (.ifCond .lt 8, 3) := by decide +kernel
theorem d_M_piece_29 : decode prog_9_method_23_code 29 = .ok (.iload_n 3, 1) := by decide +kernel
theorem d_M_piece_30 : decode prog_9_method_23_code 30 = .ok (.iconst 3, 1) := by decide +kernel
theorem d_M_piece_31 : decode prog_9_method_23_code 31 = .ok (.if_icmp .le 7, 3) := by decide +kernel
theorem d_M_piece_38 : decode prog_9_method_23_code 38 = .ok (.iconst 0, 1) := by decide +kernel
theorem d_M_piece_21 : decode prog_9_method_23_code 21 = .ok (.iconst 1, 1) := by decide +kernel
theorem d_M_piece_22 : decode prog_9_method_23_code 22 = .ok (.goto 17, 3) := by decide +kernel
theorem d_M_piece_34 : decode prog_9_method_23_code 34 = .ok (.iconst 2, 1) := by decide +kernel
theorem d_M_piece_35 : decode prog_9_method_23_code 35 = .ok (.goto 4, 3) := by decide +kernel
theorem d_M_piece_39 : decode prog_9_method_23_code 39 = .ok (.putfield 28, 3) := by decide +kernel
theorem d_M_piece_42 : decode prog_9_method_23_code 42 = .ok (.aload_n 0, 1) := by decide +kernel
theorem d_M_piece_43 : decode prog_9_method_23_code 43 = .ok (.getfield 28, 3) := by decide +kernel
theorem d_M_piece_46 : decode prog_9_method_23_code 46 = .ok (.ifCond .le 5, 3) := by decide +kernel
theorem d_M_piece_51 : decode prog_9_method_23_code 51 = .ok (.iload_n 2, 1) := by decide +kernel
theorem d_M_piece_52 : decode prog_9_method_23_code 52 = .ok (.istore 4, 2) := by decide +kernel
theorem d_M_piece_54 : decode prog_9_method_23_code 54 = .ok (.aload_n 0, 1) := by decide +kernel
theorem d_M_piece_55 : decode prog_9_method_23_code 55 = .ok (.getfield 13, 3) := by decide +kernel
theorem d_M_piece_58 : decode prog_9_method_23_code 58 = .ok (.iload_n 1, 1) := by decide +kernel
theorem d_M_piece_59 : decode prog_9_method_23_code 59 = .ok (.iaload, 1) := by decide +kernel
theorem d_M_piece_60 : decode prog_9_method_23_code 60 = .ok (.istore 5, 2) := by decide +kernel
theorem d_M_piece_49 : decode prog_9_method_23_code 49 = .ok (.iconst 0, 1) := by decide +kernel
theorem d_M_piece_50 : decode prog_9_method_23_code 50 = .ok (.ireturn, 1) := by decide +kernel
theorem d_M_piece_62 : decode prog_9_method_23_code 62 = .ok (.iload 4, 2) := by decide +kernel
theorem d_M_piece_64 : decode prog_9_method_23_code 64 = .ok (.ifCond .le 29, 3) := by decide +kernel
theorem d_M_piece_93 : decode prog_9_method_23_code 93 = .ok (.iconst 1, 1) := by decide +kernel
theorem d_M_piece_94 : decode prog_9_method_23_code 94 = .ok (.istore 6, 2) := by decide +kernel
theorem d_M_piece_67 : decode prog_9_method_23_code 67 = .ok (.iinc 5 1, 3) := by decide +kernel
theorem d_M_piece_70 : decode prog_9_method_23_code 70 = .ok (.iload 4, 2) := by decide +kernel
theorem d_M_piece_72 : decode prog_9_method_23_code 72 = .ok (.aload_n 0, 1) := by decide +kernel
theorem d_M_piece_73 : decode prog_9_method_23_code 73 = .ok (.iload_n 1, 1) := by decide +kernel
theorem d_M_piece_74 : decode prog_9_method_23_code 74 = .ok (.iload 5, 2) := by decide +kernel
theorem d_M_piece_76 : decode prog_9_method_23_code 76 = .ok (.invokevirtual 52, 3) := by decide +kernel
theorem d_M_piece_79 : decode prog_9_method_23_code 79 = .ok (.ifCond .eq 7, 3) := by decide +kernel
theorem d_M_piece_86 : decode prog_9_method_23_code 86 = .ok (.iconst 0, 1) := by decide +kernel
theorem d_M_piece_82 : decode prog_9_method_23_code 82 = .ok (.iconst 1, 1) := by decide +kernel
theorem d_M_piece_83 : decode prog_9_method_23_code 83 = .ok (.goto 4, 3) := by decide +kernel
theorem d_M_piece_96 : decode prog_9_method_23_code 96 = .ok (.iload 5, 2) := by decide +kernel
theorem d_M_piece_98 : decode prog_9_method_23_code 98 = .ok (.iload 6, 2) := by decide +kernel
theorem d_M_piece_100 : decode prog_9_method_23_code 100 = .ok (.iadd, 1) := by decide +kernel
theorem d_M_piece_101 : decode prog_9_method_23_code 101 = .ok (.aload_n 0, 1) := by decide +kernel
theorem d_M_piece_102 : decode prog_9_method_23_code 102 = .ok (.getfield 13, 3) := by decide +kernel
theorem d_M_piece_105 : decode prog_9_method_23_code 105 = .ok (.iload_n 1, 1) := by decide +kernel
theorem d_M_piece_106 : decode prog_9_method_23_code 106 = .ok (.iconst 1, 1) := by decide +kernel
theorem d_M_piece_107 : decode prog_9_method_23_code 107 = .ok (.iadd, 1) := by decide +kernel
theorem d_M_piece_108 : decode prog_9_method_23_code 108 = .ok (.iaload, 1) := by decide +kernel
theorem d_M_piece_109 : decode prog_9_method_23_code 109 = .ok (.if_icmp .ge 22, 3) := by decide +kernel
theorem d_M_piece_112 : decode prog_9_method_23_code 112 = .ok (.aload_n 0, 1) := by decide +kernel
theorem d_M_piece_113 : decode prog_9_method_23_code 113 = .ok (.iload_n 1, 1) := by decide +kernel
theorem d_M_piece_114 : decode prog_9_method_23_code 114 = .ok (.iload 5, 2) := by decide +kernel
theorem d_M_piece_116 : decode prog_9_method_23_code 116 = .ok (.iload 6, 2) := by decide +kernel
theorem d_M_piece_118 : decode prog_9_method_23_code 118 = .ok (.iadd, 1) := by decide +kernel
theorem d_M_piece_119 : decode prog_9_method_23_code 119 = .ok (.invokevirtual 52, 3) := by decide +kernel
theorem d_M_piece_122 : decode prog_9_method_23_code 122 = .ok (.ifCond .ne 9, 3) := by decide +kernel
theorem d_M_piece_125 : decode prog_9_method_23_code 125 = .ok (.iinc 6 1, 3) := by decide +kernel
theorem d_M_piece_128 : decode prog_9_method_23_code 128 = .ok (.goto (-32), 3) := by decide +kernel
theorem d_M_piece_87 : decode prog_9_method_23_code 87 = .ok (.isub, 1) := by decide +kernel
theorem d_M_piece_88 : decode prog_9_method_23_code 88 = .ok (.istore 4, 2) := by decide +kernel
theorem d_M_piece_90 : decode prog_9_method_23_code 90 = .ok (.goto (-28), 3) := by decide +kernel
theorem d_M_piece_131 : decode prog_9_method_23_code 131 = .ok (.iload_n 3, 1) := by decide +kernel
theorem d_M_piece_132 : decode prog_9_method_23_code 132 = .ok (.ifCond .ne 15, 3) := by decide +kernel
theorem d_M_piece_147 : decode prog_9_method_23_code 147 = .ok (.iload_n 3, 1) := by decide +kernel
theorem d_M_piece_148 : decode prog_9_method_23_code 148 = .ok (.iconst 1, 1) := by decide +kernel
theorem d_M_piece_149 : decode prog_9_method_23_code 149 = .ok (.if_icmp .ne 13, 3) := by decide +kernel
theorem d_M_piece_162 : decode prog_9_method_23_code 162 = .ok (.iload_n 3, 1) := by decide +kernel
theorem d_M_piece_163 : decode prog_9_method_23_code 163 = .ok (.iconst 2, 1) := by decide +kernel
theorem d_M_piece_164 : decode prog_9_method_23_code 164 = .ok (.if_icmp .ne 8, 3) := by decide +kernel
theorem d_M_piece_172 : decode prog_9_method_23_code 172 = .ok (.aload_n 0, 1) := by decide +kernel
theorem d_M_piece_173 : decode prog_9_method_23_code 173 = .ok (.getfield 19, 3) := by decide +kernel
theorem d_M_piece_176 : decode prog_9_method_23_code 176 = .ok (.iload 5, 2) := by decide +kernel
theorem d_M_piece_178 : decode prog_9_method_23_code 178 = .ok (.iaload, 1) := by decide +kernel
theorem d_M_piece_167 : decode prog_9_method_23_code 167 = .ok (.iload 6, 2) := by decide +kernel
theorem d_M_piece_169 : decode prog_9_method_23_code 169 = .ok (.goto 10, 3) := by decide +kernel
theorem d_M_piece_152 : decode prog_9_method_23_code 152 = .ok (.aload_n 0, 1) := by decide +kernel
theorem d_M_piece_153 : decode prog_9_method_23_code 153 = .ok (.getfield 16, 3) := by decide +kernel
theorem d_M_piece_156 : decode prog_9_method_23_code 156 = .ok (.iload 5, 2) := by decide +kernel
theorem d_M_piece_158 : decode prog_9_method_23_code 158 = .ok (.iaload, 1) := by decide +kernel
theorem d_M_piece_159 : decode prog_9_method_23_code 159 = .ok (.goto 20, 3) := by decide +kernel
theorem d_M_piece_135 : decode prog_9_method_23_code 135 = .ok (.iload 5, 2) := by decide +kernel
theorem d_M_piece_137 : decode prog_9_method_23_code 137 = .ok (.aload_n 0, 1) := by decide +kernel
theorem d_M_piece_138 : decode prog_9_method_23_code 138 = .ok (.getfield 13, 3) := by decide +kernel
theorem d_M_piece_141 : decode prog_9_method_23_code 141 = .ok (.iload_n 1, 1) := by decide +kernel
theorem d_M_piece_142 : decode prog_9_method_23_code 142 = .ok (.iaload, 1) := by decide +kernel
theorem d_M_piece_143 : decode prog_9_method_23_code 143 = .ok (.isub, 1) := by decide +kernel
theorem d_M_piece_144 : decode prog_9_method_23_code 144 = .ok (.goto 35, 3) := by decide +kernel
theorem d_M_piece_179 : decode prog_9_method_23_code 179 = .ok (.ireturn, 1) := by decide +kernel
theorem d_M_find_0 : decode prog_9_method_24_code 0 = .ok (.aload_n 0, 1) := by decide +kernel
theorem d_M_find_1 : decode prog_9_method_24_code 1 = .ok (.aload_n 0, 1) := by decide +kernel
theorem d_M_find_2 : decode prog_9_method_24_code 2 = .ok (.iload_n 1, 1) := by decide +kernel
theorem d_M_find_3 : decode prog_9_method_24_code 3 = .ok (.iload_n 2, 1) := by decide +kernel
theorem d_M_find_4 : decode prog_9_method_24_code 4 = .ok (.invokevirtual 40, 3) := by decide +kernel
theorem d_M_find_7 : decode prog_9_method_24_code 7 = .ok (.ifCond .eq 7, 3) := by decide +kernel
theorem d_M_find_14 : decode prog_9_method_24_code 14 = .ok (.iconst 1, 1) := by decide +kernel
theorem d_M_find_10 : decode prog_9_method_24_code 10 = .ok (.iconst 0, 1) := by decide +kernel
theorem d_M_find_11 : decode prog_9_method_24_code 11 = .ok (.goto 4, 3) := by decide +kernel
theorem d_M_find_15 : decode prog_9_method_24_code 15 = .ok (.putfield 28, 3) := by decide +kernel
theorem d_M_find_18 : decode prog_9_method_24_code 18 = .ok (.aload_n 0, 1) := by decide +kernel
theorem d_M_find_19 : decode prog_9_method_24_code 19 = .ok (.getfield 28, 3) := by decide +kernel
theorem d_M_find_22 : decode prog_9_method_24_code 22 = .ok (.ifCond .le 5, 3) := by decide +kernel
theorem d_M_find_27 : decode prog_9_method_24_code 27 = .ok (.aload_n 0, 1) := by decide +kernel
theorem d_M_find_28 : decode prog_9_method_24_code 28 = .ok (.getfield 13, 3) := by decide +kernel
theorem d_M_find_31 : decode prog_9_method_24_code 31 = .ok (.iload_n 1, 1) := by decide +kernel
theorem d_M_find_32 : decode prog_9_method_24_code 32 = .ok (.iaload, 1) := by decide +kernel
theorem d_M_find_33 : decode prog_9_method_24_code 33 = .ok (.iload_n 2, 1) := by decide +kernel
theorem d_M_find_34 : decode prog_9_method_24_code 34 = .ok (.iadd, 1) := by decide +kernel
theorem d_M_find_35 : decode prog_9_method_24_code 35 = .ok (.istore 4, 2) := by decide +kernel
theorem d_M_find_25 : decode prog_9_method_24_code 25 = .ok (.iconst 0, 1) := by decide +kernel
theorem d_M_find_26 : decode prog_9_method_24_code 26 = .ok (.ireturn, 1) := by decide +kernel
theorem d_M_find_37 : decode prog_9_method_24_code 37 = .ok (.iload 4, 2) := by decide +kernel
theorem d_M_find_39 : decode prog_9_method_24_code 39 = .ok (.aload_n 0, 1) := by decide +kernel
theorem d_M_find_40 : decode prog_9_method_24_code 40 = .ok (.getfield 13, 3) := by decide +kernel
theorem d_M_find_43 : decode prog_9_method_24_code 43 = .ok (.iload_n 1, 1) := by decide +kernel
theorem d_M_find_44 : decode prog_9_method_24_code 44 = .ok (.iconst 1, 1) := by decide +kernel
theorem d_M_find_45 : decode prog_9_method_24_code 45 = .ok (.iadd, 1) := by decide +kernel
theorem d_M_find_46 : decode prog_9_method_24_code 46 = .ok (.iaload, 1) := by decide +kernel
theorem d_M_find_47 : decode prog_9_method_24_code 47 = .ok (.if_icmp .ge 35, 3) := by decide +kernel
theorem d_M_find_82 : decode prog_9_method_24_code 82 = .ok (.iconst (-1), 1) := by decide +kernel
theorem d_M_find_83 : decode prog_9_method_24_code 83 = .ok (.ireturn, 1) := by decide +kernel
theorem d_M_find_50 : decode prog_9_method_24_code 50 = .ok (.aload_n 0, 1) := by decide +kernel
theorem d_M_find_51 : decode prog_9_method_24_code 51 = .ok (.getfield 7, 3) := by decide +kernel
theorem d_M_find_54 : decode prog_9_method_24_code 54 = .ok (.aload_n 0, 1) := by decide +kernel
theorem d_M_find_55 : decode prog_9_method_24_code 55 = .ok (.getfield 16, 3) := by decide +kernel
theorem d_M_find_58 : decode prog_9_method_24_code 58 = .ok (.iload 4, 2) := by decide +kernel
theorem d_M_find_60 : decode prog_9_method_24_code 60 = .ok (.iaload, 1) := by decide +kernel
theorem d_M_find_61 : decode prog_9_method_24_code 61 = .ok (.iaload, 1) := by decide +kernel
theorem d_M_find_62 : decode prog_9_method_24_code 62 = .ok (.iload_n 3, 1) := by decide +kernel
theorem d_M_find_63 : decode prog_9_method_24_code 63 = .ok (.if_icmp .ne 13, 3) := by decide +kernel
theorem d_M_find_76 : decode prog_9_method_24_code 76 = .ok (.iinc 4 1, 3) := by decide +kernel
theorem d_M_find_79 : decode prog_9_method_24_code 79 = .ok (.goto (-42), 3) := by decide +kernel
theorem d_M_find_66 : decode prog_9_method_24_code 66 = .ok (.iload 4, 2) := by decide +kernel
theorem d_M_find_68 : decode prog_9_method_24_code 68 = .ok (.aload_n 0, 1) := by decide +kernel
theorem d_M_find_69 : decode prog_9_method_24_code 69 = .ok (.getfield 13, 3) := by decide +kernel
theorem d_M_find_72 : decode prog_9_method_24_code 72 = .ok (.iload_n 1, 1) := by decide +kernel
theorem d_M_find_73 : decode prog_9_method_24_code 73 = .ok (.iaload, 1) := by decide +kernel
theorem d_M_find_74 : decode prog_9_method_24_code 74 = .ok (.isub, 1) := by decide +kernel
theorem d_M_find_75 : decode prog_9_method_24_code 75 = .ok (.ireturn, 1) := by decide +kernel
theorem d_M_differ_0 : decode prog_9_method_25_code 0 = .ok (.aload_n 0, 1) := by decide +kernel
theorem d_M_differ_1 : decode prog_9_method_25_code 1 = .ok (.iload_n 1, 1) := by decide +kernel
theorem d_M_differ_2 : decode prog_9_method_25_code 2 = .ok (.invokestatic 32, 3) := by decide +kernel
theorem d_M_differ_5 : decode prog_9_method_25_code 5 = .ok (.ifCond .eq 14, 3) := by decide +kernel
theorem d_M_differ_8 : decode prog_9_method_25_code 8 = .ok (.iload_n 2, 1) := by decide +kernel
theorem d_M_differ_9 : decode prog_9_method_25_code 9 = .ok (.invokestatic 32, 3) := by decide +kernel
theorem d_M_differ_12 : decode prog_9_method_25_code 12 = .ok (.ifCond .eq 7, 3) := by decide +kernel
theorem d_M_differ_15 : decode prog_9_method_25_code 15 = .ok (.iconst 0, 1) := by decide +kernel
theorem d_M_differ_16 : decode prog_9_method_25_code 16 = .ok (.goto 4, 3) := by decide +kernel
theorem d_M_differ_19 : decode prog_9_method_25_code 19 = .ok (.iconst 1, 1) := by decide +kernel
theorem d_M_differ_20 : decode prog_9_method_25_code 20 = .ok (.putfield 28, 3) := by decide +kernel
theorem d_M_differ_23 : decode prog_9_method_25_code 23 = .ok (.aload_n 0, 1) := by decide +kernel
theorem d_M_differ_24 : decode prog_9_method_25_code 24 = .ok (.getfield 28, 3) := by decide +kernel
theorem d_M_differ_27 : decode prog_9_method_25_code 27 = .ok (.ifCond .le 5, 3) := by decide +kernel
theorem d_M_differ_32 : decode prog_9_method_25_code 32 = .ok (.iconst 0, 1) := by decide +kernel
theorem d_M_differ_33 : decode prog_9_method_25_code 33 = .ok (.istore_n 3, 1) := by decide +kernel
theorem d_M_differ_30 : decode prog_9_method_25_code 30 = .ok (.iconst 0, 1) := by decide +kernel
theorem d_M_differ_31 : decode prog_9_method_25_code 31 = .ok (.ireturn, 1) := by decide +kernel
theorem d_M_differ_34 : decode prog_9_method_25_code 34 = .ok (.iload_n 3, 1) := by decide +kernel
theorem d_M_differ_35 : decode prog_9_method_25_code 35 = .ok (.aload_n 0, 1) := by decide +kernel
theorem d_M_differ_36 : decode prog_9_method_25_code 36 = .ok (.iload_n 1, 1) := by decide +kernel
theorem d_M_differ_37 : decode prog_9_method_25_code 37 = .ok (.invokevirtual 36, 3) := by decide +kernel
theorem d_M_differ_40 : decode prog_9_method_25_code 40 = .ok (.if_icmp .ge 57, 3) := by decide +kernel
theorem d_M_differ_43 : decode prog_9_method_25_code 43 = .ok (.iload_n 3, 1) := by decide +kernel
theorem d_M_differ_44 : decode prog_9_method_25_code 44 = .ok (.aload_n 0, 1) := by decide +kernel
theorem d_M_differ_45 : decode prog_9_method_25_code 45 = .ok (.iload_n 2, 1) := by decide +kernel
theorem d_M_differ_46 : decode prog_9_method_25_code 46 = .ok (.invokevirtual 36, 3) := by decide +kernel
theorem d_M_differ_49 : decode prog_9_method_25_code 49 = .ok (.if_icmp .ge 48, 3) := by decide +kernel
theorem d_M_differ_52 : decode prog_9_method_25_code 52 = .ok (.aload_n 0, 1) := by decide +kernel
theorem d_M_differ_53 : decode prog_9_method_25_code 53 = .ok (.getfield 7, 3) := by decide +kernel
theorem d_M_differ_56 : decode prog_9_method_25_code 56 = .ok (.aload_n 0, 1) := by decide +kernel
theorem d_M_differ_57 : decode prog_9_method_25_code 57 = .ok (.getfield 16, 3) := by decide +kernel
theorem d_M_differ_60 : decode prog_9_method_25_code 60 = .ok (.aload_n 0, 1) := by decide +kernel
theorem d_M_differ_61 : decode prog_9_method_25_code 61 = .ok (.getfield 13, 3) := by decide +kernel
theorem d_M_differ_64 : decode prog_9_method_25_code 64 = .ok (.iload_n 1, 1) := by decide +kernel
theorem d_M_differ_65 : decode prog_9_method_25_code 65 = .ok (.iaload, 1) := by decide +kernel
theorem d_M_differ_66 : decode prog_9_method_25_code 66 = .ok (.iload_n 3, 1) := by decide +kernel
theorem d_M_differ_67 : decode prog_9_method_25_code 67 = .ok (.iadd, 1) := by decide +kernel
theorem d_M_differ_68 : decode prog_9_method_25_code 68 = .ok (.iaload, 1) := by decide +kernel
theorem d_M_differ_69 : decode prog_9_method_25_code 69 = .ok (.iaload, 1) := by decide +kernel
theorem d_M_differ_70 : decode prog_9_method_25_code 70 = .ok (.aload_n 0, 1) := by decide +kernel
theorem d_M_differ_71 : decode prog_9_method_25_code 71 = .ok (.getfield 7, 3) := by decide +kernel
theorem d_M_differ_74 : decode prog_9_method_25_code 74 = .ok (.aload_n 0, 1) := by decide +kernel
theorem d_M_differ_75 : decode prog_9_method_25_code 75 = .ok (.getfield 16, 3) := by decide +kernel
theorem d_M_differ_78 : decode prog_9_method_25_code 78 = .ok (.aload_n 0, 1) := by decide +kernel
theorem d_M_differ_79 : decode prog_9_method_25_code 79 = .ok (.getfield 13, 3) := by decide +kernel
theorem d_M_differ_82 : decode prog_9_method_25_code 82 = .ok (.iload_n 2, 1) := by decide +kernel
theorem d_M_differ_83 : decode prog_9_method_25_code 83 = .ok (.iaload, 1) := by decide +kernel
theorem d_M_differ_84 : decode prog_9_method_25_code 84 = .ok (.iload_n 3, 1) := by decide +kernel
theorem d_M_differ_85 : decode prog_9_method_25_code 85 = .ok (.iadd, 1) := by decide +kernel
theorem d_M_differ_86 : decode prog_9_method_25_code 86 = .ok (.iaload, 1) := by decide +kernel
theorem d_M_differ_87 : decode prog_9_method_25_code 87 = .ok (.iaload, 1) := by decide +kernel
theorem d_M_differ_88 : decode prog_9_method_25_code 88 = .ok (.if_icmp .ne 9, 3) := by decide +kernel
theorem d_M_differ_91 : decode prog_9_method_25_code 91 = .ok (.iinc 3 1, 3) := by decide +kernel
theorem d_M_differ_94 : decode prog_9_method_25_code 94 = .ok (.goto (-60), 3) := by decide +kernel
theorem d_M_differ_97 : decode prog_9_method_25_code 97 = .ok (.iload_n 3, 1) := by decide +kernel
theorem d_M_differ_98 : decode prog_9_method_25_code 98 = .ok (.aload_n 0, 1) := by decide +kernel
theorem d_M_differ_99 : decode prog_9_method_25_code 99 = .ok (.iload_n 1, 1) := by decide +kernel
theorem d_M_differ_100 : decode prog_9_method_25_code 100 = .ok (.invokevirtual 36, 3) := by decide +kernel
theorem d_M_differ_103 : decode prog_9_method_25_code 103 = .ok (.if_icmp .lt 12, 3) := by decide +kernel
theorem d_M_differ_106 : decode prog_9_method_25_code 106 = .ok (.iload_n 3, 1) := by decide +kernel
theorem d_M_differ_107 : decode prog_9_method_25_code 107 = .ok (.aload_n 0, 1) := by decide +kernel
theorem d_M_differ_108 : decode prog_9_method_25_code 108 = .ok (.iload_n 2, 1) := by decide +kernel
theorem d_M_differ_109 : decode prog_9_method_25_code 109 = .ok (.invokevirtual 36, 3) := by decide +kernel
theorem d_M_differ_112 : decode prog_9_method_25_code 112 = .ok (.if_icmp .ge 7, 3) := by decide +kernel
theorem d_M_differ_119 : decode prog_9_method_25_code 119 = .ok (.iconst (-1), 1) := by decide +kernel
theorem d_M_differ_115 : decode prog_9_method_25_code 115 = .ok (.iload_n 3, 1) := by decide +kernel
theorem d_M_differ_116 : decode prog_9_method_25_code 116 = .ok (.goto 4, 3) := by decide +kernel
theorem d_M_differ_120 : decode prog_9_method_25_code 120 = .ok (.ireturn, 1) := by decide +kernel
theorem d_M_count_0 : decode prog_9_method_26_code 0 = .ok (.aload_n 0, 1) := by decide +kernel
theorem d_M_count_1 : decode prog_9_method_26_code 1 = .ok (.iconst 0, 1) := by decide +kernel
theorem d_M_count_2 : decode prog_9_method_26_code 2 = .ok (.putfield 28, 3) := by decide +kernel
theorem d_M_count_5 : decode prog_9_method_26_code 5 = .ok (.iload_n 1, 1) := by decide +kernel
theorem d_M_count_6 : decode prog_9_method_26_code 6 = .ok (.ifCond .ne 10, 3) := by decide +kernel
theorem d_M_count_16 : decode prog_9_method_26_code 16 = .ok (.iload_n 1, 1) := by decide +kernel
theorem d_M_count_17 : decode prog_9_method_26_code 17 = .ok (.iconst 1, 1) := by decide +kernel
theorem d_M_count_18 : decode prog_9_method_26_code 18 = .ok (.if_icmp .ne 13, 3) := by decide +kernel
theorem d_M_count_31 : decode prog_9_method_26_code 31 = .ok (.iload_n 1, 1) := by decide +kernel
theorem d_M_count_32 : decode prog_9_method_26_code 32 = .ok (.iconst 2, 1) := by decide +kernel
theorem d_M_count_33 : decode prog_9_method_26_code 33 = .ok (.if_icmp .ne 10, 3) := by decide +kernel
theorem d_M_count_43 : decode prog_9_method_26_code 43 = .ok (.iload_n 1, 1) := by decide +kernel
theorem d_M_count_44 : decode prog_9_method_26_code 44 = .ok (.iconst 3, 1) := by decide +kernel
theorem d_M_count_45 : decode prog_9_method_26_code 45 = .ok (.if_icmp .ne 7, 3) := by decide +kernel
theorem d_M_count_52 : decode prog_9_method_26_code 52 = .ok (.iconst (-1), 1) := by decide +kernel
theorem d_M_count_48 : decode prog_9_method_26_code 48 = .ok (.iconst 1, 1) := by decide +kernel
theorem d_M_count_49 : decode prog_9_method_26_code 49 = .ok (.goto 4, 3) := by decide +kernel
theorem d_M_count_36 : decode prog_9_method_26_code 36 = .ok (.aload_n 0, 1) := by decide +kernel
theorem d_M_count_37 : decode prog_9_method_26_code 37 = .ok (.invokevirtual 62, 3) := by decide +kernel
theorem d_M_count_40 : decode prog_9_method_26_code 40 = .ok (.goto 13, 3) := by decide +kernel
theorem d_M_count_21 : decode prog_9_method_26_code 21 = .ok (.aload_n 0, 1) := by decide +kernel
theorem d_M_count_22 : decode prog_9_method_26_code 22 = .ok (.getfield 13, 3) := by decide +kernel
theorem d_M_count_25 : decode prog_9_method_26_code 25 = .ok (.bipush 16, 2) := by decide +kernel
theorem d_M_count_27 : decode prog_9_method_26_code 27 = .ok (.iaload, 1) := by decide +kernel
theorem d_M_count_28 : decode prog_9_method_26_code 28 = .ok (.goto 25, 3) := by decide +kernel
theorem d_M_count_9 : decode prog_9_method_26_code 9 = .ok (.aload_n 0, 1) := by decide +kernel
theorem d_M_count_10 : decode prog_9_method_26_code 10 = .ok (.getfield 46, 3) := by decide +kernel
theorem d_M_count_13 : decode prog_9_method_26_code 13 = .ok (.goto 40, 3) := by decide +kernel
theorem d_M_count_53 : decode prog_9_method_26_code 53 = .ok (.ireturn, 1) := by decide +kernel
theorem d_L_write_0 : decode method_3_code 0 = .ok (.aload_n 3, 1) := by decide +kernel
theorem d_L_write_1 : decode method_3_code 1 = .ok (.iconst 0, 1) := by decide +kernel
theorem d_L_write_2 : decode method_3_code 2 = .ok (.aload_n 0, 1) := by decide +kernel
theorem d_L_write_3 : decode method_3_code 3 = .ok (.lload_n 1, 1) := by decide +kernel
theorem d_L_write_4 : decode method_3_code 4 = .ok (.invokevirtual 7, 3) := by decide +kernel
theorem d_L_write_7 : decode method_3_code 7 = .ok (.i2l, 1) := by decide +kernel
theorem d_L_write_8 : decode method_3_code 8 = .ok (.lastore, 1) := by decide +kernel
theorem d_L_write_9 : decode method_3_code 9 = .ok (.goto 11, 3) := by decide +kernel
theorem d_L_write_20 : decode method_3_code 20 = .ok (.iconst 0, 1) := by decide +kernel
theorem d_L_write_21 : decode method_3_code 21 = .ok (.ireturn, 1) := by decide +kernel
theorem d_L_write_12 : decode method_3_code 12 = .ok (.astore 4, 2) := by decide +kernel
theorem d_L_write_14 : decode method_3_code 14 = .ok (.iconst 1, 1) := by decide +kernel
theorem d_L_write_15 : decode method_3_code 15 = .ok (.ireturn, 1) := by decide +kernel
theorem d_L_write_16 : decode method_3_code 16 = .ok (.astore 4, 2) := by decide +kernel
theorem d_L_write_18 : decode method_3_code 18 = .ok (.iconst 2, 1) := by decide +kernel
theorem d_L_write_19 : decode method_3_code 19 = .ok (.ireturn, 1) := by decide +kernel
theorem d_L_put_0 : decode method_4_code 0 = .ok (.aload 6, 2) := by decide +kernel
theorem d_L_put_2 : decode method_4_code 2 = .ok (.iconst 0, 1) := by decide +kernel
theorem d_L_put_3 : decode method_4_code 3 = .ok (.aload_n 0, 1) := by decide +kernel
theorem d_L_put_4 : decode method_4_code 4 = .ok (.iload_n 1, 1) := by decide +kernel
theorem d_L_put_5 : decode method_4_code 5 = .ok (.iload_n 2, 1) := by decide +kernel
theorem d_L_put_6 : decode method_4_code 6 = .ok (.iload_n 3, 1) := by decide +kernel
theorem d_L_put_7 : decode method_4_code 7 = .ok (.iload 4, 2) := by decide +kernel
theorem d_L_put_9 : decode method_4_code 9 = .ok (.iload 5, 2) := by decide +kernel
theorem d_L_put_11 : decode method_4_code 11 = .ok (.invokevirtual 17, 3) := by decide +kernel
theorem d_L_put_14 : decode method_4_code 14 = .ok (.i2l, 1) := by decide +kernel
theorem d_L_put_15 : decode method_4_code 15 = .ok (.lastore, 1) := by decide +kernel
theorem d_L_put_16 : decode method_4_code 16 = .ok (.goto 11, 3) := by decide +kernel
theorem d_L_put_27 : decode method_4_code 27 = .ok (.iconst 0, 1) := by decide +kernel
theorem d_L_put_28 : decode method_4_code 28 = .ok (.ireturn, 1) := by decide +kernel
theorem d_L_put_19 : decode method_4_code 19 = .ok (.astore 7, 2) := by decide +kernel
theorem d_L_put_21 : decode method_4_code 21 = .ok (.iconst 1, 1) := by decide +kernel
theorem d_L_put_22 : decode method_4_code 22 = .ok (.ireturn, 1) := by decide +kernel
theorem d_L_put_23 : decode method_4_code 23 = .ok (.astore 7, 2) := by decide +kernel
theorem d_L_put_25 : decode method_4_code 25 = .ok (.iconst 2, 1) := by decide +kernel
theorem d_L_put_26 : decode method_4_code 26 = .ok (.ireturn, 1) := by decide +kernel
theorem d_L_cut_0 : decode method_5_code 0 = .ok (.aload 5, 2) := by decide +kernel
theorem d_L_cut_2 : decode method_5_code 2 = .ok (.iconst 0, 1) := by decide +kernel
theorem d_L_cut_3 : decode method_5_code 3 = .ok (.aload_n 0, 1) := by decide +kernel
theorem d_L_cut_4 : decode method_5_code 4 = .ok (.iload_n 1, 1) := by decide +kernel
theorem d_L_cut_5 : decode method_5_code 5 = .ok (.iload_n 2, 1) := by decide +kernel
theorem d_L_cut_6 : decode method_5_code 6 = .ok (.iload_n 3, 1) := by decide +kernel
theorem d_L_cut_7 : decode method_5_code 7 = .ok (.iload 4, 2) := by decide +kernel
theorem d_L_cut_9 : decode method_5_code 9 = .ok (.invokevirtual 23, 3) := by decide +kernel
theorem d_L_cut_12 : decode method_5_code 12 = .ok (.i2l, 1) := by decide +kernel
theorem d_L_cut_13 : decode method_5_code 13 = .ok (.lastore, 1) := by decide +kernel
theorem d_L_cut_14 : decode method_5_code 14 = .ok (.goto 15, 3) := by decide +kernel
theorem d_L_cut_29 : decode method_5_code 29 = .ok (.iconst 0, 1) := by decide +kernel
theorem d_L_cut_30 : decode method_5_code 30 = .ok (.ireturn, 1) := by decide +kernel
theorem d_L_cut_17 : decode method_5_code 17 = .ok (.astore 6, 2) := by decide +kernel
theorem d_L_cut_19 : decode method_5_code 19 = .ok (.iconst 1, 1) := by decide +kernel
theorem d_L_cut_20 : decode method_5_code 20 = .ok (.ireturn, 1) := by decide +kernel
theorem d_L_cut_21 : decode method_5_code 21 = .ok (.astore 6, 2) := by decide +kernel
theorem d_L_cut_23 : decode method_5_code 23 = .ok (.iconst 2, 1) := by decide +kernel
theorem d_L_cut_24 : decode method_5_code 24 = .ok (.ireturn, 1) := by decide +kernel
theorem d_L_cut_25 : decode method_5_code 25 = .ok (.astore 6, 2) := by decide +kernel
theorem d_L_cut_27 : decode method_5_code 27 = .ok (.iconst 3, 1) := by decide +kernel
theorem d_L_cut_28 : decode method_5_code 28 = .ok (.ireturn, 1) := by decide +kernel
theorem d_L_paste_0 : decode method_6_code 0 = .ok (.aload 4, 2) := by decide +kernel
theorem d_L_paste_2 : decode method_6_code 2 = .ok (.iconst 0, 1) := by decide +kernel
theorem d_L_paste_3 : decode method_6_code 3 = .ok (.aload_n 0, 1) := by decide +kernel
theorem d_L_paste_4 : decode method_6_code 4 = .ok (.iload_n 1, 1) := by decide +kernel
theorem d_L_paste_5 : decode method_6_code 5 = .ok (.iload_n 2, 1) := by decide +kernel
theorem d_L_paste_6 : decode method_6_code 6 = .ok (.iload_n 3, 1) := by decide +kernel
theorem d_L_paste_7 : decode method_6_code 7 = .ok (.invokevirtual 27, 3) := by decide +kernel
theorem d_L_paste_10 : decode method_6_code 10 = .ok (.i2l, 1) := by decide +kernel
theorem d_L_paste_11 : decode method_6_code 11 = .ok (.lastore, 1) := by decide +kernel
theorem d_L_paste_12 : decode method_6_code 12 = .ok (.goto 15, 3) := by decide +kernel
theorem d_L_paste_27 : decode method_6_code 27 = .ok (.iconst 0, 1) := by decide +kernel
theorem d_L_paste_28 : decode method_6_code 28 = .ok (.ireturn, 1) := by decide +kernel
theorem d_L_paste_15 : decode method_6_code 15 = .ok (.astore 5, 2) := by decide +kernel
theorem d_L_paste_17 : decode method_6_code 17 = .ok (.iconst 1, 1) := by decide +kernel
theorem d_L_paste_18 : decode method_6_code 18 = .ok (.ireturn, 1) := by decide +kernel
theorem d_L_paste_19 : decode method_6_code 19 = .ok (.astore 5, 2) := by decide +kernel
theorem d_L_paste_21 : decode method_6_code 21 = .ok (.iconst 2, 1) := by decide +kernel
theorem d_L_paste_22 : decode method_6_code 22 = .ok (.ireturn, 1) := by decide +kernel
theorem d_L_paste_23 : decode method_6_code 23 = .ok (.astore 5, 2) := by decide +kernel
theorem d_L_paste_25 : decode method_6_code 25 = .ok (.iconst 3, 1) := by decide +kernel
theorem d_L_paste_26 : decode method_6_code 26 = .ok (.ireturn, 1) := by decide +kernel
theorem d_L_copy_0 : decode method_7_code 0 = .ok (.aload 5, 2) := by decide +kernel
theorem d_L_copy_2 : decode method_7_code 2 = .ok (.iconst 0, 1) := by decide +kernel
theorem d_L_copy_3 : decode method_7_code 3 = .ok (.aload_n 0, 1) := by decide +kernel
theorem d_L_copy_4 : decode method_7_code 4 = .ok (.iload_n 1, 1) := by decide +kernel
theorem d_L_copy_5 : decode method_7_code 5 = .ok (.iload_n 2, 1) := by decide +kernel
theorem d_L_copy_6 : decode method_7_code 6 = .ok (.iload_n 3, 1) := by decide +kernel
theorem d_L_copy_7 : decode method_7_code 7 = .ok (.iload 4, 2) := by decide +kernel
theorem d_L_copy_9 : decode method_7_code 9 = .ok (.invokevirtual 31, 3) := by decide +kernel
theorem d_L_copy_12 : decode method_7_code 12 = .ok (.i2l, 1) := by decide +kernel
theorem d_L_copy_13 : decode method_7_code 13 = .ok (.lastore, 1) := by decide +kernel
theorem d_L_copy_14 : decode method_7_code 14 = .ok (.goto 15, 3) := by decide +kernel
theorem d_L_copy_29 : decode method_7_code 29 = .ok (.iconst 0, 1) := by decide +kernel
theorem d_L_copy_30 : decode method_7_code 30 = .ok (.ireturn, 1) := by decide +kernel
theorem d_L_copy_17 : decode method_7_code 17 = .ok (.astore 6, 2) := by decide +kernel
theorem d_L_copy_19 : decode method_7_code 19 = .ok (.iconst 1, 1) := by decide +kernel
theorem d_L_copy_20 : decode method_7_code 20 = .ok (.ireturn, 1) := by decide +kernel
theorem d_L_copy_21 : decode method_7_code 21 = .ok (.astore 6, 2) := by decide +kernel
theorem d_L_copy_23 : decode method_7_code 23 = .ok (.iconst 2, 1) := by decide +kernel
theorem d_L_copy_24 : decode method_7_code 24 = .ok (.ireturn, 1) := by decide +kernel
theorem d_L_copy_25 : decode method_7_code 25 = .ok (.astore 6, 2) := by decide +kernel
theorem d_L_copy_27 : decode method_7_code 27 = .ok (.iconst 3, 1) := by decide +kernel
theorem d_L_copy_28 : decode method_7_code 28 = .ok (.ireturn, 1) := by decide +kernel
theorem d_L_tag_0 : decode method_8_code 0 = .ok (.aload 6, 2) := by decide +kernel
theorem d_L_tag_2 : decode method_8_code 2 = .ok (.iconst 0, 1) := by decide +kernel
theorem d_L_tag_3 : decode method_8_code 3 = .ok (.aload_n 0, 1) := by decide +kernel
theorem d_L_tag_4 : decode method_8_code 4 = .ok (.iload_n 1, 1) := by decide +kernel
theorem d_L_tag_5 : decode method_8_code 5 = .ok (.iload_n 2, 1) := by decide +kernel
theorem d_L_tag_6 : decode method_8_code 6 = .ok (.iload_n 3, 1) := by decide +kernel
theorem d_L_tag_7 : decode method_8_code 7 = .ok (.iload 4, 2) := by decide +kernel
theorem d_L_tag_9 : decode method_8_code 9 = .ok (.iload 5, 2) := by decide +kernel
theorem d_L_tag_11 : decode method_8_code 11 = .ok (.invokevirtual 34, 3) := by decide +kernel
theorem d_L_tag_14 : decode method_8_code 14 = .ok (.i2l, 1) := by decide +kernel
theorem d_L_tag_15 : decode method_8_code 15 = .ok (.lastore, 1) := by decide +kernel
theorem d_L_tag_16 : decode method_8_code 16 = .ok (.goto 11, 3) := by decide +kernel
theorem d_L_tag_27 : decode method_8_code 27 = .ok (.iconst 0, 1) := by decide +kernel
theorem d_L_tag_28 : decode method_8_code 28 = .ok (.ireturn, 1) := by decide +kernel
theorem d_L_tag_19 : decode method_8_code 19 = .ok (.astore 7, 2) := by decide +kernel
theorem d_L_tag_21 : decode method_8_code 21 = .ok (.iconst 1, 1) := by decide +kernel
theorem d_L_tag_22 : decode method_8_code 22 = .ok (.ireturn, 1) := by decide +kernel
theorem d_L_tag_23 : decode method_8_code 23 = .ok (.astore 7, 2) := by decide +kernel
theorem d_L_tag_25 : decode method_8_code 25 = .ok (.iconst 2, 1) := by decide +kernel
theorem d_L_tag_26 : decode method_8_code 26 = .ok (.ireturn, 1) := by decide +kernel
theorem d_L_wipe_0 : decode method_9_code 0 = .ok (.aload_n 2, 1) := by decide +kernel
theorem d_L_wipe_1 : decode method_9_code 1 = .ok (.iconst 0, 1) := by decide +kernel
theorem d_L_wipe_2 : decode method_9_code 2 = .ok (.aload_n 0, 1) := by decide +kernel
theorem d_L_wipe_3 : decode method_9_code 3 = .ok (.iload_n 1, 1) := by decide +kernel
theorem d_L_wipe_4 : decode method_9_code 4 = .ok (.invokevirtual 37, 3) := by decide +kernel
theorem d_L_wipe_7 : decode method_9_code 7 = .ok (.i2l, 1) := by decide +kernel
theorem d_L_wipe_8 : decode method_9_code 8 = .ok (.lastore, 1) := by decide +kernel
theorem d_L_wipe_9 : decode method_9_code 9 = .ok (.goto 6, 3) := by decide +kernel
theorem d_L_wipe_15 : decode method_9_code 15 = .ok (.iconst 0, 1) := by decide +kernel
theorem d_L_wipe_16 : decode method_9_code 16 = .ok (.ireturn, 1) := by decide +kernel
theorem d_L_wipe_12 : decode method_9_code 12 = .ok (.astore_n 3, 1) := by decide +kernel
theorem d_L_wipe_13 : decode method_9_code 13 = .ok (.iconst 1, 1) := by decide +kernel
theorem d_L_wipe_14 : decode method_9_code 14 = .ok (.ireturn, 1) := by decide +kernel
theorem d_L_look_0 : decode method_10_code 0 = .ok (.aload 4, 2) := by decide +kernel
theorem d_L_look_2 : decode method_10_code 2 = .ok (.iconst 0, 1) := by decide +kernel
theorem d_L_look_3 : decode method_10_code 3 = .ok (.aload_n 0, 1) := by decide +kernel
theorem d_L_look_4 : decode method_10_code 4 = .ok (.iload_n 1, 1) := by decide +kernel
theorem d_L_look_5 : decode method_10_code 5 = .ok (.iload_n 2, 1) := by decide +kernel
theorem d_L_look_6 : decode method_10_code 6 = .ok (.iload_n 3, 1) := by decide +kernel
theorem d_L_look_7 : decode method_10_code 7 = .ok (.invokevirtual 41, 3) := by decide +kernel
theorem d_L_look_10 : decode method_10_code 10 = .ok (.i2l, 1) := by decide +kernel
theorem d_L_look_11 : decode method_10_code 11 = .ok (.lastore, 1) := by decide +kernel
theorem d_L_look_12 : decode method_10_code 12 = .ok (.goto 11, 3) := by decide +kernel
theorem d_L_look_23 : decode method_10_code 23 = .ok (.iconst 0, 1) := by decide +kernel
theorem d_L_look_24 : decode method_10_code 24 = .ok (.ireturn, 1) := by decide +kernel
theorem d_L_look_15 : decode method_10_code 15 = .ok (.astore 5, 2) := by decide +kernel
theorem d_L_look_17 : decode method_10_code 17 = .ok (.iconst 1, 1) := by decide +kernel
theorem d_L_look_18 : decode method_10_code 18 = .ok (.ireturn, 1) := by decide +kernel
theorem d_L_look_19 : decode method_10_code 19 = .ok (.astore 5, 2) := by decide +kernel
theorem d_L_look_21 : decode method_10_code 21 = .ok (.iconst 2, 1) := by decide +kernel
theorem d_L_look_22 : decode method_10_code 22 = .ok (.ireturn, 1) := by decide +kernel
theorem d_L_piece_0 : decode method_11_code 0 = .ok (.aload 4, 2) := by decide +kernel
theorem d_L_piece_2 : decode method_11_code 2 = .ok (.iconst 0, 1) := by decide +kernel
theorem d_L_piece_3 : decode method_11_code 3 = .ok (.aload_n 0, 1) := by decide +kernel
theorem d_L_piece_4 : decode method_11_code 4 = .ok (.iload_n 1, 1) := by decide +kernel
theorem d_L_piece_5 : decode method_11_code 5 = .ok (.iload_n 2, 1) := by decide +kernel
theorem d_L_piece_6 : decode method_11_code 6 = .ok (.iload_n 3, 1) := by decide +kernel
theorem d_L_piece_7 : decode method_11_code 7 = .ok (.invokevirtual 44, 3) := by decide +kernel
theorem d_L_piece_10 : decode method_11_code 10 = .ok (.i2l, 1) := by decide +kernel
theorem d_L_piece_11 : decode method_11_code 11 = .ok (.lastore, 1) := by decide +kernel
theorem d_L_piece_12 : decode method_11_code 12 = .ok (.goto 11, 3) := by decide +kernel
theorem d_L_piece_23 : decode method_11_code 23 = .ok (.iconst 0, 1) := by decide +kernel
theorem d_L_piece_24 : decode method_11_code 24 = .ok (.ireturn, 1) := by decide +kernel
theorem d_L_piece_15 : decode method_11_code 15 = .ok (.astore 5, 2) := by decide +kernel
theorem d_L_piece_17 : decode method_11_code 17 = .ok (.iconst 1, 1) := by decide +kernel
theorem d_L_piece_18 : decode method_11_code 18 = .ok (.ireturn, 1) := by decide +kernel
theorem d_L_piece_19 : decode method_11_code 19 = .ok (.astore 5, 2) := by decide +kernel
theorem d_L_piece_21 : decode method_11_code 21 = .ok (.iconst 2, 1) := by decide +kernel
theorem d_L_piece_22 : decode method_11_code 22 = .ok (.ireturn, 1) := by decide +kernel
theorem d_L_find_0 : decode method_12_code 0 = .ok (.aload 4, 2) := by decide +kernel
theorem d_L_find_2 : decode method_12_code 2 = .ok (.iconst 0, 1) := by decide +kernel
theorem d_L_find_3 : decode method_12_code 3 = .ok (.aload_n 0, 1) := by decide +kernel
theorem d_L_find_4 : decode method_12_code 4 = .ok (.iload_n 1, 1) := by decide +kernel
theorem d_L_find_5 : decode method_12_code 5 = .ok (.iload_n 2, 1) := by decide +kernel
theorem d_L_find_6 : decode method_12_code 6 = .ok (.iload_n 3, 1) := by decide +kernel
theorem d_L_find_7 : decode method_12_code 7 = .ok (.invokevirtual 47, 3) := by decide +kernel
theorem d_L_find_10 : decode method_12_code 10 = .ok (.i2l, 1) := by decide +kernel
theorem d_L_find_11 : decode method_12_code 11 = .ok (.lastore, 1) := by decide +kernel
theorem d_L_find_12 : decode method_12_code 12 = .ok (.goto 7, 3) := by decide +kernel
theorem d_L_find_19 : decode method_12_code 19 = .ok (.iconst 0, 1) := by decide +kernel
theorem d_L_find_20 : decode method_12_code 20 = .ok (.ireturn, 1) := by decide +kernel
theorem d_L_find_15 : decode method_12_code 15 = .ok (.astore 5, 2) := by decide +kernel
theorem d_L_find_17 : decode method_12_code 17 = .ok (.iconst 1, 1) := by decide +kernel
theorem d_L_find_18 : decode method_12_code 18 = .ok (.ireturn, 1) := by decide +kernel
theorem d_L_differ_0 : decode method_13_code 0 = .ok (.aload_n 3, 1) := by decide +kernel
theorem d_L_differ_1 : decode method_13_code 1 = .ok (.iconst 0, 1) := by decide +kernel
theorem d_L_differ_2 : decode method_13_code 2 = .ok (.aload_n 0, 1) := by decide +kernel
theorem d_L_differ_3 : decode method_13_code 3 = .ok (.iload_n 1, 1) := by decide +kernel
theorem d_L_differ_4 : decode method_13_code 4 = .ok (.iload_n 2, 1) := by decide +kernel
theorem d_L_differ_5 : decode method_13_code 5 = .ok (.invokevirtual 50, 3) := by decide +kernel
theorem d_L_differ_8 : decode method_13_code 8 = .ok (.i2l, 1) := by decide +kernel
theorem d_L_differ_9 : decode method_13_code 9 = .ok (.lastore, 1) := by decide +kernel
theorem d_L_differ_10 : decode method_13_code 10 = .ok (.goto 7, 3) := by decide +kernel
theorem d_L_differ_17 : decode method_13_code 17 = .ok (.iconst 0, 1) := by decide +kernel
theorem d_L_differ_18 : decode method_13_code 18 = .ok (.ireturn, 1) := by decide +kernel
theorem d_L_differ_13 : decode method_13_code 13 = .ok (.astore 4, 2) := by decide +kernel
theorem d_L_differ_15 : decode method_13_code 15 = .ok (.iconst 1, 1) := by decide +kernel
theorem d_L_differ_16 : decode method_13_code 16 = .ok (.ireturn, 1) := by decide +kernel
theorem d_L_law_0 : decode code 0 = .ok (.new 8, 3) := by decide +kernel
theorem d_L_law_3 : decode code 3 = .ok (.dup, 1) := by decide +kernel
theorem d_L_law_4 : decode code 4 = .ok (.invokespecial 54, 3) := by decide +kernel
theorem d_L_law_7 : decode code 7 = .ok (.astore_n 1, 1) := by decide +kernel
theorem d_L_law_8 : decode code 8 = .ok (.new 55, 3) := by decide +kernel
theorem d_L_law_11 : decode code 11 = .ok (.dup, 1) := by decide +kernel
theorem d_L_law_12 : decode code 12 = .ok (.invokespecial 57, 3) := by decide +kernel
theorem d_L_law_15 : decode code 15 = .ok (.astore_n 2, 1) := by decide +kernel
theorem d_L_law_16 : decode code 16 = .ok (.iconst 1, 1) := by decide +kernel
theorem d_L_law_17 : decode code 17 = .ok (.newarray .long, 2) := by decide +kernel
theorem d_L_law_19 : decode code 19 = .ok (.astore_n 3, 1) := by decide +kernel
theorem d_L_law_20 : decode code 20 = .ok (.iconst 0, 1) := by decide +kernel
theorem d_L_law_21 : decode code 21 = .ok (.istore 4, 2) := by decide +kernel
theorem d_L_law_23 : decode code 23 = .ok (.iload 4, 2) := by decide +kernel
theorem d_L_law_25 : decode code 25 = .ok (.aload_n 0, 1) := by decide +kernel
theorem d_L_law_26 : decode code 26 = .ok (.arraylength, 1) := by decide +kernel
theorem d_L_law_27 : decode code 27 = .ok (.bipush 6, 2) := by decide +kernel
theorem d_L_law_29 : decode code 29 = .ok (.isub, 1) := by decide +kernel
theorem d_L_law_30 : decode code 30 = .ok (.if_icmp .gt 1058, 3) := by decide +kernel
theorem d_L_law_1088 : decode code 1088 = .ok (.iconst 1, 1) := by decide +kernel
theorem d_L_law_1089 : decode code 1089 = .ok (.ireturn, 1) := by decide +kernel
theorem d_L_law_33 : decode code 33 = .ok (.aload_n 0, 1) := by decide +kernel
theorem d_L_law_34 : decode code 34 = .ok (.iload 4, 2) := by decide +kernel
theorem d_L_law_36 : decode code 36 = .ok (.iaload, 1) := by decide +kernel
theorem d_L_law_37 : decode code 37 = .ok (.bipush 15, 2) := by decide +kernel
theorem d_L_law_39 : decode code 39 = .ok (.iand, 1) := by decide +kernel
theorem d_L_law_40 : decode code 40 = .ok (.tableswitch 1042 0 12 #[68, 156, 260, 352, 432, 524, 628, 684, 709, 789, 869, 949, 1017], 68) := by decide +kernel
theorem d_L_law_108 : decode code 108 = .ok (.aload_n 1, 1) := by decide +kernel
theorem d_L_law_109 : decode code 109 = .ok (.aload_n 0, 1) := by decide +kernel
theorem d_L_law_110 : decode code 110 = .ok (.iload 4, 2) := by decide +kernel
theorem d_L_law_112 : decode code 112 = .ok (.iconst 1, 1) := by decide +kernel
theorem d_L_law_113 : decode code 113 = .ok (.iadd, 1) := by decide +kernel
theorem d_L_law_114 : decode code 114 = .ok (.iaload, 1) := by decide +kernel
theorem d_L_law_115 : decode code 115 = .ok (.i2l, 1) := by decide +kernel
theorem d_L_law_116 : decode code 116 = .ok (.bipush 32, 2) := by decide +kernel
theorem d_L_law_118 : decode code 118 = .ok (.lshl, 1) := by decide +kernel
theorem d_L_law_119 : decode code 119 = .ok (.aload_n 0, 1) := by decide +kernel
theorem d_L_law_120 : decode code 120 = .ok (.iload 4, 2) := by decide +kernel
theorem d_L_law_122 : decode code 122 = .ok (.iconst 2, 1) := by decide +kernel
theorem d_L_law_123 : decode code 123 = .ok (.iadd, 1) := by decide +kernel
theorem d_L_law_124 : decode code 124 = .ok (.iaload, 1) := by decide +kernel
theorem d_L_law_125 : decode code 125 = .ok (.i2l, 1) := by decide +kernel
theorem d_L_law_126 : decode code 126 = .ok (.ldc2_w 58, 3) := by decide +kernel
theorem d_L_law_129 : decode code 129 = .ok (.land, 1) := by decide +kernel
theorem d_L_law_130 : decode code 130 = .ok (.lor, 1) := by decide +kernel
theorem d_L_law_131 : decode code 131 = .ok (.aload_n 3, 1) := by decide +kernel
theorem d_L_law_132 : decode code 132 = .ok (.invokestatic 60, 3) := by decide +kernel
theorem d_L_law_135 : decode code 135 = .ok (.istore 5, 2) := by decide +kernel
theorem d_L_law_137 : decode code 137 = .ok (.aload_n 2, 1) := by decide +kernel
theorem d_L_law_138 : decode code 138 = .ok (.aload_n 0, 1) := by decide +kernel
theorem d_L_law_139 : decode code 139 = .ok (.iload 4, 2) := by decide +kernel
theorem d_L_law_141 : decode code 141 = .ok (.iconst 1, 1) := by decide +kernel
theorem d_L_law_142 : decode code 142 = .ok (.iadd, 1) := by decide +kernel
theorem d_L_law_143 : decode code 143 = .ok (.iaload, 1) := by decide +kernel
theorem d_L_law_144 : decode code 144 = .ok (.i2l, 1) := by decide +kernel
theorem d_L_law_145 : decode code 145 = .ok (.bipush 32, 2) := by decide +kernel
theorem d_L_law_147 : decode code 147 = .ok (.lshl, 1) := by decide +kernel
theorem d_L_law_148 : decode code 148 = .ok (.aload_n 0, 1) := by decide +kernel
theorem d_L_law_149 : decode code 149 = .ok (.iload 4, 2) := by decide +kernel
theorem d_L_law_151 : decode code 151 = .ok (.iconst 2, 1) := by decide +kernel
theorem d_L_law_152 : decode code 152 = .ok (.iadd, 1) := by decide +kernel
theorem d_L_law_153 : decode code 153 = .ok (.iaload, 1) := by decide +kernel
theorem d_L_law_154 : decode code 154 = .ok (.i2l, 1) := by decide +kernel
theorem d_L_law_155 : decode code 155 = .ok (.ldc2_w 58, 3) := by decide +kernel
theorem d_L_law_158 : decode code 158 = .ok (.land, 1) := by decide +kernel
theorem d_L_law_159 : decode code 159 = .ok (.lor, 1) := by decide +kernel
theorem d_L_law_160 : decode code 160 = .ok (.invokevirtual 65, 3) := by decide +kernel
theorem d_L_law_163 : decode code 163 = .ok (.istore 6, 2) := by decide +kernel
theorem d_L_law_165 : decode code 165 = .ok (.aload_n 2, 1) := by decide +kernel
theorem d_L_law_166 : decode code 166 = .ok (.invokevirtual 66, 3) := by decide +kernel
theorem d_L_law_169 : decode code 169 = .ok (.iload 5, 2) := by decide +kernel
theorem d_L_law_171 : decode code 171 = .ok (.if_icmp .eq 5, 3) := by decide +kernel
end
section
theorem d_L_law_176 : decode code 176 = .ok (.iload 5, 2) := by decide +kernel
theorem d_L_law_178 : decode code 178 = .ok (.ifCond .ne 15, 3) := by decide +kernel
theorem d_L_law_181 : decode code 181 = .ok (.aload_n 3, 1) := by decide +kernel
theorem d_L_law_182 : decode code 182 = .ok (.iconst 0, 1) := by decide +kernel
theorem d_L_law_183 : decode code 183 = .ok (.laload, 1) := by decide +kernel
theorem d_L_law_184 : decode code 184 = .ok (.iload 6, 2) := by decide +kernel
theorem d_L_law_186 : decode code 186 = .ok (.i2l, 1) := by decide +kernel
theorem d_L_law_187 : decode code 187 = .ok (.lcmp, 1) := by decide +kernel
theorem d_L_law_188 : decode code 188 = .ok (.ifCond .eq 5, 3) := by decide +kernel
theorem d_L_law_191 : decode code 191 = .ok (.iconst 0, 1) := by decide +kernel
theorem d_L_law_192 : decode code 192 = .ok (.ireturn, 1) := by decide +kernel
theorem d_L_law_174 : decode code 174 = .ok (.iconst 0, 1) := by decide +kernel
theorem d_L_law_175 : decode code 175 = .ok (.ireturn, 1) := by decide +kernel
theorem d_L_law_196 : decode code 196 = .ok (.aload_n 1, 1) := by decide +kernel
theorem d_L_law_197 : decode code 197 = .ok (.aload_n 0, 1) := by decide +kernel
theorem d_L_law_198 : decode code 198 = .ok (.iload 4, 2) := by decide +kernel
theorem d_L_law_200 : decode code 200 = .ok (.iconst 1, 1) := by decide +kernel
theorem d_L_law_201 : decode code 201 = .ok (.iadd, 1) := by decide +kernel
theorem d_L_law_202 : decode code 202 = .ok (.iaload, 1) := by decide +kernel
theorem d_L_law_203 : decode code 203 = .ok (.aload_n 0, 1) := by decide +kernel
theorem d_L_law_204 : decode code 204 = .ok (.iload 4, 2) := by decide +kernel
theorem d_L_law_206 : decode code 206 = .ok (.iconst 2, 1) := by decide +kernel
theorem d_L_law_207 : decode code 207 = .ok (.iadd, 1) := by decide +kernel
theorem d_L_law_208 : decode code 208 = .ok (.iaload, 1) := by decide +kernel
theorem d_L_law_209 : decode code 209 = .ok (.aload_n 0, 1) := by decide +kernel
theorem d_L_law_210 : decode code 210 = .ok (.iload 4, 2) := by decide +kernel
theorem d_L_law_212 : decode code 212 = .ok (.iconst 3, 1) := by decide +kernel
theorem d_L_law_213 : decode code 213 = .ok (.iadd, 1) := by decide +kernel
theorem d_L_law_214 : decode code 214 = .ok (.iaload, 1) := by decide +kernel
theorem d_L_law_215 : decode code 215 = .ok (.aload_n 0, 1) := by decide +kernel
theorem d_L_law_216 : decode code 216 = .ok (.iload 4, 2) := by decide +kernel
theorem d_L_law_218 : decode code 218 = .ok (.iconst 4, 1) := by decide +kernel
theorem d_L_law_219 : decode code 219 = .ok (.iadd, 1) := by decide +kernel
theorem d_L_law_220 : decode code 220 = .ok (.iaload, 1) := by decide +kernel
theorem d_L_law_221 : decode code 221 = .ok (.aload_n 0, 1) := by decide +kernel
theorem d_L_law_222 : decode code 222 = .ok (.iload 4, 2) := by decide +kernel
theorem d_L_law_224 : decode code 224 = .ok (.iconst 5, 1) := by decide +kernel
theorem d_L_law_225 : decode code 225 = .ok (.iadd, 1) := by decide +kernel
theorem d_L_law_226 : decode code 226 = .ok (.iaload, 1) := by decide +kernel
theorem d_L_law_227 : decode code 227 = .ok (.aload_n 3, 1) := by decide +kernel
theorem d_L_law_228 : decode code 228 = .ok (.invokestatic 70, 3) := by decide +kernel
theorem d_L_law_231 : decode code 231 = .ok (.istore 5, 2) := by decide +kernel
theorem d_L_law_233 : decode code 233 = .ok (.aload_n 2, 1) := by decide +kernel
theorem d_L_law_234 : decode code 234 = .ok (.aload_n 0, 1) := by decide +kernel
theorem d_L_law_235 : decode code 235 = .ok (.iload 4, 2) := by decide +kernel
theorem d_L_law_237 : decode code 237 = .ok (.iconst 1, 1) := by decide +kernel
theorem d_L_law_238 : decode code 238 = .ok (.iadd, 1) := by decide +kernel
theorem d_L_law_239 : decode code 239 = .ok (.iaload, 1) := by decide +kernel
theorem d_L_law_240 : decode code 240 = .ok (.aload_n 0, 1) := by decide +kernel
theorem d_L_law_241 : decode code 241 = .ok (.iload 4, 2) := by decide +kernel
theorem d_L_law_243 : decode code 243 = .ok (.iconst 2, 1) := by decide +kernel
theorem d_L_law_244 : decode code 244 = .ok (.iadd, 1) := by decide +kernel
theorem d_L_law_245 : decode code 245 = .ok (.iaload, 1) := by decide +kernel
theorem d_L_law_246 : decode code 246 = .ok (.aload_n 0, 1) := by decide +kernel
theorem d_L_law_247 : decode code 247 = .ok (.iload 4, 2) := by decide +kernel
theorem d_L_law_249 : decode code 249 = .ok (.iconst 3, 1) := by decide +kernel
theorem d_L_law_250 : decode code 250 = .ok (.iadd, 1) := by decide +kernel
theorem d_L_law_251 : decode code 251 = .ok (.iaload, 1) := by decide +kernel
theorem d_L_law_252 : decode code 252 = .ok (.aload_n 0, 1) := by decide +kernel
theorem d_L_law_253 : decode code 253 = .ok (.iload 4, 2) := by decide +kernel
theorem d_L_law_255 : decode code 255 = .ok (.iconst 4, 1) := by decide +kernel
theorem d_L_law_256 : decode code 256 = .ok (.iadd, 1) := by decide +kernel
theorem d_L_law_257 : decode code 257 = .ok (.iaload, 1) := by decide +kernel
theorem d_L_law_258 : decode code 258 = .ok (.aload_n 0, 1) := by decide +kernel
theorem d_L_law_259 : decode code 259 = .ok (.iload 4, 2) := by decide +kernel
theorem d_L_law_261 : decode code 261 = .ok (.iconst 5, 1) := by decide +kernel
theorem d_L_law_262 : decode code 262 = .ok (.iadd, 1) := by decide +kernel
theorem d_L_law_263 : decode code 263 = .ok (.iaload, 1) := by decide +kernel
theorem d_L_law_264 : decode code 264 = .ok (.invokevirtual 73, 3) := by decide +kernel
theorem d_L_law_267 : decode code 267 = .ok (.istore 6, 2) := by decide +kernel
theorem d_L_law_269 : decode code 269 = .ok (.aload_n 2, 1) := by decide +kernel
theorem d_L_law_270 : decode code 270 = .ok (.invokevirtual 66, 3) := by decide +kernel
theorem d_L_law_273 : decode code 273 = .ok (.iload 5, 2) := by decide +kernel
theorem d_L_law_275 : decode code 275 = .ok (.if_icmp .eq 5, 3) := by decide +kernel
theorem d_L_law_280 : decode code 280 = .ok (.iload 5, 2) := by decide +kernel
theorem d_L_law_282 : decode code 282 = .ok (.ifCond .ne 15, 3) := by decide +kernel
theorem d_L_law_285 : decode code 285 = .ok (.aload_n 3, 1) := by decide +kernel
theorem d_L_law_286 : decode code 286 = .ok (.iconst 0, 1) := by decide +kernel
theorem d_L_law_287 : decode code 287 = .ok (.laload, 1) := by decide +kernel
theorem d_L_law_288 : decode code 288 = .ok (.iload 6, 2) := by decide +kernel
theorem d_L_law_290 : decode code 290 = .ok (.i2l, 1) := by decide +kernel
theorem d_L_law_291 : decode code 291 = .ok (.lcmp, 1) := by decide +kernel
theorem d_L_law_292 : decode code 292 = .ok (.ifCond .eq 5, 3) := by decide +kernel
theorem d_L_law_295 : decode code 295 = .ok (.iconst 0, 1) := by decide +kernel
theorem d_L_law_296 : decode code 296 = .ok (.ireturn, 1) := by decide +kernel
theorem d_L_law_278 : decode code 278 = .ok (.iconst 0, 1) := by decide +kernel
theorem d_L_law_279 : decode code 279 = .ok (.ireturn, 1) := by decide +kernel
theorem d_L_law_300 : decode code 300 = .ok (.aload_n 1, 1) := by decide +kernel
theorem d_L_law_301 : decode code 301 = .ok (.aload_n 0, 1) := by decide +kernel
theorem d_L_law_302 : decode code 302 = .ok (.iload 4, 2) := by decide +kernel
theorem d_L_law_304 : decode code 304 = .ok (.iconst 1, 1) := by decide +kernel
theorem d_L_law_305 : decode code 305 = .ok (.iadd, 1) := by decide +kernel
theorem d_L_law_306 : decode code 306 = .ok (.iaload, 1) := by decide +kernel
theorem d_L_law_307 : decode code 307 = .ok (.aload_n 0, 1) := by decide +kernel
theorem d_L_law_308 : decode code 308 = .ok (.iload 4, 2) := by decide +kernel
theorem d_L_law_310 : decode code 310 = .ok (.iconst 2, 1) := by decide +kernel
theorem d_L_law_311 : decode code 311 = .ok (.iadd, 1) := by decide +kernel
theorem d_L_law_312 : decode code 312 = .ok (.iaload, 1) := by decide +kernel
theorem d_L_law_313 : decode code 313 = .ok (.aload_n 0, 1) := by decide +kernel
theorem d_L_law_314 : decode code 314 = .ok (.iload 4, 2) := by decide +kernel
theorem d_L_law_316 : decode code 316 = .ok (.iconst 3, 1) := by decide +kernel
theorem d_L_law_317 : decode code 317 = .ok (.iadd, 1) := by decide +kernel
theorem d_L_law_318 : decode code 318 = .ok (.iaload, 1) := by decide +kernel
theorem d_L_law_319 : decode code 319 = .ok (.aload_n 0, 1) := by decide +kernel
theorem d_L_law_320 : decode code 320 = .ok (.iload 4, 2) := by decide +kernel
theorem d_L_law_322 : decode code 322 = .ok (.iconst 4, 1) := by decide +kernel
theorem d_L_law_323 : decode code 323 = .ok (.iadd, 1) := by decide +kernel
theorem d_L_law_324 : decode code 324 = .ok (.iaload, 1) := by decide +kernel
theorem d_L_law_325 : decode code 325 = .ok (.aload_n 3, 1) := by decide +kernel
theorem d_L_law_326 : decode code 326 = .ok (.invokestatic 74, 3) := by decide +kernel
theorem d_L_law_329 : decode code 329 = .ok (.istore 5, 2) := by decide +kernel
theorem d_L_law_331 : decode code 331 = .ok (.aload_n 2, 1) := by decide +kernel
theorem d_L_law_332 : decode code 332 = .ok (.aload_n 0, 1) := by decide +kernel
theorem d_L_law_333 : decode code 333 = .ok (.iload 4, 2) := by decide +kernel
theorem d_L_law_335 : decode code 335 = .ok (.iconst 1, 1) := by decide +kernel
theorem d_L_law_336 : decode code 336 = .ok (.iadd, 1) := by decide +kernel
theorem d_L_law_337 : decode code 337 = .ok (.iaload, 1) := by decide +kernel
theorem d_L_law_338 : decode code 338 = .ok (.aload_n 0, 1) := by decide +kernel
theorem d_L_law_339 : decode code 339 = .ok (.iload 4, 2) := by decide +kernel
theorem d_L_law_341 : decode code 341 = .ok (.iconst 2, 1) := by decide +kernel
theorem d_L_law_342 : decode code 342 = .ok (.iadd, 1) := by decide +kernel
theorem d_L_law_343 : decode code 343 = .ok (.iaload, 1) := by decide +kernel
theorem d_L_law_344 : decode code 344 = .ok (.aload_n 0, 1) := by decide +kernel
theorem d_L_law_345 : decode code 345 = .ok (.iload 4, 2) := by decide +kernel
theorem d_L_law_347 : decode code 347 = .ok (.iconst 3, 1) := by decide +kernel
theorem d_L_law_348 : decode code 348 = .ok (.iadd, 1) := by decide +kernel
theorem d_L_law_349 : decode code 349 = .ok (.iaload, 1) := by decide +kernel
theorem d_L_law_350 : decode code 350 = .ok (.aload_n 0, 1) := by decide +kernel
theorem d_L_law_351 : decode code 351 = .ok (.iload 4, 2) := by decide +kernel
theorem d_L_law_353 : decode code 353 = .ok (.iconst 4, 1) := by decide +kernel
theorem d_L_law_354 : decode code 354 = .ok (.iadd, 1) := by decide +kernel
theorem d_L_law_355 : decode code 355 = .ok (.iaload, 1) := by decide +kernel
theorem d_L_law_356 : decode code 356 = .ok (.invokevirtual 77, 3) := by decide +kernel
theorem d_L_law_359 : decode code 359 = .ok (.istore 6, 2) := by decide +kernel
theorem d_L_law_361 : decode code 361 = .ok (.aload_n 2, 1) := by decide +kernel
theorem d_L_law_362 : decode code 362 = .ok (.invokevirtual 66, 3) := by decide +kernel
theorem d_L_law_365 : decode code 365 = .ok (.iload 5, 2) := by decide +kernel
theorem d_L_law_367 : decode code 367 = .ok (.if_icmp .eq 5, 3) := by decide +kernel
theorem d_L_law_372 : decode code 372 = .ok (.iload 5, 2) := by decide +kernel
theorem d_L_law_374 : decode code 374 = .ok (.ifCond .ne 15, 3) := by decide +kernel
theorem d_L_law_377 : decode code 377 = .ok (.aload_n 3, 1) := by decide +kernel
theorem d_L_law_378 : decode code 378 = .ok (.iconst 0, 1) := by decide +kernel
theorem d_L_law_379 : decode code 379 = .ok (.laload, 1) := by decide +kernel
theorem d_L_law_380 : decode code 380 = .ok (.iload 6, 2) := by decide +kernel
theorem d_L_law_382 : decode code 382 = .ok (.i2l, 1) := by decide +kernel
theorem d_L_law_383 : decode code 383 = .ok (.lcmp, 1) := by decide +kernel
theorem d_L_law_384 : decode code 384 = .ok (.ifCond .eq 5, 3) := by decide +kernel
theorem d_L_law_387 : decode code 387 = .ok (.iconst 0, 1) := by decide +kernel
theorem d_L_law_388 : decode code 388 = .ok (.ireturn, 1) := by decide +kernel
theorem d_L_law_370 : decode code 370 = .ok (.iconst 0, 1) := by decide +kernel
theorem d_L_law_371 : decode code 371 = .ok (.ireturn, 1) := by decide +kernel
theorem d_L_law_392 : decode code 392 = .ok (.aload_n 1, 1) := by decide +kernel
theorem d_L_law_393 : decode code 393 = .ok (.aload_n 0, 1) := by decide +kernel
theorem d_L_law_394 : decode code 394 = .ok (.iload 4, 2) := by decide +kernel
theorem d_L_law_396 : decode code 396 = .ok (.iconst 1, 1) := by decide +kernel
theorem d_L_law_397 : decode code 397 = .ok (.iadd, 1) := by decide +kernel
theorem d_L_law_398 : decode code 398 = .ok (.iaload, 1) := by decide +kernel
theorem d_L_law_399 : decode code 399 = .ok (.aload_n 0, 1) := by decide +kernel
theorem d_L_law_400 : decode code 400 = .ok (.iload 4, 2) := by decide +kernel
theorem d_L_law_402 : decode code 402 = .ok (.iconst 2, 1) := by decide +kernel
theorem d_L_law_403 : decode code 403 = .ok (.iadd, 1) := by decide +kernel
theorem d_L_law_404 : decode code 404 = .ok (.iaload, 1) := by decide +kernel
theorem d_L_law_405 : decode code 405 = .ok (.aload_n 0, 1) := by decide +kernel
theorem d_L_law_406 : decode code 406 = .ok (.iload 4, 2) := by decide +kernel
theorem d_L_law_408 : decode code 408 = .ok (.iconst 3, 1) := by decide +kernel
theorem d_L_law_409 : decode code 409 = .ok (.iadd, 1) := by decide +kernel
theorem d_L_law_410 : decode code 410 = .ok (.iaload, 1) := by decide +kernel
theorem d_L_law_411 : decode code 411 = .ok (.aload_n 3, 1) := by decide +kernel
theorem d_L_law_412 : decode code 412 = .ok (.invokestatic 78, 3) := by decide +kernel
theorem d_L_law_415 : decode code 415 = .ok (.istore 5, 2) := by decide +kernel
theorem d_L_law_417 : decode code 417 = .ok (.aload_n 2, 1) := by decide +kernel
theorem d_L_law_418 : decode code 418 = .ok (.aload_n 0, 1) := by decide +kernel
theorem d_L_law_419 : decode code 419 = .ok (.iload 4, 2) := by decide +kernel
theorem d_L_law_421 : decode code 421 = .ok (.iconst 1, 1) := by decide +kernel
theorem d_L_law_422 : decode code 422 = .ok (.iadd, 1) := by decide +kernel
theorem d_L_law_423 : decode code 423 = .ok (.iaload, 1) := by decide +kernel
theorem d_L_law_424 : decode code 424 = .ok (.aload_n 0, 1) := by decide +kernel
theorem d_L_law_425 : decode code 425 = .ok (.iload 4, 2) := by decide +kernel
theorem d_L_law_427 : decode code 427 = .ok (.iconst 2, 1) := by decide +kernel
theorem d_L_law_428 : decode code 428 = .ok (.iadd, 1) := by decide +kernel
theorem d_L_law_429 : decode code 429 = .ok (.iaload, 1) := by decide +kernel
theorem d_L_law_430 : decode code 430 = .ok (.aload_n 0, 1) := by decide +kernel
theorem d_L_law_431 : decode code 431 = .ok (.iload 4, 2) := by decide +kernel
theorem d_L_law_433 : decode code 433 = .ok (.iconst 3, 1) := by decide +kernel
theorem d_L_law_434 : decode code 434 = .ok (.iadd, 1) := by decide +kernel
theorem d_L_law_435 : decode code 435 = .ok (.iaload, 1) := by decide +kernel
theorem d_L_law_436 : decode code 436 = .ok (.invokevirtual 81, 3) := by decide +kernel
theorem d_L_law_439 : decode code 439 = .ok (.istore 6, 2) := by decide +kernel
theorem d_L_law_441 : decode code 441 = .ok (.aload_n 2, 1) := by decide +kernel
theorem d_L_law_442 : decode code 442 = .ok (.invokevirtual 66, 3) := by decide +kernel
theorem d_L_law_445 : decode code 445 = .ok (.iload 5, 2) := by decide +kernel
theorem d_L_law_447 : decode code 447 = .ok (.if_icmp .eq 5, 3) := by decide +kernel
theorem d_L_law_452 : decode code 452 = .ok (.iload 5, 2) := by decide +kernel
theorem d_L_law_454 : decode code 454 = .ok (.ifCond .ne 15, 3) := by decide +kernel
theorem d_L_law_457 : decode code 457 = .ok (.aload_n 3, 1) := by decide +kernel
theorem d_L_law_458 : decode code 458 = .ok (.iconst 0, 1) := by decide +kernel
theorem d_L_law_459 : decode code 459 = .ok (.laload, 1) := by decide +kernel
theorem d_L_law_460 : decode code 460 = .ok (.iload 6, 2) := by decide +kernel
theorem d_L_law_462 : decode code 462 = .ok (.i2l, 1) := by decide +kernel
theorem d_L_law_463 : decode code 463 = .ok (.lcmp, 1) := by decide +kernel
theorem d_L_law_464 : decode code 464 = .ok (.ifCond .eq 5, 3) := by decide +kernel
theorem d_L_law_467 : decode code 467 = .ok (.iconst 0, 1) := by decide +kernel
theorem d_L_law_468 : decode code 468 = .ok (.ireturn, 1) := by decide +kernel
theorem d_L_law_450 : decode code 450 = .ok (.iconst 0, 1) := by decide +kernel
theorem d_L_law_451 : decode code 451 = .ok (.ireturn, 1) := by decide +kernel
theorem d_L_law_472 : decode code 472 = .ok (.aload_n 1, 1) := by decide +kernel
theorem d_L_law_473 : decode code 473 = .ok (.aload_n 0, 1) := by decide +kernel
theorem d_L_law_474 : decode code 474 = .ok (.iload 4, 2) := by decide +kernel
theorem d_L_law_476 : decode code 476 = .ok (.iconst 1, 1) := by decide +kernel
theorem d_L_law_477 : decode code 477 = .ok (.iadd, 1) := by decide +kernel
theorem d_L_law_478 : decode code 478 = .ok (.iaload, 1) := by decide +kernel
theorem d_L_law_479 : decode code 479 = .ok (.aload_n 0, 1) := by decide +kernel
theorem d_L_law_480 : decode code 480 = .ok (.iload 4, 2) := by decide +kernel
theorem d_L_law_482 : decode code 482 = .ok (.iconst 2, 1) := by decide +kernel
theorem d_L_law_483 : decode code 483 = .ok (.iadd, 1) := by decide +kernel
theorem d_L_law_484 : decode code 484 = .ok (.iaload, 1) := by decide +kernel
theorem d_L_law_485 : decode code 485 = .ok (.aload_n 0, 1) := by decide +kernel
theorem d_L_law_486 : decode code 486 = .ok (.iload 4, 2) := by decide +kernel
theorem d_L_law_488 : decode code 488 = .ok (.iconst 3, 1) := by decide +kernel
theorem d_L_law_489 : decode code 489 = .ok (.iadd, 1) := by decide +kernel
theorem d_L_law_490 : decode code 490 = .ok (.iaload, 1) := by decide +kernel
theorem d_L_law_491 : decode code 491 = .ok (.aload_n 0, 1) := by decide +kernel
theorem d_L_law_492 : decode code 492 = .ok (.iload 4, 2) := by decide +kernel
theorem d_L_law_494 : decode code 494 = .ok (.iconst 4, 1) := by decide +kernel
theorem d_L_law_495 : decode code 495 = .ok (.iadd, 1) := by decide +kernel
theorem d_L_law_496 : decode code 496 = .ok (.iaload, 1) := by decide +kernel
theorem d_L_law_497 : decode code 497 = .ok (.aload_n 3, 1) := by decide +kernel
theorem d_L_law_498 : decode code 498 = .ok (.invokestatic 82, 3) := by decide +kernel
theorem d_L_law_501 : decode code 501 = .ok (.istore 5, 2) := by decide +kernel
theorem d_L_law_503 : decode code 503 = .ok (.aload_n 2, 1) := by decide +kernel
theorem d_L_law_504 : decode code 504 = .ok (.aload_n 0, 1) := by decide +kernel
theorem d_L_law_505 : decode code 505 = .ok (.iload 4, 2) := by decide +kernel
theorem d_L_law_507 : decode code 507 = .ok (.iconst 1, 1) := by decide +kernel
theorem d_L_law_508 : decode code 508 = .ok (.iadd, 1) := by decide +kernel
theorem d_L_law_509 : decode code 509 = .ok (.iaload, 1) := by decide +kernel
theorem d_L_law_510 : decode code 510 = .ok (.aload_n 0, 1) := by decide +kernel
theorem d_L_law_511 : decode code 511 = .ok (.iload 4, 2) := by decide +kernel
theorem d_L_law_513 : decode code 513 = .ok (.iconst 2, 1) := by decide +kernel
theorem d_L_law_514 : decode code 514 = .ok (.iadd, 1) := by decide +kernel
theorem d_L_law_515 : decode code 515 = .ok (.iaload, 1) := by decide +kernel
theorem d_L_law_516 : decode code 516 = .ok (.aload_n 0, 1) := by decide +kernel
theorem d_L_law_517 : decode code 517 = .ok (.iload 4, 2) := by decide +kernel
theorem d_L_law_519 : decode code 519 = .ok (.iconst 3, 1) := by decide +kernel
theorem d_L_law_520 : decode code 520 = .ok (.iadd, 1) := by decide +kernel
theorem d_L_law_521 : decode code 521 = .ok (.iaload, 1) := by decide +kernel
theorem d_L_law_522 : decode code 522 = .ok (.aload_n 0, 1) := by decide +kernel
theorem d_L_law_523 : decode code 523 = .ok (.iload 4, 2) := by decide +kernel
theorem d_L_law_525 : decode code 525 = .ok (.iconst 4, 1) := by decide +kernel
theorem d_L_law_526 : decode code 526 = .ok (.iadd, 1) := by decide +kernel
theorem d_L_law_527 : decode code 527 = .ok (.iaload, 1) := by decide +kernel
theorem d_L_law_528 : decode code 528 = .ok (.invokevirtual 84, 3) := by decide +kernel
theorem d_L_law_531 : decode code 531 = .ok (.istore 6, 2) := by decide +kernel
theorem d_L_law_533 : decode code 533 = .ok (.aload_n 2, 1) := by decide +kernel
theorem d_L_law_534 : decode code 534 = .ok (.invokevirtual 66, 3) := by decide +kernel
theorem d_L_law_537 : decode code 537 = .ok (.iload 5, 2) := by decide +kernel
theorem d_L_law_539 : decode code 539 = .ok (.if_icmp .eq 5, 3) := by decide +kernel
theorem d_L_law_544 : decode code 544 = .ok (.iload 5, 2) := by decide +kernel
theorem d_L_law_546 : decode code 546 = .ok (.ifCond .ne 15, 3) := by decide +kernel
theorem d_L_law_549 : decode code 549 = .ok (.aload_n 3, 1) := by decide +kernel
theorem d_L_law_550 : decode code 550 = .ok (.iconst 0, 1) := by decide +kernel
theorem d_L_law_551 : decode code 551 = .ok (.laload, 1) := by decide +kernel
theorem d_L_law_552 : decode code 552 = .ok (.iload 6, 2) := by decide +kernel
theorem d_L_law_554 : decode code 554 = .ok (.i2l, 1) := by decide +kernel
theorem d_L_law_555 : decode code 555 = .ok (.lcmp, 1) := by decide +kernel
theorem d_L_law_556 : decode code 556 = .ok (.ifCond .eq 5, 3) := by decide +kernel
theorem d_L_law_559 : decode code 559 = .ok (.iconst 0, 1) := by decide +kernel
theorem d_L_law_560 : decode code 560 = .ok (.ireturn, 1) := by decide +kernel
theorem d_L_law_542 : decode code 542 = .ok (.iconst 0, 1) := by decide +kernel
theorem d_L_law_543 : decode code 543 = .ok (.ireturn, 1) := by decide +kernel
theorem d_L_law_564 : decode code 564 = .ok (.aload_n 1, 1) := by decide +kernel
theorem d_L_law_565 : decode code 565 = .ok (.aload_n 0, 1) := by decide +kernel
theorem d_L_law_566 : decode code 566 = .ok (.iload 4, 2) := by decide +kernel
theorem d_L_law_568 : decode code 568 = .ok (.iconst 1, 1) := by decide +kernel
theorem d_L_law_569 : decode code 569 = .ok (.iadd, 1) := by decide +kernel
theorem d_L_law_570 : decode code 570 = .ok (.iaload, 1) := by decide +kernel
theorem d_L_law_571 : decode code 571 = .ok (.aload_n 0, 1) := by decide +kernel
theorem d_L_law_572 : decode code 572 = .ok (.iload 4, 2) := by decide +kernel
theorem d_L_law_574 : decode code 574 = .ok (.iconst 2, 1) := by decide +kernel
theorem d_L_law_575 : decode code 575 = .ok (.iadd, 1) := by decide +kernel
theorem d_L_law_576 : decode code 576 = .ok (.iaload, 1) := by decide +kernel
theorem d_L_law_577 : decode code 577 = .ok (.aload_n 0, 1) := by decide +kernel
theorem d_L_law_578 : decode code 578 = .ok (.iload 4, 2) := by decide +kernel
theorem d_L_law_580 : decode code 580 = .ok (.iconst 3, 1) := by decide +kernel
theorem d_L_law_581 : decode code 581 = .ok (.iadd, 1) := by decide +kernel
theorem d_L_law_582 : decode code 582 = .ok (.iaload, 1) := by decide +kernel
theorem d_L_law_583 : decode code 583 = .ok (.aload_n 0, 1) := by decide +kernel
theorem d_L_law_584 : decode code 584 = .ok (.iload 4, 2) := by decide +kernel
theorem d_L_law_586 : decode code 586 = .ok (.iconst 4, 1) := by decide +kernel
theorem d_L_law_587 : decode code 587 = .ok (.iadd, 1) := by decide +kernel
theorem d_L_law_588 : decode code 588 = .ok (.iaload, 1) := by decide +kernel
theorem d_L_law_589 : decode code 589 = .ok (.aload_n 0, 1) := by decide +kernel
theorem d_L_law_590 : decode code 590 = .ok (.iload 4, 2) := by decide +kernel
theorem d_L_law_592 : decode code 592 = .ok (.iconst 5, 1) := by decide +kernel
theorem d_L_law_593 : decode code 593 = .ok (.iadd, 1) := by decide +kernel
theorem d_L_law_594 : decode code 594 = .ok (.iaload, 1) := by decide +kernel
theorem d_L_law_595 : decode code 595 = .ok (.aload_n 3, 1) := by decide +kernel
theorem d_L_law_596 : decode code 596 = .ok (.invokestatic 85, 3) := by decide +kernel
theorem d_L_law_599 : decode code 599 = .ok (.istore 5, 2) := by decide +kernel
theorem d_L_law_601 : decode code 601 = .ok (.aload_n 2, 1) := by decide +kernel
theorem d_L_law_602 : decode code 602 = .ok (.aload_n 0, 1) := by decide +kernel
theorem d_L_law_603 : decode code 603 = .ok (.iload 4, 2) := by decide +kernel
theorem d_L_law_605 : decode code 605 = .ok (.iconst 1, 1) := by decide +kernel
theorem d_L_law_606 : decode code 606 = .ok (.iadd, 1) := by decide +kernel
theorem d_L_law_607 : decode code 607 = .ok (.iaload, 1) := by decide +kernel
theorem d_L_law_608 : decode code 608 = .ok (.aload_n 0, 1) := by decide +kernel
theorem d_L_law_609 : decode code 609 = .ok (.iload 4, 2) := by decide +kernel
theorem d_L_law_611 : decode code 611 = .ok (.iconst 2, 1) := by decide +kernel
theorem d_L_law_612 : decode code 612 = .ok (.iadd, 1) := by decide +kernel
theorem d_L_law_613 : decode code 613 = .ok (.iaload, 1) := by decide +kernel
theorem d_L_law_614 : decode code 614 = .ok (.aload_n 0, 1) := by decide +kernel
theorem d_L_law_615 : decode code 615 = .ok (.iload 4, 2) := by decide +kernel
theorem d_L_law_617 : decode code 617 = .ok (.iconst 3, 1) := by decide +kernel
theorem d_L_law_618 : decode code 618 = .ok (.iadd, 1) := by decide +kernel
theorem d_L_law_619 : decode code 619 = .ok (.iaload, 1) := by decide +kernel
theorem d_L_law_620 : decode code 620 = .ok (.aload_n 0, 1) := by decide +kernel
theorem d_L_law_621 : decode code 621 = .ok (.iload 4, 2) := by decide +kernel
theorem d_L_law_623 : decode code 623 = .ok (.iconst 4, 1) := by decide +kernel
theorem d_L_law_624 : decode code 624 = .ok (.iadd, 1) := by decide +kernel
theorem d_L_law_625 : decode code 625 = .ok (.iaload, 1) := by decide +kernel
theorem d_L_law_626 : decode code 626 = .ok (.aload_n 0, 1) := by decide +kernel
theorem d_L_law_627 : decode code 627 = .ok (.iload 4, 2) := by decide +kernel
theorem d_L_law_629 : decode code 629 = .ok (.iconst 5, 1) := by decide +kernel
theorem d_L_law_630 : decode code 630 = .ok (.iadd, 1) := by decide +kernel
theorem d_L_law_631 : decode code 631 = .ok (.iaload, 1) := by decide +kernel
theorem d_L_law_632 : decode code 632 = .ok (.invokevirtual 87, 3) := by decide +kernel
theorem d_L_law_635 : decode code 635 = .ok (.istore 6, 2) := by decide +kernel
theorem d_L_law_637 : decode code 637 = .ok (.aload_n 2, 1) := by decide +kernel
theorem d_L_law_638 : decode code 638 = .ok (.invokevirtual 66, 3) := by decide +kernel
theorem d_L_law_641 : decode code 641 = .ok (.iload 5, 2) := by decide +kernel
theorem d_L_law_643 : decode code 643 = .ok (.if_icmp .eq 5, 3) := by decide +kernel
theorem d_L_law_648 : decode code 648 = .ok (.iload 5, 2) := by decide +kernel
theorem d_L_law_650 : decode code 650 = .ok (.ifCond .ne 15, 3) := by decide +kernel
theorem d_L_law_653 : decode code 653 = .ok (.aload_n 3, 1) := by decide +kernel
theorem d_L_law_654 : decode code 654 = .ok (.iconst 0, 1) := by decide +kernel
theorem d_L_law_655 : decode code 655 = .ok (.laload, 1) := by decide +kernel
theorem d_L_law_656 : decode code 656 = .ok (.iload 6, 2) := by decide +kernel
theorem d_L_law_658 : decode code 658 = .ok (.i2l, 1) := by decide +kernel
theorem d_L_law_659 : decode code 659 = .ok (.lcmp, 1) := by decide +kernel
theorem d_L_law_660 : decode code 660 = .ok (.ifCond .eq 5, 3) := by decide +kernel
theorem d_L_law_663 : decode code 663 = .ok (.iconst 0, 1) := by decide +kernel
theorem d_L_law_664 : decode code 664 = .ok (.ireturn, 1) := by decide +kernel
theorem d_L_law_646 : decode code 646 = .ok (.iconst 0, 1) := by decide +kernel
theorem d_L_law_647 : decode code 647 = .ok (.ireturn, 1) := by decide +kernel
theorem d_L_law_668 : decode code 668 = .ok (.aload_n 1, 1) := by decide +kernel
theorem d_L_law_669 : decode code 669 = .ok (.aload_n 0, 1) := by decide +kernel
theorem d_L_law_670 : decode code 670 = .ok (.iload 4, 2) := by decide +kernel
theorem d_L_law_672 : decode code 672 = .ok (.iconst 1, 1) := by decide +kernel
theorem d_L_law_673 : decode code 673 = .ok (.iadd, 1) := by decide +kernel
theorem d_L_law_674 : decode code 674 = .ok (.iaload, 1) := by decide +kernel
theorem d_L_law_675 : decode code 675 = .ok (.aload_n 3, 1) := by decide +kernel
theorem d_L_law_676 : decode code 676 = .ok (.invokestatic 88, 3) := by decide +kernel
theorem d_L_law_679 : decode code 679 = .ok (.istore 5, 2) := by decide +kernel
theorem d_L_law_681 : decode code 681 = .ok (.aload_n 2, 1) := by decide +kernel
theorem d_L_law_682 : decode code 682 = .ok (.aload_n 0, 1) := by decide +kernel
theorem d_L_law_683 : decode code 683 = .ok (.iload 4, 2) := by decide +kernel
theorem d_L_law_685 : decode code 685 = .ok (.iconst 1, 1) := by decide +kernel
theorem d_L_law_686 : decode code 686 = .ok (.iadd, 1) := by decide +kernel
theorem d_L_law_687 : decode code 687 = .ok (.iaload, 1) := by decide +kernel
theorem d_L_law_688 : decode code 688 = .ok (.invokevirtual 91, 3) := by decide +kernel
theorem d_L_law_691 : decode code 691 = .ok (.istore 6, 2) := by decide +kernel
theorem d_L_law_693 : decode code 693 = .ok (.aload_n 2, 1) := by decide +kernel
theorem d_L_law_694 : decode code 694 = .ok (.invokevirtual 66, 3) := by decide +kernel
theorem d_L_law_697 : decode code 697 = .ok (.iload 5, 2) := by decide +kernel
theorem d_L_law_699 : decode code 699 = .ok (.if_icmp .eq 5, 3) := by decide +kernel
theorem d_L_law_704 : decode code 704 = .ok (.iload 5, 2) := by decide +kernel
theorem d_L_law_706 : decode code 706 = .ok (.ifCond .ne 15, 3) := by decide +kernel
theorem d_L_law_709 : decode code 709 = .ok (.aload_n 3, 1) := by decide +kernel
theorem d_L_law_710 : decode code 710 = .ok (.iconst 0, 1) := by decide +kernel
theorem d_L_law_711 : decode code 711 = .ok (.laload, 1) := by decide +kernel
theorem d_L_law_712 : decode code 712 = .ok (.iload 6, 2) := by decide +kernel
theorem d_L_law_714 : decode code 714 = .ok (.i2l, 1) := by decide +kernel
theorem d_L_law_715 : decode code 715 = .ok (.lcmp, 1) := by decide +kernel
theorem d_L_law_716 : decode code 716 = .ok (.ifCond .eq 5, 3) := by decide +kernel
theorem d_L_law_719 : decode code 719 = .ok (.iconst 0, 1) := by decide +kernel
theorem d_L_law_720 : decode code 720 = .ok (.ireturn, 1) := by decide +kernel
theorem d_L_law_702 : decode code 702 = .ok (.iconst 0, 1) := by decide +kernel
theorem d_L_law_703 : decode code 703 = .ok (.ireturn, 1) := by decide +kernel
theorem d_L_law_724 : decode code 724 = .ok (.aload_n 1, 1) := by decide +kernel
theorem d_L_law_725 : decode code 725 = .ok (.aload_n 0, 1) := by decide +kernel
theorem d_L_law_726 : decode code 726 = .ok (.iload 4, 2) := by decide +kernel
theorem d_L_law_728 : decode code 728 = .ok (.iconst 1, 1) := by decide +kernel
theorem d_L_law_729 : decode code 729 = .ok (.iadd, 1) := by decide +kernel
theorem d_L_law_730 : decode code 730 = .ok (.iaload, 1) := by decide +kernel
theorem d_L_law_731 : decode code 731 = .ok (.invokevirtual 92, 3) := by decide +kernel
theorem d_L_law_734 : decode code 734 = .ok (.aload_n 2, 1) := by decide +kernel
theorem d_L_law_735 : decode code 735 = .ok (.aload_n 0, 1) := by decide +kernel
theorem d_L_law_736 : decode code 736 = .ok (.iload 4, 2) := by decide +kernel
theorem d_L_law_738 : decode code 738 = .ok (.iconst 1, 1) := by decide +kernel
theorem d_L_law_739 : decode code 739 = .ok (.iadd, 1) := by decide +kernel
theorem d_L_law_740 : decode code 740 = .ok (.iaload, 1) := by decide +kernel
theorem d_L_law_741 : decode code 741 = .ok (.invokevirtual 95, 3) := by decide +kernel
theorem d_L_law_744 : decode code 744 = .ok (.if_icmp .eq 338, 3) := by decide +kernel
theorem d_L_law_747 : decode code 747 = .ok (.iconst 0, 1) := by decide +kernel
theorem d_L_law_748 : decode code 748 = .ok (.ireturn, 1) := by decide +kernel
theorem d_L_law_749 : decode code 749 = .ok (.aload_n 1, 1) := by decide +kernel
theorem d_L_law_750 : decode code 750 = .ok (.aload_n 0, 1) := by decide +kernel
theorem d_L_law_751 : decode code 751 = .ok (.iload 4, 2) := by decide +kernel
theorem d_L_law_753 : decode code 753 = .ok (.iconst 1, 1) := by decide +kernel
theorem d_L_law_754 : decode code 754 = .ok (.iadd, 1) := by decide +kernel
theorem d_L_law_755 : decode code 755 = .ok (.iaload, 1) := by decide +kernel
theorem d_L_law_756 : decode code 756 = .ok (.aload_n 0, 1) := by decide +kernel
theorem d_L_law_757 : decode code 757 = .ok (.iload 4, 2) := by decide +kernel
theorem d_L_law_759 : decode code 759 = .ok (.iconst 2, 1) := by decide +kernel
theorem d_L_law_760 : decode code 760 = .ok (.iadd, 1) := by decide +kernel
theorem d_L_law_761 : decode code 761 = .ok (.iaload, 1) := by decide +kernel
theorem d_L_law_762 : decode code 762 = .ok (.aload_n 0, 1) := by decide +kernel
theorem d_L_law_763 : decode code 763 = .ok (.iload 4, 2) := by decide +kernel
theorem d_L_law_765 : decode code 765 = .ok (.iconst 3, 1) := by decide +kernel
theorem d_L_law_766 : decode code 766 = .ok (.iadd, 1) := by decide +kernel
theorem d_L_law_767 : decode code 767 = .ok (.iaload, 1) := by decide +kernel
theorem d_L_law_768 : decode code 768 = .ok (.aload_n 3, 1) := by decide +kernel
theorem d_L_law_769 : decode code 769 = .ok (.invokestatic 96, 3) := by decide +kernel
theorem d_L_law_772 : decode code 772 = .ok (.istore 5, 2) := by decide +kernel
theorem d_L_law_774 : decode code 774 = .ok (.aload_n 2, 1) := by decide +kernel
theorem d_L_law_775 : decode code 775 = .ok (.aload_n 0, 1) := by decide +kernel
theorem d_L_law_776 : decode code 776 = .ok (.iload 4, 2) := by decide +kernel
theorem d_L_law_778 : decode code 778 = .ok (.iconst 1, 1) := by decide +kernel
theorem d_L_law_779 : decode code 779 = .ok (.iadd, 1) := by decide +kernel
theorem d_L_law_780 : decode code 780 = .ok (.iaload, 1) := by decide +kernel
theorem d_L_law_781 : decode code 781 = .ok (.aload_n 0, 1) := by decide +kernel
theorem d_L_law_782 : decode code 782 = .ok (.iload 4, 2) := by decide +kernel
theorem d_L_law_784 : decode code 784 = .ok (.iconst 2, 1) := by decide +kernel
theorem d_L_law_785 : decode code 785 = .ok (.iadd, 1) := by decide +kernel
theorem d_L_law_786 : decode code 786 = .ok (.iaload, 1) := by decide +kernel
theorem d_L_law_787 : decode code 787 = .ok (.aload_n 0, 1) := by decide +kernel
theorem d_L_law_788 : decode code 788 = .ok (.iload 4, 2) := by decide +kernel
theorem d_L_law_790 : decode code 790 = .ok (.iconst 3, 1) := by decide +kernel
theorem d_L_law_791 : decode code 791 = .ok (.iadd, 1) := by decide +kernel
theorem d_L_law_792 : decode code 792 = .ok (.iaload, 1) := by decide +kernel
theorem d_L_law_793 : decode code 793 = .ok (.invokevirtual 98, 3) := by decide +kernel
theorem d_L_law_796 : decode code 796 = .ok (.istore 6, 2) := by decide +kernel
theorem d_L_law_798 : decode code 798 = .ok (.aload_n 2, 1) := by decide +kernel
theorem d_L_law_799 : decode code 799 = .ok (.invokevirtual 66, 3) := by decide +kernel
theorem d_L_law_802 : decode code 802 = .ok (.iload 5, 2) := by decide +kernel
theorem d_L_law_804 : decode code 804 = .ok (.if_icmp .eq 5, 3) := by decide +kernel
theorem d_L_law_809 : decode code 809 = .ok (.iload 5, 2) := by decide +kernel
theorem d_L_law_811 : decode code 811 = .ok (.ifCond .ne 15, 3) := by decide +kernel
theorem d_L_law_814 : decode code 814 = .ok (.aload_n 3, 1) := by decide +kernel
theorem d_L_law_815 : decode code 815 = .ok (.iconst 0, 1) := by decide +kernel
theorem d_L_law_816 : decode code 816 = .ok (.laload, 1) := by decide +kernel
theorem d_L_law_817 : decode code 817 = .ok (.iload 6, 2) := by decide +kernel
theorem d_L_law_819 : decode code 819 = .ok (.i2l, 1) := by decide +kernel
theorem d_L_law_820 : decode code 820 = .ok (.lcmp, 1) := by decide +kernel
theorem d_L_law_821 : decode code 821 = .ok (.ifCond .eq 5, 3) := by decide +kernel
theorem d_L_law_824 : decode code 824 = .ok (.iconst 0, 1) := by decide +kernel
theorem d_L_law_825 : decode code 825 = .ok (.ireturn, 1) := by decide +kernel
theorem d_L_law_807 : decode code 807 = .ok (.iconst 0, 1) := by decide +kernel
theorem d_L_law_808 : decode code 808 = .ok (.ireturn, 1) := by decide +kernel
theorem d_L_law_829 : decode code 829 = .ok (.aload_n 1, 1) := by decide +kernel
theorem d_L_law_830 : decode code 830 = .ok (.aload_n 0, 1) := by decide +kernel
theorem d_L_law_831 : decode code 831 = .ok (.iload 4, 2) := by decide +kernel
theorem d_L_law_833 : decode code 833 = .ok (.iconst 1, 1) := by decide +kernel
theorem d_L_law_834 : decode code 834 = .ok (.iadd, 1) := by decide +kernel
theorem d_L_law_835 : decode code 835 = .ok (.iaload, 1) := by decide +kernel
theorem d_L_law_836 : decode code 836 = .ok (.aload_n 0, 1) := by decide +kernel
theorem d_L_law_837 : decode code 837 = .ok (.iload 4, 2) := by decide +kernel
theorem d_L_law_839 : decode code 839 = .ok (.iconst 2, 1) := by decide +kernel
theorem d_L_law_840 : decode code 840 = .ok (.iadd, 1) := by decide +kernel
theorem d_L_law_841 : decode code 841 = .ok (.iaload, 1) := by decide +kernel
theorem d_L_law_842 : decode code 842 = .ok (.aload_n 0, 1) := by decide +kernel
theorem d_L_law_843 : decode code 843 = .ok (.iload 4, 2) := by decide +kernel
theorem d_L_law_845 : decode code 845 = .ok (.iconst 3, 1) := by decide +kernel
theorem d_L_law_846 : decode code 846 = .ok (.iadd, 1) := by decide +kernel
theorem d_L_law_847 : decode code 847 = .ok (.iaload, 1) := by decide +kernel
theorem d_L_law_848 : decode code 848 = .ok (.aload_n 3, 1) := by decide +kernel
theorem d_L_law_849 : decode code 849 = .ok (.invokestatic 99, 3) := by decide +kernel
theorem d_L_law_852 : decode code 852 = .ok (.istore 5, 2) := by decide +kernel
theorem d_L_law_854 : decode code 854 = .ok (.aload_n 2, 1) := by decide +kernel
theorem d_L_law_855 : decode code 855 = .ok (.aload_n 0, 1) := by decide +kernel
theorem d_L_law_856 : decode code 856 = .ok (.iload 4, 2) := by decide +kernel
theorem d_L_law_858 : decode code 858 = .ok (.iconst 1, 1) := by decide +kernel
theorem d_L_law_859 : decode code 859 = .ok (.iadd, 1) := by decide +kernel
theorem d_L_law_860 : decode code 860 = .ok (.iaload, 1) := by decide +kernel
theorem d_L_law_861 : decode code 861 = .ok (.aload_n 0, 1) := by decide +kernel
theorem d_L_law_862 : decode code 862 = .ok (.iload 4, 2) := by decide +kernel
theorem d_L_law_864 : decode code 864 = .ok (.iconst 2, 1) := by decide +kernel
theorem d_L_law_865 : decode code 865 = .ok (.iadd, 1) := by decide +kernel
theorem d_L_law_866 : decode code 866 = .ok (.iaload, 1) := by decide +kernel
theorem d_L_law_867 : decode code 867 = .ok (.aload_n 0, 1) := by decide +kernel
theorem d_L_law_868 : decode code 868 = .ok (.iload 4, 2) := by decide +kernel
theorem d_L_law_870 : decode code 870 = .ok (.iconst 3, 1) := by decide +kernel
theorem d_L_law_871 : decode code 871 = .ok (.iadd, 1) := by decide +kernel
theorem d_L_law_872 : decode code 872 = .ok (.iaload, 1) := by decide +kernel
theorem d_L_law_873 : decode code 873 = .ok (.invokevirtual 101, 3) := by decide +kernel
theorem d_L_law_876 : decode code 876 = .ok (.istore 6, 2) := by decide +kernel
theorem d_L_law_878 : decode code 878 = .ok (.aload_n 2, 1) := by decide +kernel
theorem d_L_law_879 : decode code 879 = .ok (.invokevirtual 66, 3) := by decide +kernel
theorem d_L_law_882 : decode code 882 = .ok (.iload 5, 2) := by decide +kernel
theorem d_L_law_884 : decode code 884 = .ok (.if_icmp .eq 5, 3) := by decide +kernel
theorem d_L_law_889 : decode code 889 = .ok (.iload 5, 2) := by decide +kernel
theorem d_L_law_891 : decode code 891 = .ok (.ifCond .ne 15, 3) := by decide +kernel
theorem d_L_law_894 : decode code 894 = .ok (.aload_n 3, 1) := by decide +kernel
theorem d_L_law_895 : decode code 895 = .ok (.iconst 0, 1) := by decide +kernel
theorem d_L_law_896 : decode code 896 = .ok (.laload, 1) := by decide +kernel
theorem d_L_law_897 : decode code 897 = .ok (.iload 6, 2) := by decide +kernel
theorem d_L_law_899 : decode code 899 = .ok (.i2l, 1) := by decide +kernel
theorem d_L_law_900 : decode code 900 = .ok (.lcmp, 1) := by decide +kernel
theorem d_L_law_901 : decode code 901 = .ok (.ifCond .eq 5, 3) := by decide +kernel
theorem d_L_law_904 : decode code 904 = .ok (.iconst 0, 1) := by decide +kernel
theorem d_L_law_905 : decode code 905 = .ok (.ireturn, 1) := by decide +kernel
theorem d_L_law_887 : decode code 887 = .ok (.iconst 0, 1) := by decide +kernel
theorem d_L_law_888 : decode code 888 = .ok (.ireturn, 1) := by decide +kernel
theorem d_L_law_909 : decode code 909 = .ok (.aload_n 1, 1) := by decide +kernel
theorem d_L_law_910 : decode code 910 = .ok (.aload_n 0, 1) := by decide +kernel
theorem d_L_law_911 : decode code 911 = .ok (.iload 4, 2) := by decide +kernel
theorem d_L_law_913 : decode code 913 = .ok (.iconst 1, 1) := by decide +kernel
theorem d_L_law_914 : decode code 914 = .ok (.iadd, 1) := by decide +kernel
theorem d_L_law_915 : decode code 915 = .ok (.iaload, 1) := by decide +kernel
theorem d_L_law_916 : decode code 916 = .ok (.aload_n 0, 1) := by decide +kernel
theorem d_L_law_917 : decode code 917 = .ok (.iload 4, 2) := by decide +kernel
theorem d_L_law_919 : decode code 919 = .ok (.iconst 2, 1) := by decide +kernel
theorem d_L_law_920 : decode code 920 = .ok (.iadd, 1) := by decide +kernel
theorem d_L_law_921 : decode code 921 = .ok (.iaload, 1) := by decide +kernel
theorem d_L_law_922 : decode code 922 = .ok (.aload_n 0, 1) := by decide +kernel
theorem d_L_law_923 : decode code 923 = .ok (.iload 4, 2) := by decide +kernel
theorem d_L_law_925 : decode code 925 = .ok (.iconst 3, 1) := by decide +kernel
theorem d_L_law_926 : decode code 926 = .ok (.iadd, 1) := by decide +kernel
theorem d_L_law_927 : decode code 927 = .ok (.iaload, 1) := by decide +kernel
theorem d_L_law_928 : decode code 928 = .ok (.aload_n 3, 1) := by decide +kernel
theorem d_L_law_929 : decode code 929 = .ok (.invokestatic 102, 3) := by decide +kernel
theorem d_L_law_932 : decode code 932 = .ok (.istore 5, 2) := by decide +kernel
theorem d_L_law_934 : decode code 934 = .ok (.aload_n 2, 1) := by decide +kernel
theorem d_L_law_935 : decode code 935 = .ok (.aload_n 0, 1) := by decide +kernel
theorem d_L_law_936 : decode code 936 = .ok (.iload 4, 2) := by decide +kernel
theorem d_L_law_938 : decode code 938 = .ok (.iconst 1, 1) := by decide +kernel
theorem d_L_law_939 : decode code 939 = .ok (.iadd, 1) := by decide +kernel
theorem d_L_law_940 : decode code 940 = .ok (.iaload, 1) := by decide +kernel
theorem d_L_law_941 : decode code 941 = .ok (.aload_n 0, 1) := by decide +kernel
theorem d_L_law_942 : decode code 942 = .ok (.iload 4, 2) := by decide +kernel
theorem d_L_law_944 : decode code 944 = .ok (.iconst 2, 1) := by decide +kernel
theorem d_L_law_945 : decode code 945 = .ok (.iadd, 1) := by decide +kernel
theorem d_L_law_946 : decode code 946 = .ok (.iaload, 1) := by decide +kernel
theorem d_L_law_947 : decode code 947 = .ok (.aload_n 0, 1) := by decide +kernel
theorem d_L_law_948 : decode code 948 = .ok (.iload 4, 2) := by decide +kernel
theorem d_L_law_950 : decode code 950 = .ok (.iconst 3, 1) := by decide +kernel
theorem d_L_law_951 : decode code 951 = .ok (.iadd, 1) := by decide +kernel
theorem d_L_law_952 : decode code 952 = .ok (.iaload, 1) := by decide +kernel
theorem d_L_law_953 : decode code 953 = .ok (.invokevirtual 104, 3) := by decide +kernel
theorem d_L_law_956 : decode code 956 = .ok (.istore 6, 2) := by decide +kernel
theorem d_L_law_958 : decode code 958 = .ok (.aload_n 2, 1) := by decide +kernel
theorem d_L_law_959 : decode code 959 = .ok (.invokevirtual 66, 3) := by decide +kernel
theorem d_L_law_962 : decode code 962 = .ok (.iload 5, 2) := by decide +kernel
theorem d_L_law_964 : decode code 964 = .ok (.if_icmp .eq 5, 3) := by decide +kernel
theorem d_L_law_969 : decode code 969 = .ok (.iload 5, 2) := by decide +kernel
theorem d_L_law_971 : decode code 971 = .ok (.ifCond .ne 15, 3) := by decide +kernel
theorem d_L_law_974 : decode code 974 = .ok (.aload_n 3, 1) := by decide +kernel
theorem d_L_law_975 : decode code 975 = .ok (.iconst 0, 1) := by decide +kernel
theorem d_L_law_976 : decode code 976 = .ok (.laload, 1) := by decide +kernel
theorem d_L_law_977 : decode code 977 = .ok (.iload 6, 2) := by decide +kernel
theorem d_L_law_979 : decode code 979 = .ok (.i2l, 1) := by decide +kernel
theorem d_L_law_980 : decode code 980 = .ok (.lcmp, 1) := by decide +kernel
theorem d_L_law_981 : decode code 981 = .ok (.ifCond .eq 5, 3) := by decide +kernel
theorem d_L_law_984 : decode code 984 = .ok (.iconst 0, 1) := by decide +kernel
theorem d_L_law_985 : decode code 985 = .ok (.ireturn, 1) := by decide +kernel
theorem d_L_law_967 : decode code 967 = .ok (.iconst 0, 1) := by decide +kernel
theorem d_L_law_968 : decode code 968 = .ok (.ireturn, 1) := by decide +kernel
theorem d_L_law_989 : decode code 989 = .ok (.aload_n 1, 1) := by decide +kernel
theorem d_L_law_990 : decode code 990 = .ok (.aload_n 0, 1) := by decide +kernel
theorem d_L_law_991 : decode code 991 = .ok (.iload 4, 2) := by decide +kernel
theorem d_L_law_993 : decode code 993 = .ok (.iconst 1, 1) := by decide +kernel
theorem d_L_law_994 : decode code 994 = .ok (.iadd, 1) := by decide +kernel
theorem d_L_law_995 : decode code 995 = .ok (.iaload, 1) := by decide +kernel
theorem d_L_law_996 : decode code 996 = .ok (.aload_n 0, 1) := by decide +kernel
theorem d_L_law_997 : decode code 997 = .ok (.iload 4, 2) := by decide +kernel
theorem d_L_law_999 : decode code 999 = .ok (.iconst 2, 1) := by decide +kernel
theorem d_L_law_1000 : decode code 1000 = .ok (.iadd, 1) := by decide +kernel
theorem d_L_law_1001 : decode code 1001 = .ok (.iaload, 1) := by decide +kernel
theorem d_L_law_1002 : decode code 1002 = .ok (.aload_n 3, 1) := by decide +kernel
theorem d_L_law_1003 : decode code 1003 = .ok (.invokestatic 105, 3) := by decide +kernel
theorem d_L_law_1006 : decode code 1006 = .ok (.istore 5, 2) := by decide +kernel
theorem d_L_law_1008 : decode code 1008 = .ok (.aload_n 2, 1) := by decide +kernel
theorem d_L_law_1009 : decode code 1009 = .ok (.aload_n 0, 1) := by decide +kernel
theorem d_L_law_1010 : decode code 1010 = .ok (.iload 4, 2) := by decide +kernel
theorem d_L_law_1012 : decode code 1012 = .ok (.iconst 1, 1) := by decide +kernel
theorem d_L_law_1013 : decode code 1013 = .ok (.iadd, 1) := by decide +kernel
theorem d_L_law_1014 : decode code 1014 = .ok (.iaload, 1) := by decide +kernel
theorem d_L_law_1015 : decode code 1015 = .ok (.aload_n 0, 1) := by decide +kernel
theorem d_L_law_1016 : decode code 1016 = .ok (.iload 4, 2) := by decide +kernel
theorem d_L_law_1018 : decode code 1018 = .ok (.iconst 2, 1) := by decide +kernel
theorem d_L_law_1019 : decode code 1019 = .ok (.iadd, 1) := by decide +kernel
theorem d_L_law_1020 : decode code 1020 = .ok (.iaload, 1) := by decide +kernel
theorem d_L_law_1021 : decode code 1021 = .ok (.invokevirtual 108, 3) := by decide +kernel
theorem d_L_law_1024 : decode code 1024 = .ok (.istore 6, 2) := by decide +kernel
theorem d_L_law_1026 : decode code 1026 = .ok (.aload_n 2, 1) := by decide +kernel
theorem d_L_law_1027 : decode code 1027 = .ok (.invokevirtual 66, 3) := by decide +kernel
theorem d_L_law_1030 : decode code 1030 = .ok (.iload 5, 2) := by decide +kernel
theorem d_L_law_1032 : decode code 1032 = .ok (.if_icmp .eq 5, 3) := by decide +kernel
theorem d_L_law_1037 : decode code 1037 = .ok (.iload 5, 2) := by decide +kernel
theorem d_L_law_1039 : decode code 1039 = .ok (.ifCond .ne 15, 3) := by decide +kernel
theorem d_L_law_1042 : decode code 1042 = .ok (.aload_n 3, 1) := by decide +kernel
theorem d_L_law_1043 : decode code 1043 = .ok (.iconst 0, 1) := by decide +kernel
theorem d_L_law_1044 : decode code 1044 = .ok (.laload, 1) := by decide +kernel
theorem d_L_law_1045 : decode code 1045 = .ok (.iload 6, 2) := by decide +kernel
theorem d_L_law_1047 : decode code 1047 = .ok (.i2l, 1) := by decide +kernel
theorem d_L_law_1048 : decode code 1048 = .ok (.lcmp, 1) := by decide +kernel
theorem d_L_law_1049 : decode code 1049 = .ok (.ifCond .eq 5, 3) := by decide +kernel
theorem d_L_law_1052 : decode code 1052 = .ok (.iconst 0, 1) := by decide +kernel
theorem d_L_law_1053 : decode code 1053 = .ok (.ireturn, 1) := by decide +kernel
theorem d_L_law_1035 : decode code 1035 = .ok (.iconst 0, 1) := by decide +kernel
theorem d_L_law_1036 : decode code 1036 = .ok (.ireturn, 1) := by decide +kernel
theorem d_L_law_1057 : decode code 1057 = .ok (.aload_n 1, 1) := by decide +kernel
theorem d_L_law_1058 : decode code 1058 = .ok (.aload_n 0, 1) := by decide +kernel
theorem d_L_law_1059 : decode code 1059 = .ok (.iload 4, 2) := by decide +kernel
theorem d_L_law_1061 : decode code 1061 = .ok (.iconst 1, 1) := by decide +kernel
theorem d_L_law_1062 : decode code 1062 = .ok (.iadd, 1) := by decide +kernel
theorem d_L_law_1063 : decode code 1063 = .ok (.iaload, 1) := by decide +kernel
theorem d_L_law_1064 : decode code 1064 = .ok (.invokevirtual 109, 3) := by decide +kernel
theorem d_L_law_1067 : decode code 1067 = .ok (.aload_n 2, 1) := by decide +kernel
theorem d_L_law_1068 : decode code 1068 = .ok (.aload_n 0, 1) := by decide +kernel
theorem d_L_law_1069 : decode code 1069 = .ok (.iload 4, 2) := by decide +kernel
theorem d_L_law_1071 : decode code 1071 = .ok (.iconst 1, 1) := by decide +kernel
theorem d_L_law_1072 : decode code 1072 = .ok (.iadd, 1) := by decide +kernel
theorem d_L_law_1073 : decode code 1073 = .ok (.iaload, 1) := by decide +kernel
theorem d_L_law_1074 : decode code 1074 = .ok (.invokevirtual 112, 3) := by decide +kernel
theorem d_L_law_1077 : decode code 1077 = .ok (.if_icmp .eq 5, 3) := by decide +kernel
theorem d_L_law_1080 : decode code 1080 = .ok (.iconst 0, 1) := by decide +kernel
theorem d_L_law_1081 : decode code 1081 = .ok (.ireturn, 1) := by decide +kernel
theorem d_L_law_193 : decode code 193 = .ok (.goto 889, 3) := by decide +kernel
theorem d_L_law_297 : decode code 297 = .ok (.goto 785, 3) := by decide +kernel
theorem d_L_law_389 : decode code 389 = .ok (.goto 693, 3) := by decide +kernel
theorem d_L_law_469 : decode code 469 = .ok (.goto 613, 3) := by decide +kernel
theorem d_L_law_561 : decode code 561 = .ok (.goto 521, 3) := by decide +kernel
theorem d_L_law_665 : decode code 665 = .ok (.goto 417, 3) := by decide +kernel
theorem d_L_law_721 : decode code 721 = .ok (.goto 361, 3) := by decide +kernel
theorem d_L_law_1082 : decode code 1082 = .ok (.iinc 4 6, 3) := by decide +kernel
theorem d_L_law_1085 : decode code 1085 = .ok (.goto (-1062), 3) := by decide +kernel
theorem d_L_law_826 : decode code 826 = .ok (.goto 256, 3) := by decide +kernel
theorem d_L_law_906 : decode code 906 = .ok (.goto 176, 3) := by decide +kernel
theorem d_L_law_986 : decode code 986 = .ok (.goto 96, 3) := by decide +kernel
theorem d_L_law_1054 : decode code 1054 = .ok (.goto 28, 3) := by decide +kernel
end
section
def e_T_init (d : Nat) (p0 : Option Nat) (S : xS) : Option (Unit × xS) := xcase p0 none (fun _ => some ((), S))
def f_T_init : Nat → (Option Nat → xS → Option (Unit × xS))
  | 0 => fun _ _ => none
  | d + 1 => fun p0 S => e_T_init d p0 S
def e_P_init (d : Nat) (p0 : Option Nat) (S : xS) : Option (Unit × xS) := xcase p0 none (fun _ => (xnewa S 0 2048 (.inl (fun _ => 0))).bind fun q1 => (xput q1.2 p0 0 0 (va_rf (some q1.1))).bind fun S2 => (xnewa S2 2 16 (.inr (.inr (.inr (.inr (fun _ => none)))))).bind fun q3 => (xput q3.2 p0 0 2 (va_rf (some q3.1))).bind fun S4 => (xnew S4 4 [.null]).bind fun q5 => (f_T_init d (some q5.1) q5.2).bind fun q6 => (xput q6.2 p0 0 3 (va_rf (some q5.1))).bind fun S7 => some ((), S7))
def f_P_init : Nat → (Option Nat → xS → Option (Unit × xS))
  | 0 => fun _ _ => none
  | d + 1 => fun p0 S => e_P_init d p0 S
def b_P_append_39 (d : Nat) (S : xS) : Option (Unit × xS) := some ((), S)
def e_P_append (d : Nat) (p0 : Option Nat) (p1 : Int32) (S : xS) : Option (Unit × xS) := (xgI S p0 0 1).bind fun v1 => (if v1 < 0 then (b_P_append_39 d S) else ((xgI S p0 0 1).bind fun v2 => (xgR S p0 0 0).bind fun v3 => (xlen S v3 0).bind fun v4 => (if v4 ≤ v2 then (b_P_append_39 d S) else ((xgR S p0 0 0).bind fun v5 => (xgI S p0 0 1).bind fun v6 => (xstI S v5 0 v6 (vp_nar .byte p1)).bind fun S7 => (xgI S7 p0 0 1).bind fun v8 => (xput S7 p0 0 1 (.int (v8 + 1))).bind fun S9 => b_P_append_39 d S9))))
def f_P_append : Nat → (Option Nat → Int32 → xS → Option (Unit × xS))
  | 0 => fun _ _ _ => none
  | d + 1 => fun p0 p1 S => e_P_append d p0 p1 S
def b_P_bytesOf_2 (d : Nat) (k2 : Int64 → Int32 → xS → Option (Int32 × xS)) (x0 : Int64) (x2 : Int32) (S : xS) : Option (Int32 × xS) := (if 8 ≤ x2 then (some (8, S)) else (if (lg_cmp (((x0.toUInt64 >>> ((8 * x2).toInt64.toUInt64 &&& Int64.toUInt64 63)).toInt64) &&& ((255 : Int64))) ((0 : Int64))) = 0 then (some (x2, S)) else (k2 x0 (x2 + 1) S)))
def l_P_bytesOf_2 (d : Nat) : Nat → (Int64 → Int32 → xS → Option (Int32 × xS))
  | 0 => fun _ _ _ => none
  | n + 1 => fun x0 x2 S => b_P_bytesOf_2 d (l_P_bytesOf_2 d n) x0 x2 S
def e_P_bytesOf (d : Nat) (p0 : Int64) (S : xS) : Option (Int32 × xS) := l_P_bytesOf_2 d xN p0 0 S
def f_P_bytesOf : Nat → (Int64 → xS → Option (Int32 × xS))
  | 0 => fun _ _ => none
  | d + 1 => fun p0 S => e_P_bytesOf d p0 S
def b_P_write_50 (d : Nat) (k50 : Option Nat → Int64 → Int32 → Int32 → Int32 → xS → Option ((Int32 ⊕ Nat) × xS)) (x0 : Option Nat) (x1 : Int64) (x3 : Int32) (x4 : Int32) (x5 : Int32) (S : xS) : Option ((Int32 ⊕ Nat) × xS) := (if x3 ≤ x5 then (some (.inl x4, S)) else ((xobj S x0 0).bind fun _ => (f_P_append d x0 ((((x1.toUInt64 >>> ((8 * x5).toInt64.toUInt64 &&& Int64.toUInt64 63)).toInt64).toInt32).toInt8.toInt32) S).bind fun q1 => k50 x0 x1 x3 x4 (x5 + 1) q1.2))
def l_P_write_50 (d : Nat) : Nat → (Option Nat → Int64 → Int32 → Int32 → Int32 → xS → Option ((Int32 ⊕ Nat) × xS))
  | 0 => fun _ _ _ _ _ _ => none
  | n + 1 => fun x0 x1 x3 x4 x5 S => b_P_write_50 d (l_P_write_50 d n) x0 x1 x3 x4 x5 S
def e_P_write (d : Nat) (p0 : Option Nat) (p1 : Int64) (S : xS) : Option ((Int32 ⊕ Nat) × xS) := (f_P_bytesOf d p1 S).bind fun q1 => (if q1.1 = 0 then (xthrow d 0 q1.2) else ((xgI q1.2 p0 0 1).bind fun v2 => (if q1.1 ≤ (2048 - v2) then ((xgI q1.2 p0 0 1).bind fun v3 => l_P_write_50 d xN p0 p1 q1.1 v3 0 q1.2) else (xthrow d 1 q1.2))))
def f_P_write : Nat → (Option Nat → Int64 → xS → Option ((Int32 ⊕ Nat) × xS))
  | 0 => fun _ _ _ => none
  | d + 1 => fun p0 p1 S => e_P_write d p0 p1 S
def b_R_charactersOf_12 (d : Nat) (y0 : Int32) (S : xS) : Option (Int32 × xS) := some (y0, S)
def e_R_charactersOf (d : Nat) (p0 : Option Nat) (S : xS) : Option (Int32 × xS) := xcase p0 (b_R_charactersOf_12 d 0 S) (fun _ => (xgI S p0 2 7).bind fun v2 => b_R_charactersOf_12 d v2 S)
def f_R_charactersOf : Nat → (Option Nat → xS → Option (Int32 × xS))
  | 0 => fun _ _ => none
  | d + 1 => fun p0 S => e_R_charactersOf d p0 S
def b_P_become_20 (d : Nat) (x2 : Option Nat) (S : xS) : Option (Int32 × xS) := (f_R_charactersOf d x2 S).bind fun q1 => some (q1.1, q1.2)
def e_P_become (d : Nat) (p0 : Option Nat) (p1 : Int32) (p2 : Option Nat) (S : xS) : Option (Int32 × xS) := (if p1 < 0 then (b_P_become_20 d p2 S) else ((xgR S p0 0 2).bind fun v1 => (xlen S v1 2).bind fun v2 => (if v2 ≤ p1 then (b_P_become_20 d p2 S) else ((xgR S p0 0 2).bind fun v3 => (xstR S v3 2 2 p1 p2).bind fun S4 => b_P_become_20 d p2 S4))))
def f_P_become : Nat → (Option Nat → Int32 → Option Nat → xS → Option (Int32 × xS))
  | 0 => fun _ _ _ _ => none
  | d + 1 => fun p0 p1 p2 S => e_P_become d p0 p1 p2 S
def b_P_isText_18 (d : Nat) (y0 : Int32) (S : xS) : Option (Int32 × xS) := (if y0 = 0 ∨ y0 = 1 then some (y0, S) else none)
def b_P_isText_17 (d : Nat) (S : xS) : Option (Int32 × xS) := b_P_isText_18 d 0 S
def e_P_isText (d : Nat) (p0 : Option Nat) (p1 : Int32) (S : xS) : Option (Int32 × xS) := (if p1 < 0 then (b_P_isText_17 d S) else ((xgR S p0 0 2).bind fun v1 => (xlen S v1 2).bind fun v2 => (if v2 ≤ p1 then (b_P_isText_17 d S) else (b_P_isText_18 d 1 S))))
def f_P_isText : Nat → (Option Nat → Int32 → xS → Option (Int32 × xS))
  | 0 => fun _ _ _ => none
  | d + 1 => fun p0 p1 S => e_P_isText d p0 p1 S
def e_P_demandText (d : Nat) (p0 : Option Nat) (p1 : Int32) (S : xS) : Option ((Unit ⊕ Nat) × xS) := (xobj S p0 0).bind fun _ => (f_P_isText d p0 p1 S).bind fun q1 => (if q1.1 = 0 then (xthrow d 2 q1.2) else (some (.inl (), q1.2)))
def f_P_demandText : Nat → (Option Nat → Int32 → xS → Option ((Unit ⊕ Nat) × xS))
  | 0 => fun _ _ _ => none
  | d + 1 => fun p0 p1 S => e_P_demandText d p0 p1 S
def b_P_rootOf_23 (d : Nat) (y0 : Option Nat) (S : xS) : Option (Option Nat × xS) := some (y0, S)
def b_P_rootOf_22 (d : Nat) (S : xS) : Option (Option Nat × xS) := b_P_rootOf_23 d none S
def e_P_rootOf (d : Nat) (p0 : Option Nat) (p1 : Int32) (S : xS) : Option (Option Nat × xS) := (if p1 < 0 then (b_P_rootOf_22 d S) else ((xgR S p0 0 2).bind fun v1 => (xlen S v1 2).bind fun v2 => (if v2 ≤ p1 then (b_P_rootOf_22 d S) else ((xgR S p0 0 2).bind fun v3 => (xldR S v3 2 p1).bind fun v4 => b_P_rootOf_23 d v4 S))))
def f_P_rootOf : Nat → (Option Nat → Int32 → xS → Option (Option Nat × xS))
  | 0 => fun _ _ _ => none
  | d + 1 => fun p0 p1 S => e_P_rootOf d p0 p1 S
def b_P_demandEdge_21 (d : Nat) (S : xS) : Option ((Unit ⊕ Nat) × xS) := xthrow d 2 S
def e_P_demandEdge (d : Nat) (p0 : Option Nat) (p1 : Int32) (p2 : Int32) (S : xS) : Option ((Unit ⊕ Nat) × xS) := (xobj S p0 0).bind fun _ => (f_P_demandText d p0 p1 S).bind fun q1 => xtry q1.1 (fun v2 => (if p2 < 0 then (b_P_demandEdge_21 d q1.2) else ((xobj q1.2 p0 0).bind fun _ => (f_P_rootOf d p0 p1 q1.2).bind fun q3 => (f_R_charactersOf d q3.1 q3.2).bind fun q4 => (if p2 ≤ q4.1 then (some (.inl (), q4.2)) else (b_P_demandEdge_21 d q4.2))))) (fun e => some (.inr e, q1.2))
def f_P_demandEdge : Nat → (Option Nat → Int32 → Int32 → xS → Option ((Unit ⊕ Nat) × xS))
  | 0 => fun _ _ _ _ => none
  | d + 1 => fun p0 p1 p2 S => e_P_demandEdge d p0 p1 p2 S
def b_P_charactersInAll_13 (d : Nat) (k13 : Int32 → Option Nat → Int32 → Int32 → xS → Option (Int32 × xS)) (x1 : Int32) (x2 : Option Nat) (x3 : Int32) (x4 : Int32) (S : xS) : Option (Int32 × xS) := (if x3 ≤ x4 then (some (x1, S)) else ((xldR S x2 2 x4).bind fun v1 => (f_R_charactersOf d v1 S).bind fun q2 => k13 (x1 + q2.1) x2 x3 (x4 + 1) q2.2))
def l_P_charactersInAll_13 (d : Nat) : Nat → (Int32 → Option Nat → Int32 → Int32 → xS → Option (Int32 × xS))
  | 0 => fun _ _ _ _ _ => none
  | n + 1 => fun x1 x2 x3 x4 S => b_P_charactersInAll_13 d (l_P_charactersInAll_13 d n) x1 x2 x3 x4 S
def e_P_charactersInAll (d : Nat) (p0 : Option Nat) (S : xS) : Option (Int32 × xS) := (xgR S p0 0 2).bind fun v1 => (xlen S v1 2).bind fun v2 => l_P_charactersInAll_13 d xN 0 v1 v2 0 S
def f_P_charactersInAll : Nat → (Option Nat → xS → Option (Int32 × xS))
  | 0 => fun _ _ => none
  | d + 1 => fun p0 S => e_P_charactersInAll d p0 S
def b_R_piecesOf_12 (d : Nat) (y0 : Int32) (S : xS) : Option (Int32 × xS) := some (y0, S)
def e_R_piecesOf (d : Nat) (p0 : Option Nat) (S : xS) : Option (Int32 × xS) := xcase p0 (b_R_piecesOf_12 d 0 S) (fun _ => (xgI S p0 2 6).bind fun v2 => b_R_piecesOf_12 d v2 S)
def f_R_piecesOf : Nat → (Option Nat → xS → Option (Int32 × xS))
  | 0 => fun _ _ => none
  | d + 1 => fun p0 S => e_R_piecesOf d p0 S
def b_P_piecesInAll_13 (d : Nat) (k13 : Int32 → Option Nat → Int32 → Int32 → xS → Option (Int32 × xS)) (x1 : Int32) (x2 : Option Nat) (x3 : Int32) (x4 : Int32) (S : xS) : Option (Int32 × xS) := (if x3 ≤ x4 then (some (x1, S)) else ((xldR S x2 2 x4).bind fun v1 => (f_R_piecesOf d v1 S).bind fun q2 => k13 (x1 + q2.1) x2 x3 (x4 + 1) q2.2))
def l_P_piecesInAll_13 (d : Nat) : Nat → (Int32 → Option Nat → Int32 → Int32 → xS → Option (Int32 × xS))
  | 0 => fun _ _ _ _ _ => none
  | n + 1 => fun x1 x2 x3 x4 S => b_P_piecesInAll_13 d (l_P_piecesInAll_13 d n) x1 x2 x3 x4 S
def e_P_piecesInAll (d : Nat) (p0 : Option Nat) (S : xS) : Option (Int32 × xS) := (xgR S p0 0 2).bind fun v1 => (xlen S v1 2).bind fun v2 => l_P_piecesInAll_13 d xN 0 v1 v2 0 S
def f_P_piecesInAll : Nat → (Option Nat → xS → Option (Int32 × xS))
  | 0 => fun _ _ => none
  | d + 1 => fun p0 S => e_P_piecesInAll d p0 S
def e_P_demandRoom (d : Nat) (p0 : Option Nat) (p1 : Int32) (p2 : Int32) (S : xS) : Option ((Unit ⊕ Nat) × xS) := (xobj S p0 0).bind fun _ => (f_P_charactersInAll d p0 S).bind fun q1 => (if q1.1 ≤ (4096 - p1) then ((xobj q1.2 p0 0).bind fun _ => (f_P_piecesInAll d p0 q1.2).bind fun q2 => (if q2.1 ≤ (1024 - p2) then (some (.inl (), q2.2)) else (xthrow d 1 q2.2))) else (xthrow d 1 q1.2))
def f_P_demandRoom : Nat → (Option Nat → Int32 → Int32 → xS → Option ((Unit ⊕ Nat) × xS))
  | 0 => fun _ _ _ _ => none
  | d + 1 => fun p0 p1 p2 S => e_P_demandRoom d p0 p1 p2 S
def b_R_orderAt_92 (d : Nat) (k7 : Int32 → Int32 → Option Nat → xS → Option (Int32 × xS)) (x2 : Int32) (x3 : Int32) (x4 : Option Nat) (S : xS) : Option (Int32 × xS) := k7 x2 x3 x4 S
def b_R_orderAt_7 (d : Nat) (k7 : Int32 → Int32 → Option Nat → xS → Option (Int32 × xS)) (x2 : Int32) (x3 : Int32) (x4 : Option Nat) (S : xS) : Option (Int32 × xS) := xcase x4 (some (x2, S)) (fun _ => (xgR S x4 2 3).bind fun v2 => (f_R_charactersOf d v2 S).bind fun q3 => (if q3.1 ≤ x3 then ((xgI q3.2 x4 2 1).bind fun v4 => (if (q3.1 + v4) ≤ x3 then ((xgR q3.2 x4 2 3).bind fun v5 => (f_R_piecesOf d v5 q3.2).bind fun q6 => (xgI q6.2 x4 2 1).bind fun v7 => (xgR q6.2 x4 2 4).bind fun v8 => b_R_orderAt_92 d k7 (x2 + (q6.1 + 1)) (x3 - (q3.1 + v7)) v8 q6.2) else ((xgR q3.2 x4 2 3).bind fun v9 => (f_R_piecesOf d v9 q3.2).bind fun q10 => some (x2 + q10.1, q10.2)))) else ((xgR q3.2 x4 2 3).bind fun v11 => b_R_orderAt_92 d k7 x2 x3 v11 q3.2)))
def l_R_orderAt_7 (d : Nat) : Nat → (Int32 → Int32 → Option Nat → xS → Option (Int32 × xS))
  | 0 => fun _ _ _ _ => none
  | n + 1 => fun x2 x3 x4 S => b_R_orderAt_7 d (l_R_orderAt_7 d n) x2 x3 x4 S
def e_R_orderAt (d : Nat) (p0 : Option Nat) (p1 : Int32) (S : xS) : Option (Int32 × xS) := l_R_orderAt_7 d xN 0 p1 p0 S
def f_R_orderAt : Nat → (Option Nat → Int32 → xS → Option (Int32 × xS))
  | 0 => fun _ _ _ => none
  | d + 1 => fun p0 p1 S => e_R_orderAt d p0 p1 S
def b_Y_before_18 (d : Nat) (y0 : Int32) (S : xS) : Option (Int32 × xS) := some (y0, S)
def e_Y_before (d : Nat) (p0 : Option Nat) (p1 : Int32) (S : xS) : Option (Int32 × xS) := (if 1 ≤ p1 then ((f_R_orderAt d p0 (p1 - 1) S).bind fun q1 => b_Y_before_18 d (q1.1 + 1) q1.2) else (b_Y_before_18 d 0 S))
def f_Y_before : Nat → (Option Nat → Int32 → xS → Option (Int32 × xS))
  | 0 => fun _ _ _ => none
  | d + 1 => fun p0 p1 S => e_Y_before d p0 p1 S
def e_Y_behind (d : Nat) (p0 : Option Nat) (p1 : Int32) (S : xS) : Option (Int32 × xS) := (f_R_piecesOf d p0 S).bind fun q1 => (f_R_orderAt d p0 p1 q1.2).bind fun q2 => some (q1.1 - q2.1, q2.2)
def f_Y_behind : Nat → (Option Nat → Int32 → xS → Option (Int32 × xS))
  | 0 => fun _ _ _ => none
  | d + 1 => fun p0 p1 S => e_Y_behind d p0 p1 S
def b_R_numbered_51 (d : Nat) (k4 : Int32 → Option Nat → xS → Option (Option Nat × xS)) (x2 : Int32) (x3 : Option Nat) (S : xS) : Option (Option Nat × xS) := k4 x2 x3 S
def b_R_numbered_4 (d : Nat) (k4 : Int32 → Option Nat → xS → Option (Option Nat × xS)) (x2 : Int32) (x3 : Option Nat) (S : xS) : Option (Option Nat × xS) := xcase x3 (some (none, S)) (fun _ => (xgR S x3 2 3).bind fun v2 => (f_R_piecesOf d v2 S).bind fun q3 => (if x2 = q3.1 then (some (x3, q3.2)) else (if q3.1 ≤ x2 then ((xgR q3.2 x3 2 4).bind fun v4 => b_R_numbered_51 d k4 (x2 - (q3.1 + 1)) v4 q3.2) else ((xgR q3.2 x3 2 3).bind fun v5 => b_R_numbered_51 d k4 x2 v5 q3.2))))
def l_R_numbered_4 (d : Nat) : Nat → (Int32 → Option Nat → xS → Option (Option Nat × xS))
  | 0 => fun _ _ _ => none
  | n + 1 => fun x2 x3 S => b_R_numbered_4 d (l_R_numbered_4 d n) x2 x3 S
def e_R_numbered (d : Nat) (p0 : Option Nat) (p1 : Int32) (S : xS) : Option (Option Nat × xS) := l_R_numbered_4 d xN p1 p0 S
def f_R_numbered : Nat → (Option Nat → Int32 → xS → Option (Option Nat × xS))
  | 0 => fun _ _ _ => none
  | d + 1 => fun p0 p1 S => e_R_numbered d p0 p1 S
def b_R_startOf_69 (d : Nat) (k7 : Int32 → Int32 → Option Nat → xS → Option (Int32 × xS)) (x2 : Int32) (x3 : Int32) (x4 : Option Nat) (S : xS) : Option (Int32 × xS) := k7 x2 x3 x4 S
def b_R_startOf_7 (d : Nat) (k7 : Int32 → Int32 → Option Nat → xS → Option (Int32 × xS)) (x2 : Int32) (x3 : Int32) (x4 : Option Nat) (S : xS) : Option (Int32 × xS) := xcase x4 (some (x2, S)) (fun _ => (xgR S x4 2 3).bind fun v2 => (f_R_piecesOf d v2 S).bind fun q3 => (if q3.1 < x3 then ((xgR q3.2 x4 2 3).bind fun v4 => (f_R_charactersOf d v4 q3.2).bind fun q5 => (xgI q5.2 x4 2 1).bind fun v6 => (xgR q5.2 x4 2 4).bind fun v7 => b_R_startOf_69 d k7 (x2 + (q5.1 + v6)) (x3 - (q3.1 + 1)) v7 q5.2) else ((xgR q3.2 x4 2 3).bind fun v8 => b_R_startOf_69 d k7 x2 x3 v8 q3.2)))
def l_R_startOf_7 (d : Nat) : Nat → (Int32 → Int32 → Option Nat → xS → Option (Int32 × xS))
  | 0 => fun _ _ _ _ => none
  | n + 1 => fun x2 x3 x4 S => b_R_startOf_7 d (l_R_startOf_7 d n) x2 x3 x4 S
def e_R_startOf (d : Nat) (p0 : Option Nat) (p1 : Int32) (S : xS) : Option (Int32 × xS) := l_R_startOf_7 d xN 0 p1 p0 S
def f_R_startOf : Nat → (Option Nat → Int32 → xS → Option (Int32 × xS))
  | 0 => fun _ _ _ => none
  | d + 1 => fun p0 p1 S => e_R_startOf d p0 p1 S
def b_R_sourceAt_32 (d : Nat) (y0 : Int32) (S : xS) : Option (Int32 × xS) := some (y0, S)
def e_R_sourceAt (d : Nat) (p0 : Option Nat) (p1 : Int32) (S : xS) : Option (Int32 × xS) := (f_R_orderAt d p0 p1 S).bind fun q1 => (f_R_numbered d p0 q1.1 q1.2).bind fun q2 => xcase q2.1 (b_R_sourceAt_32 d ((-1)) q2.2) (fun _ => (xgI q2.2 q2.1 2 0).bind fun v4 => (f_R_startOf d p0 q1.1 q2.2).bind fun q5 => b_R_sourceAt_32 d ((v4 + p1) - q5.1) q5.2)
def f_R_sourceAt : Nat → (Option Nat → Int32 → xS → Option (Int32 × xS))
  | 0 => fun _ _ _ => none
  | d + 1 => fun p0 p1 S => e_R_sourceAt d p0 p1 S
def b_R_tagAt_22 (d : Nat) (y0 : Int32) (S : xS) : Option (Int32 × xS) := some (y0, S)
def e_R_tagAt (d : Nat) (p0 : Option Nat) (p1 : Int32) (S : xS) : Option (Int32 × xS) := (f_R_orderAt d p0 p1 S).bind fun q1 => (f_R_numbered d p0 q1.1 q1.2).bind fun q2 => xcase q2.1 (b_R_tagAt_22 d 0 q2.2) (fun _ => (xgI q2.2 q2.1 2 2).bind fun v4 => b_R_tagAt_22 d v4 q2.2)
def f_R_tagAt : Nat → (Option Nat → Int32 → xS → Option (Int32 × xS))
  | 0 => fun _ _ _ => none
  | d + 1 => fun p0 p1 S => e_R_tagAt d p0 p1 S
def b_Y_meldsLeft_36 (d : Nat) (y0 : Int32) (S : xS) : Option (Int32 × xS) := some (y0, S)
def b_Y_meldsLeft_35 (d : Nat) (S : xS) : Option (Int32 × xS) := b_Y_meldsLeft_36 d 0 S
def e_Y_meldsLeft (d : Nat) (p0 : Option Nat) (p1 : Int32) (p2 : Int32) (p3 : Int32) (S : xS) : Option (Int32 × xS) := (if 1 ≤ p1 then ((f_R_sourceAt d p0 (p1 - 1) S).bind fun q1 => (if (q1.1 + 1) = p2 then ((f_R_tagAt d p0 (p1 - 1) q1.2).bind fun q2 => (if q2.1 = p3 then (b_Y_meldsLeft_36 d 1 q2.2) else (b_Y_meldsLeft_35 d q2.2))) else (b_Y_meldsLeft_35 d q1.2))) else (some (0, S)))
def f_Y_meldsLeft : Nat → (Option Nat → Int32 → Int32 → Int32 → xS → Option (Int32 × xS))
  | 0 => fun _ _ _ _ _ => none
  | d + 1 => fun p0 p1 p2 p3 S => e_Y_meldsLeft d p0 p1 p2 p3 S
def b_Y_meldsRight_35 (d : Nat) (y0 : Int32) (S : xS) : Option (Int32 × xS) := some (y0, S)
def b_Y_meldsRight_34 (d : Nat) (S : xS) : Option (Int32 × xS) := b_Y_meldsRight_35 d 0 S
def e_Y_meldsRight (d : Nat) (p0 : Option Nat) (p1 : Int32) (p2 : Int32) (p3 : Int32) (S : xS) : Option (Int32 × xS) := (f_R_charactersOf d p0 S).bind fun q1 => (if p1 < q1.1 then ((f_R_sourceAt d p0 p1 q1.2).bind fun q2 => (if (p2 + 1) = q2.1 then ((f_R_tagAt d p0 p1 q2.2).bind fun q3 => (if q3.1 = p3 then (b_Y_meldsRight_35 d 1 q3.2) else (b_Y_meldsRight_34 d q3.2))) else (b_Y_meldsRight_34 d q2.2))) else (some (0, q1.2)))
def f_Y_meldsRight : Nat → (Option Nat → Int32 → Int32 → Int32 → xS → Option (Int32 × xS))
  | 0 => fun _ _ _ _ _ => none
  | d + 1 => fun p0 p1 p2 p3 S => e_Y_meldsRight d p0 p1 p2 p3 S
def e_Y_afterPut (d : Nat) (p0 : Option Nat) (p1 : Int32) (p2 : Int32) (p3 : Int32) (p4 : Int32) (S : xS) : Option (Int32 × xS) := (f_Y_before d p0 p1 S).bind fun q1 => (f_Y_behind d p0 p1 q1.2).bind fun q2 => (f_Y_meldsLeft d p0 p1 p2 p4 q2.2).bind fun q3 => (f_Y_meldsRight d p0 p1 ((p2 + p3) - 1) p4 q3.2).bind fun q4 => some ((((q1.1 + 1) + q2.1) - q3.1) - q4.1, q4.2)
def f_Y_afterPut : Nat → (Option Nat → Int32 → Int32 → Int32 → Int32 → xS → Option (Int32 × xS))
  | 0 => fun _ _ _ _ _ _ => none
  | d + 1 => fun p0 p1 p2 p3 p4 S => e_Y_afterPut d p0 p1 p2 p3 p4 S
def b_T_firstOf_4 (d : Nat) (k4 : Option Nat → Option Nat → xS → Option (Option Nat × xS)) (x1 : Option Nat) (x2 : Option Nat) (S : xS) : Option (Option Nat × xS) := xcase x2 (some (x1, S)) (fun _ => (xgR S x2 2 3).bind fun v2 => k4 x2 v2 S)
def l_T_firstOf_4 (d : Nat) : Nat → (Option Nat → Option Nat → xS → Option (Option Nat × xS))
  | 0 => fun _ _ _ => none
  | n + 1 => fun x1 x2 S => b_T_firstOf_4 d (l_T_firstOf_4 d n) x1 x2 S
def e_T_firstOf (d : Nat) (p0 : Option Nat) (S : xS) : Option (Option Nat × xS) := l_T_firstOf_4 d xN none p0 S
def f_T_firstOf : Nat → (Option Nat → xS → Option (Option Nat × xS))
  | 0 => fun _ _ => none
  | d + 1 => fun p0 S => e_T_firstOf d p0 S
def e_T_giveBack (d : Nat) (p0 : Option Nat) (p1 : Option Nat) (S : xS) : Option (Unit × xS) := (xput S p1 2 3 (va_rf none)).bind fun S1 => (xgR S1 p0 4 0).bind fun v2 => (xput S1 p1 2 4 (va_rf v2)).bind fun S3 => (xput S3 p0 4 0 (va_rf p1)).bind fun S4 => some ((), S4)
def f_T_giveBack : Nat → (Option Nat → Option Nat → xS → Option (Unit × xS))
  | 0 => fun _ _ _ => none
  | d + 1 => fun p0 p1 S => e_T_giveBack d p0 p1 S
def b_R_heightOf_12 (d : Nat) (y0 : Int32) (S : xS) : Option (Int32 × xS) := some (y0, S)
def e_R_heightOf (d : Nat) (p0 : Option Nat) (S : xS) : Option (Int32 × xS) := xcase p0 (b_R_heightOf_12 d 0 S) (fun _ => (xgI S p0 2 5).bind fun v2 => b_R_heightOf_12 d v2 S)
def f_R_heightOf : Nat → (Option Nat → xS → Option (Int32 × xS))
  | 0 => fun _ _ => none
  | d + 1 => fun p0 S => e_R_heightOf d p0 S
def b_T_sum_79 (d : Nat) (x0 : Option Nat) (x1 : Int32) (x2 : Int32) (x3 : Int32) (S : xS) : Option (Unit × xS) := (xput S x0 2 5 (.int (x1 + 1))).bind fun S1 => (xput S1 x0 2 6 (.int x2)).bind fun S2 => (xput S2 x0 2 7 (.int x3)).bind fun S3 => some ((), S3)
def b_T_sum_42 (d : Nat) (x0 : Option Nat) (x1 : Int32) (x2 : Int32) (x3 : Int32) (S : xS) : Option (Unit × xS) := (xgR S x0 2 4).bind fun v1 => xcase v1 (b_T_sum_79 d x0 x1 x2 x3 S) (fun _ => (xgI S v1 2 5).bind fun v3 => (xgI S v1 2 6).bind fun v4 => (xgI S v1 2 7).bind fun v5 => b_T_sum_79 d x0 (xmax x1 v3) (x2 + v4) (x3 + v5) S)
def e_T_sum (d : Nat) (p0 : Option Nat) (S : xS) : Option (Unit × xS) := (xgI S p0 2 1).bind fun v1 => (xgR S p0 2 3).bind fun v2 => xcase v2 (b_T_sum_42 d p0 0 1 v1 S) (fun _ => (xgI S v2 2 5).bind fun v4 => (xgI S v2 2 6).bind fun v5 => (xgI S v2 2 7).bind fun v6 => b_T_sum_42 d p0 v4 (1 + v5) (v1 + v6) S)
def f_T_sum : Nat → (Option Nat → xS → Option (Unit × xS))
  | 0 => fun _ _ => none
  | d + 1 => fun p0 S => e_T_sum d p0 S
def e_T_raiseLeft (d : Nat) (p0 : Option Nat) (S : xS) : Option (Option Nat × xS) := (xgR S p0 2 3).bind fun v1 => xcase v1 (some (p0, S)) (fun _ => (xgR S v1 2 4).bind fun v3 => (xput S p0 2 3 (va_rf v3)).bind fun S4 => (xput S4 v1 2 4 (va_rf p0)).bind fun S5 => (f_T_sum d p0 S5).bind fun q6 => (f_T_sum d v1 q6.2).bind fun q7 => some (v1, q7.2))
def f_T_raiseLeft : Nat → (Option Nat → xS → Option (Option Nat × xS))
  | 0 => fun _ _ => none
  | d + 1 => fun p0 S => e_T_raiseLeft d p0 S
def e_T_raiseRight (d : Nat) (p0 : Option Nat) (S : xS) : Option (Option Nat × xS) := (xgR S p0 2 4).bind fun v1 => xcase v1 (some (p0, S)) (fun _ => (xgR S v1 2 3).bind fun v3 => (xput S p0 2 4 (va_rf v3)).bind fun S4 => (xput S4 v1 2 3 (va_rf p0)).bind fun S5 => (f_T_sum d p0 S5).bind fun q6 => (f_T_sum d v1 q6.2).bind fun q7 => some (v1, q7.2))
def f_T_raiseRight : Nat → (Option Nat → xS → Option (Option Nat × xS))
  | 0 => fun _ _ => none
  | d + 1 => fun p0 S => e_T_raiseRight d p0 S
def b_T_balance_102 (d : Nat) (x0 : Option Nat) (S : xS) : Option (Option Nat × xS) := some (x0, S)
def b_T_balance_97 (d : Nat) (x0 : Option Nat) (S : xS) : Option (Option Nat × xS) := (f_T_raiseRight d x0 S).bind fun q1 => some (q1.1, q1.2)
def b_T_balance_63 (d : Nat) (x0 : Option Nat) (x2 : Option Nat) (x3 : Int32) (S : xS) : Option (Option Nat × xS) := (if ((-1)) ≤ x3 then (b_T_balance_102 d x0 S) else (xcase x2 (b_T_balance_102 d x0 S) (fun _ => (xgR S x2 2 3).bind fun v2 => (f_R_heightOf d v2 S).bind fun q3 => (xgR q3.2 x2 2 4).bind fun v4 => (f_R_heightOf d v4 q3.2).bind fun q5 => (if q3.1 ≤ q5.1 then (b_T_balance_97 d x0 q5.2) else ((f_T_raiseLeft d x2 q5.2).bind fun q6 => (xput q6.2 x0 2 4 (va_rf q6.1)).bind fun S7 => b_T_balance_97 d x0 S7)))))
def b_T_balance_58 (d : Nat) (x0 : Option Nat) (S : xS) : Option (Option Nat × xS) := (f_T_raiseLeft d x0 S).bind fun q1 => some (q1.1, q1.2)
def e_T_balance (d : Nat) (p0 : Option Nat) (S : xS) : Option (Option Nat × xS) := (f_T_sum d p0 S).bind fun q1 => (xgR q1.2 p0 2 3).bind fun v2 => (xgR q1.2 p0 2 4).bind fun v3 => (f_R_heightOf d v2 q1.2).bind fun q4 => (f_R_heightOf d v3 q4.2).bind fun q5 => (if (q4.1 - q5.1) ≤ 1 then (b_T_balance_63 d p0 v3 (q4.1 - q5.1) q5.2) else (xcase v2 (b_T_balance_63 d p0 v3 (q4.1 - q5.1) q5.2) (fun _ => (xgR q5.2 v2 2 4).bind fun v7 => (f_R_heightOf d v7 q5.2).bind fun q8 => (xgR q8.2 v2 2 3).bind fun v9 => (f_R_heightOf d v9 q8.2).bind fun q10 => (if q8.1 ≤ q10.1 then (b_T_balance_58 d p0 q10.2) else ((f_T_raiseRight d v2 q10.2).bind fun q11 => (xput q11.2 p0 2 3 (va_rf q11.1)).bind fun S12 => b_T_balance_58 d p0 S12)))))
def f_T_balance : Nat → (Option Nat → xS → Option (Option Nat × xS))
  | 0 => fun _ _ => none
  | d + 1 => fun p0 S => e_T_balance d p0 S
def b_T_join_81 (d : Nat) (fr : Option Nat → Option Nat → Option Nat → Int32 → xS → Option (Option Nat × xS)) (x0 : Option Nat) (x1 : Option Nat) (x2 : Option Nat) (S : xS) : Option (Option Nat × xS) := (xput S x1 2 3 (va_rf x0)).bind fun S1 => (xput S1 x1 2 4 (va_rf x2)).bind fun S2 => (f_T_sum d x1 S2).bind fun q3 => some (x1, q3.2)
def b_T_join_46 (d : Nat) (fr : Option Nat → Option Nat → Option Nat → Int32 → xS → Option (Option Nat × xS)) (x0 : Option Nat) (x1 : Option Nat) (x2 : Option Nat) (x3 : Int32) (x4 : Int32) (S : xS) : Option (Option Nat × xS) := xcase x2 (b_T_join_81 d fr x0 x1 x2 S) (fun _ => (if ((-1)) ≤ x4 then (b_T_join_81 d fr x0 x1 x2 S) else (if x3 ≤ 0 then (b_T_join_81 d fr x0 x1 x2 S) else ((xgR S x2 2 3).bind fun v2 => (fr x0 x1 v2 (x3 - 1) S).bind fun q3 => (xput q3.2 x2 2 3 (va_rf q3.1)).bind fun S4 => (f_T_balance d x2 S4).bind fun q5 => some (q5.1, q5.2)))))
def e_T_join (d : Nat) (fr : Option Nat → Option Nat → Option Nat → Int32 → xS → Option (Option Nat × xS)) (p0 : Option Nat) (p1 : Option Nat) (p2 : Option Nat) (p3 : Int32) (S : xS) : Option (Option Nat × xS) := (f_R_heightOf d p0 S).bind fun q1 => (f_R_heightOf d p2 q1.2).bind fun q2 => xcase p0 (b_T_join_46 d fr p0 p1 p2 p3 (q1.1 - q2.1) q2.2) (fun _ => (if (q1.1 - q2.1) ≤ 1 then (b_T_join_46 d fr p0 p1 p2 p3 (q1.1 - q2.1) q2.2) else (if p3 ≤ 0 then (b_T_join_46 d fr p0 p1 p2 p3 (q1.1 - q2.1) q2.2) else ((xgR q2.2 p0 2 4).bind fun v4 => (fr v4 p1 p2 (p3 - 1) q2.2).bind fun q5 => (xput q5.2 p0 2 4 (va_rf q5.1)).bind fun S6 => (f_T_balance d p0 S6).bind fun q7 => some (q7.1, q7.2)))))
def f_T_join : Nat → (Option Nat → Option Nat → Option Nat → Int32 → xS → Option (Option Nat × xS))
  | 0 => fun _ _ _ _ _ => none
  | d + 1 => fun p0 p1 p2 p3 S => e_T_join d (f_T_join d) p0 p1 p2 p3 S
def b_T_lastOf_4 (d : Nat) (k4 : Option Nat → Option Nat → xS → Option (Option Nat × xS)) (x1 : Option Nat) (x2 : Option Nat) (S : xS) : Option (Option Nat × xS) := xcase x2 (some (x1, S)) (fun _ => (xgR S x2 2 4).bind fun v2 => k4 x2 v2 S)
def l_T_lastOf_4 (d : Nat) : Nat → (Option Nat → Option Nat → xS → Option (Option Nat × xS))
  | 0 => fun _ _ _ => none
  | n + 1 => fun x1 x2 S => b_T_lastOf_4 d (l_T_lastOf_4 d n) x1 x2 S
def e_T_lastOf (d : Nat) (p0 : Option Nat) (S : xS) : Option (Option Nat × xS) := l_T_lastOf_4 d xN none p0 S
def f_T_lastOf : Nat → (Option Nat → xS → Option (Option Nat × xS))
  | 0 => fun _ _ => none
  | d + 1 => fun p0 S => e_T_lastOf d p0 S
def b_T_withoutFirst_9 (d : Nat) (fr : Option Nat → Int32 → xS → Option (Option Nat × xS)) (x0 : Option Nat) (S : xS) : Option (Option Nat × xS) := some (x0, S)
def e_T_withoutFirst (d : Nat) (fr : Option Nat → Int32 → xS → Option (Option Nat × xS)) (p0 : Option Nat) (p1 : Int32) (S : xS) : Option (Option Nat × xS) := xcase p0 (b_T_withoutFirst_9 d fr p0 S) (fun _ => (if 1 ≤ p1 then ((xgR S p0 2 3).bind fun v2 => xcase v2 ((xgR S p0 2 4).bind fun v4 => some (v4, S)) (fun _ => (xgR S p0 2 3).bind fun v5 => (fr v5 (p1 - 1) S).bind fun q6 => (xput q6.2 p0 2 3 (va_rf q6.1)).bind fun S7 => (f_T_balance d p0 S7).bind fun q8 => some (q8.1, q8.2))) else (b_T_withoutFirst_9 d fr p0 S)))
def f_T_withoutFirst : Nat → (Option Nat → Int32 → xS → Option (Option Nat × xS))
  | 0 => fun _ _ _ => none
  | d + 1 => fun p0 p1 S => e_T_withoutFirst d (f_T_withoutFirst d) p0 p1 S
def b_T_withoutLast_9 (d : Nat) (fr : Option Nat → Int32 → xS → Option (Option Nat × xS)) (x0 : Option Nat) (S : xS) : Option (Option Nat × xS) := some (x0, S)
def e_T_withoutLast (d : Nat) (fr : Option Nat → Int32 → xS → Option (Option Nat × xS)) (p0 : Option Nat) (p1 : Int32) (S : xS) : Option (Option Nat × xS) := xcase p0 (b_T_withoutLast_9 d fr p0 S) (fun _ => (if 1 ≤ p1 then ((xgR S p0 2 4).bind fun v2 => xcase v2 ((xgR S p0 2 3).bind fun v4 => some (v4, S)) (fun _ => (xgR S p0 2 4).bind fun v5 => (fr v5 (p1 - 1) S).bind fun q6 => (xput q6.2 p0 2 4 (va_rf q6.1)).bind fun S7 => (f_T_balance d p0 S7).bind fun q8 => some (q8.1, q8.2))) else (b_T_withoutLast_9 d fr p0 S)))
def f_T_withoutLast : Nat → (Option Nat → Int32 → xS → Option (Option Nat × xS))
  | 0 => fun _ _ _ => none
  | d + 1 => fun p0 p1 S => e_T_withoutLast d (f_T_withoutLast d) p0 p1 S
def b_T_meet_84 (d : Nat) (x1 : Option Nat) (x3 : Option Nat) (x5 : Option Nat) (S : xS) : Option (Option Nat × xS) := (f_T_withoutLast d x1 40 S).bind fun q1 => (f_T_join d q1.1 x3 x5 40 q1.2).bind fun q2 => some (q2.1, q2.2)
def e_T_meet (d : Nat) (p0 : Option Nat) (p1 : Option Nat) (p2 : Option Nat) (S : xS) : Option (Option Nat × xS) := (f_T_lastOf d p1 S).bind fun q1 => (f_T_firstOf d p2 q1.2).bind fun q2 => xcase q1.1 (some (p2, q2.2)) (fun _ => xcase q2.1 (some (p1, q2.2)) (fun _ => (xgI q2.2 q1.1 2 0).bind fun v5 => (xgI q2.2 q1.1 2 1).bind fun v6 => (xgI q2.2 q2.1 2 0).bind fun v7 => (if (v5 + v6) = v7 then ((xgI q2.2 q1.1 2 2).bind fun v8 => (xgI q2.2 q2.1 2 2).bind fun v9 => (if v8 = v9 then ((f_T_withoutFirst d p2 40 q2.2).bind fun q10 => (xgI q10.2 q1.1 2 1).bind fun v11 => (xgI q10.2 q2.1 2 1).bind fun v12 => (xput q10.2 q1.1 2 1 (.int (v11 + v12))).bind fun S13 => (xobj S13 p0 4).bind fun _ => (f_T_giveBack d p0 q2.1 S13).bind fun q14 => b_T_meet_84 d p1 q1.1 q10.1 q14.2) else (b_T_meet_84 d p1 q1.1 p2 q2.2))) else (b_T_meet_84 d p1 q1.1 p2 q2.2))))
def f_T_meet : Nat → (Option Nat → Option Nat → Option Nat → xS → Option (Option Nat × xS))
  | 0 => fun _ _ _ _ => none
  | d + 1 => fun p0 p1 p2 S => e_T_meet d p0 p1 p2 S
def e_H_init (d : Nat) (p0 : Option Nat) (S : xS) : Option (Unit × xS) := xcase p0 none (fun _ => some ((), S))
def f_H_init : Nat → (Option Nat → xS → Option (Unit × xS))
  | 0 => fun _ _ => none
  | d + 1 => fun p0 S => e_H_init d p0 S
def e_N_init (d : Nat) (p0 : Option Nat) (S : xS) : Option (Unit × xS) := xcase p0 none (fun _ => some ((), S))
def f_N_init : Nat → (Option Nat → xS → Option (Unit × xS))
  | 0 => fun _ _ => none
  | d + 1 => fun p0 S => e_N_init d p0 S
def e_T_alone (d : Nat) (p0 : Option Nat) (S : xS) : Option (Option Nat × xS) := (xput S p0 2 3 (va_rf none)).bind fun S1 => (xput S1 p0 2 4 (va_rf none)).bind fun S2 => (f_T_sum d p0 S2).bind fun q3 => some (p0, q3.2)
def f_T_alone : Nat → (Option Nat → xS → Option (Option Nat × xS))
  | 0 => fun _ _ => none
  | d + 1 => fun p0 S => e_T_alone d p0 S
def b_T_take_32 (d : Nat) (x1 : Int32) (x2 : Int32) (x3 : Int32) (x4 : Option Nat) (S : xS) : Option (Option Nat × xS) := (xput S x4 2 0 (.int x1)).bind fun S1 => (xput S1 x4 2 1 (.int x2)).bind fun S2 => (xput S2 x4 2 2 (.int x3)).bind fun S3 => (f_T_alone d x4 S3).bind fun q4 => some (q4.1, q4.2)
def e_T_take (d : Nat) (p0 : Option Nat) (p1 : Int32) (p2 : Int32) (p3 : Int32) (S : xS) : Option (Option Nat × xS) := (xgR S p0 4 0).bind fun v1 => xcase v1 ((xnew S 2 [.int 0, .int 0, .int 0, .null, .null, .int 0, .int 0, .int 0]).bind fun q3 => (f_N_init d (some q3.1) q3.2).bind fun q4 => b_T_take_32 d p1 p2 p3 (some q3.1) q4.2) (fun _ => (xgR S v1 2 4).bind fun v5 => (xput S p0 4 0 (va_rf v5)).bind fun S6 => b_T_take_32 d p1 p2 p3 v1 S6)
def f_T_take : Nat → (Option Nat → Int32 → Int32 → Int32 → xS → Option (Option Nat × xS))
  | 0 => fun _ _ _ _ _ => none
  | d + 1 => fun p0 p1 p2 p3 S => e_T_take d p0 p1 p2 p3 S
def b_T_partInto_181 (d : Nat) (fr : Option Nat → Option Nat → Option Nat → Int32 → Int32 → xS → Option (Unit × xS)) (S : xS) : Option (Unit × xS) := some ((), S)
def b_T_partInto_10 (d : Nat) (fr : Option Nat → Option Nat → Option Nat → Int32 → Int32 → xS → Option (Unit × xS)) (x1 : Option Nat) (x2 : Option Nat) (S : xS) : Option (Unit × xS) := (xput S x1 1 0 (va_rf none)).bind fun S1 => (xput S1 x1 1 1 (va_rf x2)).bind fun S2 => some ((), S2)
def e_T_partInto (d : Nat) (fr : Option Nat → Option Nat → Option Nat → Int32 → Int32 → xS → Option (Unit × xS)) (p0 : Option Nat) (p1 : Option Nat) (p2 : Option Nat) (p3 : Int32) (p4 : Int32) (S : xS) : Option (Unit × xS) := xcase p2 (b_T_partInto_10 d fr p1 p2 S) (fun _ => (if 1 ≤ p4 then ((xgR S p2 2 3).bind fun v2 => (xgR S p2 2 4).bind fun v3 => (f_R_charactersOf d v2 S).bind fun q4 => (if 0 < (p3 - q4.1) then ((xgI q4.2 p2 2 1).bind fun v5 => (if (p3 - q4.1) < v5 then ((xgI q4.2 p2 2 0).bind fun v6 => (xgI q4.2 p2 2 1).bind fun v7 => (xgI q4.2 p2 2 2).bind fun v8 => (xobj q4.2 p0 4).bind fun _ => (f_T_take d p0 (v6 + (p3 - q4.1)) (v7 - (p3 - q4.1)) v8 q4.2).bind fun q9 => (xput q9.2 p2 2 1 (.int (p3 - q4.1))).bind fun S10 => (f_T_join d v2 p2 none 40 S10).bind fun q11 => (xput q11.2 p1 1 0 (va_rf q11.1)).bind fun S12 => (f_T_join d none q9.1 v3 40 S12).bind fun q13 => (xput q13.2 p1 1 1 (va_rf q13.1)).bind fun S14 => b_T_partInto_181 d fr S14) else ((xgI q4.2 p2 2 1).bind fun v15 => (xobj q4.2 p0 4).bind fun _ => (fr p0 p1 v3 ((p3 - q4.1) - v15) (p4 - 1) q4.2).bind fun q16 => (xgR q16.2 p1 1 0).bind fun v17 => (f_T_join d v2 p2 v17 40 q16.2).bind fun q18 => (xput q18.2 p1 1 0 (va_rf q18.1)).bind fun S19 => b_T_partInto_181 d fr S19))) else ((xobj q4.2 p0 4).bind fun _ => (fr p0 p1 v2 p3 (p4 - 1) q4.2).bind fun q20 => (xgR q20.2 p1 1 1).bind fun v21 => (f_T_join d v21 p2 v3 40 q20.2).bind fun q22 => (xput q22.2 p1 1 1 (va_rf q22.1)).bind fun S23 => b_T_partInto_181 d fr S23))) else (b_T_partInto_10 d fr p1 p2 S)))
def f_T_partInto : Nat → (Option Nat → Option Nat → Option Nat → Int32 → Int32 → xS → Option (Unit × xS))
  | 0 => fun _ _ _ _ _ _ => none
  | d + 1 => fun p0 p1 p2 p3 p4 S => e_T_partInto d (f_T_partInto d) p0 p1 p2 p3 p4 S
def e_T_part (d : Nat) (p0 : Option Nat) (p1 : Option Nat) (p2 : Int32) (S : xS) : Option (Option Nat × xS) := (xnew S 1 [.null, .null]).bind fun q1 => (f_H_init d (some q1.1) q1.2).bind fun q2 => (xobj q2.2 p0 4).bind fun _ => (f_T_partInto d p0 (some q1.1) p1 p2 40 q2.2).bind fun q3 => some (some q1.1, q3.2)
def f_T_part : Nat → (Option Nat → Option Nat → Int32 → xS → Option (Option Nat × xS))
  | 0 => fun _ _ _ _ => none
  | d + 1 => fun p0 p1 p2 S => e_T_part d p0 p1 p2 S
def b_P_put_27 (d : Nat) (S : xS) : Option ((Int32 ⊕ Nat) × xS) := xthrow d 2 S
def e_P_put (d : Nat) (p0 : Option Nat) (p1 : Int32) (p2 : Int32) (p3 : Int32) (p4 : Int32) (p5 : Int32) (S : xS) : Option ((Int32 ⊕ Nat) × xS) := (xobj S p0 0).bind fun _ => (f_P_demandEdge d p0 p1 p2 S).bind fun q1 => xtry q1.1 (fun v2 => (if p4 < 1 then (b_P_put_27 d q1.2) else (if p3 < 0 then (b_P_put_27 d q1.2) else ((xgI q1.2 p0 0 1).bind fun v3 => (if p3 ≤ (v3 - p4) then ((xobj q1.2 p0 0).bind fun _ => (f_P_rootOf d p0 p1 q1.2).bind fun q4 => (f_Y_afterPut d q4.1 p2 p3 p4 p5 q4.2).bind fun q5 => (f_R_piecesOf d q4.1 q5.2).bind fun q6 => (xobj q6.2 p0 0).bind fun _ => (f_P_demandRoom d p0 p4 (q5.1 - q6.1) q6.2).bind fun q7 => xtry q7.1 (fun v8 => (xgR q7.2 p0 0 3).bind fun v9 => (xobj q7.2 v9 4).bind fun _ => (f_T_part d v9 q4.1 p2 q7.2).bind fun q10 => (xgR q10.2 p0 0 3).bind fun v11 => (xobj q10.2 v11 4).bind fun _ => (f_T_take d v11 p3 p4 p5 q10.2).bind fun q12 => (xgR q12.2 p0 0 3).bind fun v13 => (xgR q12.2 p0 0 3).bind fun v14 => (xgR q12.2 q10.1 1 0).bind fun v15 => (xobj q12.2 v14 4).bind fun _ => (f_T_meet d v14 v15 q12.1 q12.2).bind fun q16 => (xgR q16.2 q10.1 1 1).bind fun v17 => (xobj q16.2 v13 4).bind fun _ => (f_T_meet d v13 q16.1 v17 q16.2).bind fun q18 => (xobj q18.2 p0 0).bind fun _ => (f_P_become d p0 p1 q18.1 q18.2).bind fun q19 => some (.inl q19.1, q19.2)) (fun e => some (.inr e, q7.2))) else (b_P_put_27 d q1.2)))))) (fun e => some (.inr e, q1.2))
def f_P_put : Nat → (Option Nat → Int32 → Int32 → Int32 → Int32 → Int32 → xS → Option ((Int32 ⊕ Nat) × xS))
  | 0 => fun _ _ _ _ _ _ _ => none
  | d + 1 => fun p0 p1 p2 p3 p4 p5 S => e_P_put d p0 p1 p2 p3 p4 p5 S
def b_P_demandFree_13 (d : Nat) (S : xS) : Option ((Unit ⊕ Nat) × xS) := xthrow d 0 S
def e_P_demandFree (d : Nat) (p0 : Option Nat) (p1 : Int32) (p2 : Int32) (S : xS) : Option ((Unit ⊕ Nat) × xS) := (if p1 = p2 then (b_P_demandFree_13 d S) else ((xobj S p0 0).bind fun _ => (f_P_rootOf d p0 p1 S).bind fun q1 => xcase q1.1 (some (.inl (), q1.2)) (fun _ => b_P_demandFree_13 d q1.2)))
def f_P_demandFree : Nat → (Option Nat → Int32 → Int32 → xS → Option ((Unit ⊕ Nat) × xS))
  | 0 => fun _ _ _ _ => none
  | d + 1 => fun p0 p1 p2 S => e_P_demandFree d p0 p1 p2 S
def b_P_demandRange_27 (d : Nat) (S : xS) : Option ((Unit ⊕ Nat) × xS) := xthrow d 2 S
def e_P_demandRange (d : Nat) (p0 : Option Nat) (p1 : Int32) (p2 : Int32) (p3 : Int32) (S : xS) : Option ((Unit ⊕ Nat) × xS) := (xobj S p0 0).bind fun _ => (f_P_demandText d p0 p1 S).bind fun q1 => xtry q1.1 (fun v2 => (if p3 < 0 then (b_P_demandRange_27 d q1.2) else (if p2 < 0 then (b_P_demandRange_27 d q1.2) else ((xobj q1.2 p0 0).bind fun _ => (f_P_rootOf d p0 p1 q1.2).bind fun q3 => (f_R_charactersOf d q3.1 q3.2).bind fun q4 => (if p2 ≤ (q4.1 - p3) then (some (.inl (), q4.2)) else (b_P_demandRange_27 d q4.2)))))) (fun e => some (.inr e, q1.2))
def f_P_demandRange : Nat → (Option Nat → Int32 → Int32 → Int32 → xS → Option ((Unit ⊕ Nat) × xS))
  | 0 => fun _ _ _ _ _ => none
  | d + 1 => fun p0 p1 p2 p3 S => e_P_demandRange d p0 p1 p2 p3 S
def e_Y_afterCut (d : Nat) (p0 : Option Nat) (p1 : Int32) (p2 : Int32) (S : xS) : Option (Int32 × xS) := (f_Y_before d p0 p1 S).bind fun q1 => (f_Y_behind d p0 (p1 + p2) q1.2).bind fun q2 => (f_R_charactersOf d p0 q2.2).bind fun q3 => (if (p1 + p2) < q3.1 then ((f_R_sourceAt d p0 (p1 + p2) q3.2).bind fun q4 => (f_R_tagAt d p0 (p1 + p2) q4.2).bind fun q5 => (f_Y_meldsLeft d p0 p1 q4.1 q5.1 q5.2).bind fun q6 => some ((q1.1 + q2.1) - q6.1, q6.2)) else (some (q1.1 + q2.1, q3.2)))
def f_Y_afterCut : Nat → (Option Nat → Int32 → Int32 → xS → Option (Int32 × xS))
  | 0 => fun _ _ _ _ => none
  | d + 1 => fun p0 p1 p2 S => e_Y_afterCut d p0 p1 p2 S
def b_Y_within_26 (d : Nat) (y0 : Int32) (S : xS) : Option (Int32 × xS) := some (y0, S)
def e_Y_within (d : Nat) (p0 : Option Nat) (p1 : Int32) (p2 : Int32) (S : xS) : Option (Int32 × xS) := (if 1 ≤ p2 then ((f_R_orderAt d p0 ((p1 + p2) - 1) S).bind fun q1 => (f_R_orderAt d p0 p1 q1.2).bind fun q2 => b_Y_within_26 d ((q1.1 - q2.1) + 1) q2.2) else (b_Y_within_26 d 0 S))
def f_Y_within : Nat → (Option Nat → Int32 → Int32 → xS → Option (Int32 × xS))
  | 0 => fun _ _ _ _ => none
  | d + 1 => fun p0 p1 p2 S => e_Y_within d p0 p1 p2 S
def e_P_cut (d : Nat) (p0 : Option Nat) (p1 : Int32) (p2 : Int32) (p3 : Int32) (p4 : Int32) (S : xS) : Option ((Int32 ⊕ Nat) × xS) := (xobj S p0 0).bind fun _ => (f_P_demandRange d p0 p1 p2 p3 S).bind fun q1 => xtry q1.1 (fun v2 => (xobj q1.2 p0 0).bind fun _ => (f_P_demandText d p0 p4 q1.2).bind fun q3 => xtry q3.1 (fun v4 => (xobj q3.2 p0 0).bind fun _ => (f_P_demandFree d p0 p4 p1 q3.2).bind fun q5 => xtry q5.1 (fun v6 => (xobj q5.2 p0 0).bind fun _ => (f_P_rootOf d p0 p1 q5.2).bind fun q7 => (f_Y_afterCut d q7.1 p2 p3 q7.2).bind fun q8 => (f_Y_within d q7.1 p2 p3 q8.2).bind fun q9 => (f_R_piecesOf d q7.1 q9.2).bind fun q10 => (xobj q10.2 p0 0).bind fun _ => (f_P_demandRoom d p0 0 ((q8.1 + q9.1) - q10.1) q10.2).bind fun q11 => xtry q11.1 (fun v12 => (xgR q11.2 p0 0 3).bind fun v13 => (xobj q11.2 v13 4).bind fun _ => (f_T_part d v13 q7.1 p2 q11.2).bind fun q14 => (xgR q14.2 p0 0 3).bind fun v15 => (xgR q14.2 q14.1 1 1).bind fun v16 => (xobj q14.2 v15 4).bind fun _ => (f_T_part d v15 v16 p3 q14.2).bind fun q17 => (xgR q17.2 q17.1 1 0).bind fun v18 => (xobj q17.2 p0 0).bind fun _ => (f_P_become d p0 p4 v18 q17.2).bind fun q19 => (xgR q19.2 p0 0 3).bind fun v20 => (xgR q19.2 q14.1 1 0).bind fun v21 => (xgR q19.2 q17.1 1 1).bind fun v22 => (xobj q19.2 v20 4).bind fun _ => (f_T_meet d v20 v21 v22 q19.2).bind fun q23 => (xobj q23.2 p0 0).bind fun _ => (f_P_become d p0 p1 q23.1 q23.2).bind fun q24 => some (.inl q24.1, q24.2)) (fun e => some (.inr e, q11.2))) (fun e => some (.inr e, q5.2))) (fun e => some (.inr e, q3.2))) (fun e => some (.inr e, q1.2))
def f_P_cut : Nat → (Option Nat → Int32 → Int32 → Int32 → Int32 → xS → Option ((Int32 ⊕ Nat) × xS))
  | 0 => fun _ _ _ _ _ _ => none
  | d + 1 => fun p0 p1 p2 p3 p4 S => e_P_cut d p0 p1 p2 p3 p4 S
def e_Y_afterPaste (d : Nat) (p0 : Option Nat) (p1 : Int32) (p2 : Option Nat) (S : xS) : Option (Int32 × xS) := xcase p2 ((f_R_piecesOf d p0 S).bind fun q2 => some (q2.1, q2.2)) (fun _ => (f_R_charactersOf d p2 S).bind fun q3 => (f_Y_before d p0 p1 q3.2).bind fun q4 => (f_R_piecesOf d p2 q4.2).bind fun q5 => (f_Y_behind d p0 p1 q5.2).bind fun q6 => (f_R_sourceAt d p2 0 q6.2).bind fun q7 => (f_R_tagAt d p2 0 q7.2).bind fun q8 => (f_Y_meldsLeft d p0 p1 q7.1 q8.1 q8.2).bind fun q9 => (f_R_sourceAt d p2 (q3.1 - 1) q9.2).bind fun q10 => (f_R_tagAt d p2 (q3.1 - 1) q10.2).bind fun q11 => (f_Y_meldsRight d p0 p1 q10.1 q11.1 q11.2).bind fun q12 => some ((((q4.1 + q5.1) + q6.1) - q9.1) - q12.1, q12.2))
def f_Y_afterPaste : Nat → (Option Nat → Int32 → Option Nat → xS → Option (Int32 × xS))
  | 0 => fun _ _ _ _ => none
  | d + 1 => fun p0 p1 p2 S => e_Y_afterPaste d p0 p1 p2 S
def e_P_paste (d : Nat) (p0 : Option Nat) (p1 : Int32) (p2 : Int32) (p3 : Int32) (S : xS) : Option ((Int32 ⊕ Nat) × xS) := (xobj S p0 0).bind fun _ => (f_P_demandEdge d p0 p1 p2 S).bind fun q1 => xtry q1.1 (fun v2 => (xobj q1.2 p0 0).bind fun _ => (f_P_demandText d p0 p3 q1.2).bind fun q3 => xtry q3.1 (fun v4 => (if p3 = p1 then (xthrow d 0 q3.2) else ((xobj q3.2 p0 0).bind fun _ => (f_P_rootOf d p0 p1 q3.2).bind fun q5 => (xobj q5.2 p0 0).bind fun _ => (f_P_rootOf d p0 p3 q5.2).bind fun q6 => (f_Y_afterPaste d q5.1 p2 q6.1 q6.2).bind fun q7 => (f_R_piecesOf d q5.1 q7.2).bind fun q8 => (f_R_piecesOf d q6.1 q8.2).bind fun q9 => (xobj q9.2 p0 0).bind fun _ => (f_P_demandRoom d p0 0 ((q7.1 - q8.1) - q9.1) q9.2).bind fun q10 => xtry q10.1 (fun v11 => (xgR q10.2 p0 0 3).bind fun v12 => (xobj q10.2 v12 4).bind fun _ => (f_T_part d v12 q5.1 p2 q10.2).bind fun q13 => (xobj q13.2 p0 0).bind fun _ => (f_P_become d p0 p3 none q13.2).bind fun q14 => (xgR q14.2 p0 0 3).bind fun v15 => (xgR q14.2 p0 0 3).bind fun v16 => (xgR q14.2 q13.1 1 0).bind fun v17 => (xobj q14.2 v16 4).bind fun _ => (f_T_meet d v16 v17 q6.1 q14.2).bind fun q18 => (xgR q18.2 q13.1 1 1).bind fun v19 => (xobj q18.2 v15 4).bind fun _ => (f_T_meet d v15 q18.1 v19 q18.2).bind fun q20 => (xobj q20.2 p0 0).bind fun _ => (f_P_become d p0 p1 q20.1 q20.2).bind fun q21 => some (.inl q21.1, q21.2)) (fun e => some (.inr e, q10.2))))) (fun e => some (.inr e, q3.2))) (fun e => some (.inr e, q1.2))
def f_P_paste : Nat → (Option Nat → Int32 → Int32 → Int32 → xS → Option ((Int32 ⊕ Nat) × xS))
  | 0 => fun _ _ _ _ _ => none
  | d + 1 => fun p0 p1 p2 p3 S => e_P_paste d p0 p1 p2 p3 S
def b_T_twin_118 (d : Nat) (fr : Option Nat → Option Nat → Int32 → Int32 → Int32 → xS → Option (Option Nat × xS)) (y0 : Option Nat) (S : xS) : Option (Option Nat × xS) := some (y0, S)
def b_T_twin_15 (d : Nat) (fr : Option Nat → Option Nat → Int32 → Int32 → Int32 → xS → Option (Option Nat × xS)) (S : xS) : Option (Option Nat × xS) := some (none, S)
def e_T_twin (d : Nat) (fr : Option Nat → Option Nat → Int32 → Int32 → Int32 → xS → Option (Option Nat × xS)) (p0 : Option Nat) (p1 : Option Nat) (p2 : Int32) (p3 : Int32) (p4 : Int32) (S : xS) : Option (Option Nat × xS) := xcase p1 (b_T_twin_15 d fr S) (fun _ => (if p3 ≤ p2 then (b_T_twin_15 d fr S) else (if 1 ≤ p4 then ((xgR S p1 2 3).bind fun v2 => (f_R_charactersOf d v2 S).bind fun q3 => (xgI q3.2 p1 2 1).bind fun v4 => (xgR q3.2 p1 2 3).bind fun v5 => (xobj q3.2 p0 4).bind fun _ => (fr p0 v5 p2 (xmin p3 q3.1) (p4 - 1) q3.2).bind fun q6 => (xgR q6.2 p1 2 4).bind fun v7 => (xobj q6.2 p0 4).bind fun _ => (fr p0 v7 ((xmax p2 (q3.1 + v4)) - (q3.1 + v4)) (p3 - (q3.1 + v4)) (p4 - 1) q6.2).bind fun q8 => (if (xmax p2 q3.1) < (xmin p3 (q3.1 + v4)) then ((xgI q8.2 p1 2 0).bind fun v9 => (xgI q8.2 p1 2 2).bind fun v10 => (xobj q8.2 p0 4).bind fun _ => (f_T_take d p0 ((v9 + (xmax p2 q3.1)) - q3.1) ((xmin p3 (q3.1 + v4)) - (xmax p2 q3.1)) v10 q8.2).bind fun q11 => (f_T_join d q6.1 q11.1 q8.1 40 q11.2).bind fun q12 => some (q12.1, q12.2)) else (xcase q6.1 (b_T_twin_118 d fr q8.1 q8.2) (fun _ => b_T_twin_118 d fr q6.1 q8.2)))) else (b_T_twin_15 d fr S))))
def f_T_twin : Nat → (Option Nat → Option Nat → Int32 → Int32 → Int32 → xS → Option (Option Nat × xS))
  | 0 => fun _ _ _ _ _ _ => none
  | d + 1 => fun p0 p1 p2 p3 p4 S => e_T_twin d (f_T_twin d) p0 p1 p2 p3 p4 S
def e_P_copy (d : Nat) (p0 : Option Nat) (p1 : Int32) (p2 : Int32) (p3 : Int32) (p4 : Int32) (S : xS) : Option ((Int32 ⊕ Nat) × xS) := (xobj S p0 0).bind fun _ => (f_P_demandRange d p0 p1 p2 p3 S).bind fun q1 => xtry q1.1 (fun v2 => (xobj q1.2 p0 0).bind fun _ => (f_P_demandText d p0 p4 q1.2).bind fun q3 => xtry q3.1 (fun v4 => (xobj q3.2 p0 0).bind fun _ => (f_P_demandFree d p0 p4 p1 q3.2).bind fun q5 => xtry q5.1 (fun v6 => (xobj q5.2 p0 0).bind fun _ => (f_P_rootOf d p0 p1 q5.2).bind fun q7 => (f_Y_within d q7.1 p2 p3 q7.2).bind fun q8 => (xobj q8.2 p0 0).bind fun _ => (f_P_demandRoom d p0 p3 q8.1 q8.2).bind fun q9 => xtry q9.1 (fun v10 => (xgR q9.2 p0 0 3).bind fun v11 => (xobj q9.2 v11 4).bind fun _ => (f_T_twin d v11 q7.1 p2 (p2 + p3) 40 q9.2).bind fun q12 => (xobj q12.2 p0 0).bind fun _ => (f_P_become d p0 p4 q12.1 q12.2).bind fun q13 => (xobj q13.2 p0 0).bind fun _ => (f_P_rootOf d p0 p4 q13.2).bind fun q14 => (f_R_piecesOf d q14.1 q14.2).bind fun q15 => some (.inl q15.1, q15.2)) (fun e => some (.inr e, q9.2))) (fun e => some (.inr e, q5.2))) (fun e => some (.inr e, q3.2))) (fun e => some (.inr e, q1.2))
def f_P_copy : Nat → (Option Nat → Int32 → Int32 → Int32 → Int32 → xS → Option ((Int32 ⊕ Nat) × xS))
  | 0 => fun _ _ _ _ _ _ => none
  | d + 1 => fun p0 p1 p2 p3 p4 S => e_P_copy d p0 p1 p2 p3 p4 S
def e_Y_tagged (d : Nat) (p0 : Int32) (p1 : Int32) (p2 : Int32) (S : xS) : Option (Int32 × xS) := some ((p0 &&& (p1 ^^^ ((-1)))) ||| (p2 &&& p1), S)
def f_Y_tagged : Nat → (Int32 → Int32 → Int32 → xS → Option (Int32 × xS))
  | 0 => fun _ _ _ _ => none
  | d + 1 => fun p0 p1 p2 S => e_Y_tagged d p0 p1 p2 S
def b_Y_withinTagged_107 (d : Nat) (k35 : Option Nat → Int32 → Int32 → Int32 → Int32 → Option Nat → Int32 → xS → Option (Int32 × xS)) (x0 : Option Nat) (x3 : Int32) (x4 : Int32) (x6 : Int32) (x7 : Int32) (x9 : Int32) (x10 : Option Nat) (S : xS) : Option (Int32 × xS) := k35 x0 x3 x4 x6 x7 x10 (x9 + 1) S
def b_Y_withinTagged_104 (d : Nat) (k35 : Option Nat → Int32 → Int32 → Int32 → Int32 → Option Nat → Int32 → xS → Option (Int32 × xS)) (x0 : Option Nat) (x3 : Int32) (x4 : Int32) (x6 : Int32) (x7 : Int32) (x9 : Int32) (x10 : Option Nat) (S : xS) : Option (Int32 × xS) := b_Y_withinTagged_107 d k35 x0 x3 x4 x6 (x7 + 1) x9 x10 S
def b_Y_withinTagged_35 (d : Nat) (k35 : Option Nat → Int32 → Int32 → Int32 → Int32 → Option Nat → Int32 → xS → Option (Int32 × xS)) (x0 : Option Nat) (x3 : Int32) (x4 : Int32) (x6 : Int32) (x7 : Int32) (x8 : Option Nat) (x9 : Int32) (S : xS) : Option (Int32 × xS) := (if x6 < x9 then (some (x7, S)) else ((f_R_numbered d x0 x9 S).bind fun q1 => xcase x8 (b_Y_withinTagged_104 d k35 x0 x3 x4 x6 x7 x9 q1.1 q1.2) (fun _ => xcase q1.1 (b_Y_withinTagged_104 d k35 x0 x3 x4 x6 x7 x9 q1.1 q1.2) (fun _ => (xgI q1.2 x8 2 0).bind fun v4 => (xgI q1.2 x8 2 1).bind fun v5 => (xgI q1.2 q1.1 2 0).bind fun v6 => (if (v4 + v5) = v6 then ((xgI q1.2 x8 2 2).bind fun v7 => (f_Y_tagged d v7 x3 x4 q1.2).bind fun q8 => (xgI q8.2 q1.1 2 2).bind fun v9 => (f_Y_tagged d v9 x3 x4 q8.2).bind fun q10 => (if q8.1 = q10.1 then (b_Y_withinTagged_107 d k35 x0 x3 x4 x6 x7 x9 q1.1 q10.2) else (b_Y_withinTagged_104 d k35 x0 x3 x4 x6 x7 x9 q1.1 q10.2))) else (b_Y_withinTagged_104 d k35 x0 x3 x4 x6 x7 x9 q1.1 q1.2))))))
def l_Y_withinTagged_35 (d : Nat) : Nat → (Option Nat → Int32 → Int32 → Int32 → Int32 → Option Nat → Int32 → xS → Option (Int32 × xS))
  | 0 => fun _ _ _ _ _ _ _ _ => none
  | n + 1 => fun x0 x3 x4 x6 x7 x8 x9 S => b_Y_withinTagged_35 d (l_Y_withinTagged_35 d n) x0 x3 x4 x6 x7 x8 x9 S
def e_Y_withinTagged (d : Nat) (p0 : Option Nat) (p1 : Int32) (p2 : Int32) (p3 : Int32) (p4 : Int32) (S : xS) : Option (Int32 × xS) := (f_R_orderAt d p0 p1 S).bind fun q1 => (f_R_orderAt d p0 ((p1 + p2) - 1) q1.2).bind fun q2 => (f_R_numbered d p0 q1.1 q2.2).bind fun q3 => l_Y_withinTagged_35 d xN p0 p3 p4 q2.1 1 q3.1 (q1.1 + 1) q3.2
def f_Y_withinTagged : Nat → (Option Nat → Int32 → Int32 → Int32 → Int32 → xS → Option (Int32 × xS))
  | 0 => fun _ _ _ _ _ _ => none
  | d + 1 => fun p0 p1 p2 p3 p4 S => e_Y_withinTagged d p0 p1 p2 p3 p4 S
def e_Y_afterTag (d : Nat) (p0 : Option Nat) (p1 : Int32) (p2 : Int32) (p3 : Int32) (p4 : Int32) (S : xS) : Option (Int32 × xS) := (if 1 ≤ p2 then ((f_R_tagAt d p0 p1 S).bind fun q1 => (f_Y_tagged d q1.1 p3 p4 q1.2).bind fun q2 => (f_R_tagAt d p0 ((p1 + p2) - 1) q2.2).bind fun q3 => (f_Y_tagged d q3.1 p3 p4 q3.2).bind fun q4 => (f_Y_before d p0 p1 q4.2).bind fun q5 => (f_Y_withinTagged d p0 p1 p2 p3 p4 q5.2).bind fun q6 => (f_Y_behind d p0 (p1 + p2) q6.2).bind fun q7 => (f_R_sourceAt d p0 p1 q7.2).bind fun q8 => (f_Y_meldsLeft d p0 p1 q8.1 q2.1 q8.2).bind fun q9 => (f_R_sourceAt d p0 ((p1 + p2) - 1) q9.2).bind fun q10 => (f_Y_meldsRight d p0 (p1 + p2) q10.1 q4.1 q10.2).bind fun q11 => some ((((q5.1 + q6.1) + q7.1) - q9.1) - q11.1, q11.2)) else ((f_R_piecesOf d p0 S).bind fun q12 => some (q12.1, q12.2)))
def f_Y_afterTag : Nat → (Option Nat → Int32 → Int32 → Int32 → Int32 → xS → Option (Int32 × xS))
  | 0 => fun _ _ _ _ _ _ => none
  | d + 1 => fun p0 p1 p2 p3 p4 S => e_Y_afterTag d p0 p1 p2 p3 p4 S
def b_T_retag_10 (d : Nat) (fr : Option Nat → Option Nat → Int32 → Int32 → Int32 → xS → Option (Option Nat × xS)) (x1 : Option Nat) (S : xS) : Option (Option Nat × xS) := some (x1, S)
def e_T_retag (d : Nat) (fr : Option Nat → Option Nat → Int32 → Int32 → Int32 → xS → Option (Option Nat × xS)) (p0 : Option Nat) (p1 : Option Nat) (p2 : Int32) (p3 : Int32) (p4 : Int32) (S : xS) : Option (Option Nat × xS) := xcase p1 (b_T_retag_10 d fr p1 S) (fun _ => (if 1 ≤ p4 then ((xgR S p1 2 3).bind fun v2 => (xobj S p0 4).bind fun _ => (fr p0 v2 p2 p3 (p4 - 1) S).bind fun q3 => (xgR q3.2 p1 2 4).bind fun v4 => (xobj q3.2 p0 4).bind fun _ => (fr p0 v4 p2 p3 (p4 - 1) q3.2).bind fun q5 => (xgI q5.2 p1 2 2).bind fun v6 => (f_Y_tagged d v6 p2 p3 q5.2).bind fun q7 => (xput q7.2 p1 2 2 (.int q7.1)).bind fun S8 => (f_T_alone d p1 S8).bind fun q9 => (xobj q9.2 p0 4).bind fun _ => (f_T_meet d p0 q3.1 q9.1 q9.2).bind fun q10 => (xobj q10.2 p0 4).bind fun _ => (f_T_meet d p0 q10.1 q5.1 q10.2).bind fun q11 => some (q11.1, q11.2)) else (b_T_retag_10 d fr p1 S)))
def f_T_retag : Nat → (Option Nat → Option Nat → Int32 → Int32 → Int32 → xS → Option (Option Nat × xS))
  | 0 => fun _ _ _ _ _ _ => none
  | d + 1 => fun p0 p1 p2 p3 p4 S => e_T_retag d (f_T_retag d) p0 p1 p2 p3 p4 S
def e_P_tag (d : Nat) (p0 : Option Nat) (p1 : Int32) (p2 : Int32) (p3 : Int32) (p4 : Int32) (p5 : Int32) (S : xS) : Option ((Int32 ⊕ Nat) × xS) := (xobj S p0 0).bind fun _ => (f_P_demandRange d p0 p1 p2 p3 S).bind fun q1 => xtry q1.1 (fun v2 => (xobj q1.2 p0 0).bind fun _ => (f_P_rootOf d p0 p1 q1.2).bind fun q3 => (f_Y_afterTag d q3.1 p2 p3 p4 p5 q3.2).bind fun q4 => (f_R_piecesOf d q3.1 q4.2).bind fun q5 => (xobj q5.2 p0 0).bind fun _ => (f_P_demandRoom d p0 0 (q4.1 - q5.1) q5.2).bind fun q6 => xtry q6.1 (fun v7 => (xgR q6.2 p0 0 3).bind fun v8 => (xobj q6.2 v8 4).bind fun _ => (f_T_part d v8 q3.1 p2 q6.2).bind fun q9 => (xgR q9.2 p0 0 3).bind fun v10 => (xgR q9.2 q9.1 1 1).bind fun v11 => (xobj q9.2 v10 4).bind fun _ => (f_T_part d v10 v11 p3 q9.2).bind fun q12 => (xgR q12.2 p0 0 3).bind fun v13 => (xgR q12.2 q12.1 1 0).bind fun v14 => (xobj q12.2 v13 4).bind fun _ => (f_T_retag d v13 v14 p4 p5 40 q12.2).bind fun q15 => (xgR q15.2 p0 0 3).bind fun v16 => (xgR q15.2 p0 0 3).bind fun v17 => (xgR q15.2 q9.1 1 0).bind fun v18 => (xobj q15.2 v17 4).bind fun _ => (f_T_meet d v17 v18 q15.1 q15.2).bind fun q19 => (xgR q19.2 q12.1 1 1).bind fun v20 => (xobj q19.2 v16 4).bind fun _ => (f_T_meet d v16 q19.1 v20 q19.2).bind fun q21 => (xobj q21.2 p0 0).bind fun _ => (f_P_become d p0 p1 q21.1 q21.2).bind fun q22 => (xobj q22.2 p0 0).bind fun _ => (f_P_rootOf d p0 p1 q22.2).bind fun q23 => (f_R_piecesOf d q23.1 q23.2).bind fun q24 => some (.inl q24.1, q24.2)) (fun e => some (.inr e, q6.2))) (fun e => some (.inr e, q1.2))
def f_P_tag : Nat → (Option Nat → Int32 → Int32 → Int32 → Int32 → Int32 → xS → Option ((Int32 ⊕ Nat) × xS))
  | 0 => fun _ _ _ _ _ _ _ => none
  | d + 1 => fun p0 p1 p2 p3 p4 p5 S => e_P_tag d p0 p1 p2 p3 p4 p5 S
def b_T_giveBackAll_9 (d : Nat) (fr : Option Nat → Option Nat → Int32 → xS → Option (Unit × xS)) (S : xS) : Option (Unit × xS) := some ((), S)
def e_T_giveBackAll (d : Nat) (fr : Option Nat → Option Nat → Int32 → xS → Option (Unit × xS)) (p0 : Option Nat) (p1 : Option Nat) (p2 : Int32) (S : xS) : Option (Unit × xS) := xcase p1 (b_T_giveBackAll_9 d fr S) (fun _ => (if 1 ≤ p2 then ((xgR S p1 2 3).bind fun v2 => (xobj S p0 4).bind fun _ => (fr p0 v2 (p2 - 1) S).bind fun q3 => (xgR q3.2 p1 2 4).bind fun v4 => (xobj q3.2 p0 4).bind fun _ => (fr p0 v4 (p2 - 1) q3.2).bind fun q5 => (xobj q5.2 p0 4).bind fun _ => (f_T_giveBack d p0 p1 q5.2).bind fun q6 => some ((), q6.2)) else (b_T_giveBackAll_9 d fr S)))
def f_T_giveBackAll : Nat → (Option Nat → Option Nat → Int32 → xS → Option (Unit × xS))
  | 0 => fun _ _ _ _ => none
  | d + 1 => fun p0 p1 p2 S => e_T_giveBackAll d (f_T_giveBackAll d) p0 p1 p2 S
def e_P_wipe (d : Nat) (p0 : Option Nat) (p1 : Int32) (S : xS) : Option ((Int32 ⊕ Nat) × xS) := (xobj S p0 0).bind fun _ => (f_P_demandText d p0 p1 S).bind fun q1 => xtry q1.1 (fun v2 => (xobj q1.2 p0 0).bind fun _ => (f_P_rootOf d p0 p1 q1.2).bind fun q3 => (f_R_charactersOf d q3.1 q3.2).bind fun q4 => (xobj q4.2 p0 0).bind fun _ => (f_P_become d p0 p1 none q4.2).bind fun q5 => (xgR q5.2 p0 0 3).bind fun v6 => (xobj q5.2 v6 4).bind fun _ => (f_T_giveBackAll d v6 q3.1 40 q5.2).bind fun q7 => some (.inl q4.1, q7.2)) (fun e => some (.inr e, q1.2))
def f_P_wipe : Nat → (Option Nat → Int32 → xS → Option ((Int32 ⊕ Nat) × xS))
  | 0 => fun _ _ _ => none
  | d + 1 => fun p0 p1 S => e_P_wipe d p0 p1 S
def b_P_length_20 (d : Nat) (y0 : Int32) (S : xS) : Option (Int32 × xS) := some (y0, S)
def e_P_length (d : Nat) (p0 : Option Nat) (p1 : Int32) (S : xS) : Option (Int32 × xS) := (xobj S p0 0).bind fun _ => (f_P_isText d p0 p1 S).bind fun q1 => (if q1.1 = 0 then (b_P_length_20 d ((-1)) q1.2) else ((xobj q1.2 p0 0).bind fun _ => (f_P_rootOf d p0 p1 q1.2).bind fun q2 => (f_R_charactersOf d q2.1 q2.2).bind fun q3 => b_P_length_20 d q3.1 q3.2))
def f_P_length : Nat → (Option Nat → Int32 → xS → Option (Int32 × xS))
  | 0 => fun _ _ _ => none
  | d + 1 => fun p0 p1 S => e_P_length d p0 p1 S
def b_P_byteAt_35 (d : Nat) (y0 : Int32) (S : xS) : Option (Int32 × xS) := some (y0, S)
def b_P_byteAt_21 (d : Nat) (S : xS) : Option (Int32 × xS) := b_P_byteAt_35 d 0 S
def e_P_byteAt (d : Nat) (p0 : Option Nat) (p1 : Int32) (S : xS) : Option (Int32 × xS) := (if p1 < 0 then (b_P_byteAt_21 d S) else ((xgI S p0 0 1).bind fun v1 => (if v1 ≤ p1 then (b_P_byteAt_21 d S) else ((xgR S p0 0 0).bind fun v2 => (xlen S v2 0).bind fun v3 => (if p1 < v3 then ((xgR S p0 0 0).bind fun v4 => (xldI S v4 0 p1).bind fun v5 => b_P_byteAt_35 d (v5 &&& 255) S) else (b_P_byteAt_21 d S))))))
def f_P_byteAt : Nat → (Option Nat → Int32 → xS → Option (Int32 × xS))
  | 0 => fun _ _ _ => none
  | d + 1 => fun p0 p1 S => e_P_byteAt d p0 p1 S
def b_P_look_25 (d : Nat) (S : xS) : Option ((Int32 ⊕ Nat) × xS) := xthrow d 2 S
def e_P_look (d : Nat) (p0 : Option Nat) (p1 : Int32) (p2 : Int32) (p3 : Int32) (S : xS) : Option ((Int32 ⊕ Nat) × xS) := (xobj S p0 0).bind fun _ => (f_P_demandText d p0 p1 S).bind fun q1 => xtry q1.1 (fun v2 => (xobj q1.2 p0 0).bind fun _ => (f_P_rootOf d p0 p1 q1.2).bind fun q3 => (if p2 < 0 then (b_P_look_25 d q3.2) else ((f_R_charactersOf d q3.1 q3.2).bind fun q4 => (if p2 < q4.1 then (if p3 = 0 then ((f_R_sourceAt d q3.1 p2 q4.2).bind fun q5 => (xobj q5.2 p0 0).bind fun _ => (f_P_byteAt d p0 q5.1 q5.2).bind fun q6 => some (.inl q6.1, q6.2)) else if p3 = 1 then ((f_R_sourceAt d q3.1 p2 q4.2).bind fun q7 => some (.inl q7.1, q7.2)) else if p3 = 2 then ((f_R_tagAt d q3.1 p2 q4.2).bind fun q8 => some (.inl q8.1, q8.2)) else if p3 = 3 then ((f_R_orderAt d q3.1 p2 q4.2).bind fun q9 => some (.inl q9.1, q9.2)) else (xthrow d 0 q4.2)) else (b_P_look_25 d q4.2))))) (fun e => some (.inr e, q1.2))
def f_P_look : Nat → (Option Nat → Int32 → Int32 → Int32 → xS → Option ((Int32 ⊕ Nat) × xS))
  | 0 => fun _ _ _ _ _ => none
  | d + 1 => fun p0 p1 p2 p3 S => e_P_look d p0 p1 p2 p3 S
def e_P_piece (d : Nat) (p0 : Option Nat) (p1 : Int32) (p2 : Int32) (p3 : Int32) (S : xS) : Option ((Int32 ⊕ Nat) × xS) := (xobj S p0 0).bind fun _ => (f_P_demandText d p0 p1 S).bind fun q1 => xtry q1.1 (fun v2 => (xobj q1.2 p0 0).bind fun _ => (f_P_rootOf d p0 p1 q1.2).bind fun q3 => (f_R_numbered d q3.1 p2 q3.2).bind fun q4 => xcase q4.1 (xthrow d 2 q4.2) (fun _ => (if p3 = 0 then ((f_R_startOf d q3.1 p2 q4.2).bind fun q6 => some (.inl q6.1, q6.2)) else if p3 = 1 then ((xgI q4.2 q4.1 2 0).bind fun v7 => some (.inl v7, q4.2)) else if p3 = 2 then ((xgI q4.2 q4.1 2 1).bind fun v8 => some (.inl v8, q4.2)) else if p3 = 3 then ((xgI q4.2 q4.1 2 2).bind fun v9 => some (.inl v9, q4.2)) else (xthrow d 0 q4.2)))) (fun e => some (.inr e, q1.2))
def f_P_piece : Nat → (Option Nat → Int32 → Int32 → Int32 → xS → Option ((Int32 ⊕ Nat) × xS))
  | 0 => fun _ _ _ _ _ => none
  | d + 1 => fun p0 p1 p2 p3 S => e_P_piece d p0 p1 p2 p3 S
def e_D_init (d : Nat) (p0 : Option Nat) (p1 : Option Nat) (p2 : Int32) (S : xS) : Option (Unit × xS) := xcase p0 none (fun _ => (xput S p0 3 0 (va_rf p1)).bind fun S1 => (f_R_orderAt d p1 p2 S1).bind fun q2 => (xput q2.2 p0 3 1 (.int q2.1)).bind fun S3 => (xgI S3 p0 3 1).bind fun v4 => (f_R_numbered d p1 v4 S3).bind fun q5 => (xput q5.2 p0 3 2 (va_rf q5.1)).bind fun S6 => (xgI S6 p0 3 1).bind fun v7 => (f_R_startOf d p1 v7 S6).bind fun q8 => (xput q8.2 p0 3 3 (.int (p2 - q8.1))).bind fun S9 => some ((), S9))
def f_D_init : Nat → (Option Nat → Option Nat → Int32 → xS → Option (Unit × xS))
  | 0 => fun _ _ _ _ => none
  | d + 1 => fun p0 p1 p2 S => e_D_init d p0 p1 p2 S
def b_D_nextSource_76 (d : Nat) (x1 : Int32) (S : xS) : Option (Int32 × xS) := some (x1, S)
def e_D_nextSource (d : Nat) (p0 : Option Nat) (S : xS) : Option (Int32 × xS) := (xgR S p0 3 2).bind fun v1 => xcase v1 (some ((-1), S)) (fun _ => (xgR S p0 3 2).bind fun v3 => (xgI S v3 2 0).bind fun v4 => (xgI S p0 3 3).bind fun v5 => (xgI S p0 3 3).bind fun v6 => (xput S p0 3 3 (.int (v6 + 1))).bind fun S7 => (xgI S7 p0 3 3).bind fun v8 => (xgR S7 p0 3 2).bind fun v9 => (xgI S7 v9 2 1).bind fun v10 => (if v8 < v10 then (b_D_nextSource_76 d (v4 + v5) S7) else ((xgI S7 p0 3 1).bind fun v11 => (xput S7 p0 3 1 (.int (v11 + 1))).bind fun S12 => (xgR S12 p0 3 0).bind fun v13 => (xgI S12 p0 3 1).bind fun v14 => (f_R_numbered d v13 v14 S12).bind fun q15 => (xput q15.2 p0 3 2 (va_rf q15.1)).bind fun S16 => (xput S16 p0 3 3 (.int 0)).bind fun S17 => b_D_nextSource_76 d (v4 + v5) S17)))
def f_D_nextSource : Nat → (Option Nat → xS → Option (Int32 × xS))
  | 0 => fun _ _ => none
  | d + 1 => fun p0 S => e_D_nextSource d p0 S
def b_P_find_35 (d : Nat) (k35 : Option Nat → Int32 → Int32 → Option Nat → Int32 → xS → Option ((Int32 ⊕ Nat) × xS)) (x0 : Option Nat) (x3 : Int32) (x5 : Int32) (x6 : Option Nat) (x7 : Int32) (S : xS) : Option ((Int32 ⊕ Nat) × xS) := (if x5 ≤ x7 then (some (.inl ((-1)), S)) else ((xobj S x6 3).bind fun _ => (f_D_nextSource d x6 S).bind fun q1 => (xobj q1.2 x0 0).bind fun _ => (f_P_byteAt d x0 q1.1 q1.2).bind fun q2 => (if q2.1 = x3 then (some (.inl x7, q2.2)) else (k35 x0 x3 x5 x6 (x7 + 1) q2.2))))
def l_P_find_35 (d : Nat) : Nat → (Option Nat → Int32 → Int32 → Option Nat → Int32 → xS → Option ((Int32 ⊕ Nat) × xS))
  | 0 => fun _ _ _ _ _ _ => none
  | n + 1 => fun x0 x3 x5 x6 x7 S => b_P_find_35 d (l_P_find_35 d n) x0 x3 x5 x6 x7 S
def e_P_find (d : Nat) (p0 : Option Nat) (p1 : Int32) (p2 : Int32) (p3 : Int32) (S : xS) : Option ((Int32 ⊕ Nat) × xS) := (xobj S p0 0).bind fun _ => (f_P_demandEdge d p0 p1 p2 S).bind fun q1 => xtry q1.1 (fun v2 => (xobj q1.2 p0 0).bind fun _ => (f_P_rootOf d p0 p1 q1.2).bind fun q3 => (f_R_charactersOf d q3.1 q3.2).bind fun q4 => (xnew q4.2 3 [.null, .int 0, .null, .int 0]).bind fun q5 => (f_D_init d (some q5.1) q3.1 p2 q5.2).bind fun q6 => l_P_find_35 d xN p0 p3 q4.1 (some q5.1) p2 q6.2) (fun e => some (.inr e, q1.2))
def f_P_find : Nat → (Option Nat → Int32 → Int32 → Int32 → xS → Option ((Int32 ⊕ Nat) × xS))
  | 0 => fun _ _ _ _ _ => none
  | d + 1 => fun p0 p1 p2 p3 S => e_P_find d p0 p1 p2 p3 S
def b_P_differ_63 (d : Nat) (k63 : Option Nat → Int32 → Option Nat → Option Nat → Int32 → xS → Option ((Int32 ⊕ Nat) × xS)) (x0 : Option Nat) (x3 : Int32) (x4 : Option Nat) (x5 : Option Nat) (x6 : Int32) (S : xS) : Option ((Int32 ⊕ Nat) × xS) := (if x3 ≤ x6 then (some (.inl ((-1)), S)) else ((xobj S x4 3).bind fun _ => (f_D_nextSource d x4 S).bind fun q1 => (xobj q1.2 x0 0).bind fun _ => (f_P_byteAt d x0 q1.1 q1.2).bind fun q2 => (xobj q2.2 x5 3).bind fun _ => (f_D_nextSource d x5 q2.2).bind fun q3 => (xobj q3.2 x0 0).bind fun _ => (f_P_byteAt d x0 q3.1 q3.2).bind fun q4 => (if q2.1 = q4.1 then (k63 x0 x3 x4 x5 (x6 + 1) q4.2) else (some (.inl x6, q4.2)))))
def l_P_differ_63 (d : Nat) : Nat → (Option Nat → Int32 → Option Nat → Option Nat → Int32 → xS → Option ((Int32 ⊕ Nat) × xS))
  | 0 => fun _ _ _ _ _ _ => none
  | n + 1 => fun x0 x3 x4 x5 x6 S => b_P_differ_63 d (l_P_differ_63 d n) x0 x3 x4 x5 x6 S
def e_P_differ (d : Nat) (p0 : Option Nat) (p1 : Int32) (p2 : Int32) (S : xS) : Option ((Int32 ⊕ Nat) × xS) := (xobj S p0 0).bind fun _ => (f_P_demandText d p0 p1 S).bind fun q1 => xtry q1.1 (fun v2 => (xobj q1.2 p0 0).bind fun _ => (f_P_demandText d p0 p2 q1.2).bind fun q3 => xtry q3.1 (fun v4 => (xobj q3.2 p0 0).bind fun _ => (f_P_rootOf d p0 p1 q3.2).bind fun q5 => (f_R_charactersOf d q5.1 q5.2).bind fun q6 => (xobj q6.2 p0 0).bind fun _ => (f_P_rootOf d p0 p2 q6.2).bind fun q7 => (f_R_charactersOf d q7.1 q7.2).bind fun q8 => (xnew q8.2 3 [.null, .int 0, .null, .int 0]).bind fun q9 => (xobj q9.2 p0 0).bind fun _ => (f_P_rootOf d p0 p1 q9.2).bind fun q10 => (f_D_init d (some q9.1) q10.1 0 q10.2).bind fun q11 => (xnew q11.2 3 [.null, .int 0, .null, .int 0]).bind fun q12 => (xobj q12.2 p0 0).bind fun _ => (f_P_rootOf d p0 p2 q12.2).bind fun q13 => (f_D_init d (some q12.1) q13.1 0 q13.2).bind fun q14 => l_P_differ_63 d xN p0 (xmax q6.1 q8.1) (some q9.1) (some q12.1) 0 q14.2) (fun e => some (.inr e, q3.2))) (fun e => some (.inr e, q1.2))
def f_P_differ : Nat → (Option Nat → Int32 → Int32 → xS → Option ((Int32 ⊕ Nat) × xS))
  | 0 => fun _ _ _ _ => none
  | d + 1 => fun p0 p1 p2 S => e_P_differ d p0 p1 p2 S
def b_R_isShallow_43 (d : Nat) (y0 : Int32) (S : xS) : Option (Int32 × xS) := (if y0 = 0 ∨ y0 = 1 then some (y0, S) else none)
def b_R_isShallow_42 (d : Nat) (S : xS) : Option (Int32 × xS) := b_R_isShallow_43 d 0 S
def e_R_isShallow (d : Nat) (p0 : Option Nat) (S : xS) : Option (Int32 × xS) := (f_R_heightOf d p0 S).bind fun q1 => (if 2 < q1.1 then ((f_R_piecesOf d p0 q1.2).bind fun q2 => (if 40 < q1.1 then (b_R_isShallow_42 d q2.2) else (if 0 < (lg_cmp (((1 : Int64)) <<< ((q1.1 - 2).toInt64 &&& 63)) ((q2.1.toInt64 + ((1 : Int64))) * (q2.1.toInt64 + ((1 : Int64))))) then (b_R_isShallow_42 d q2.2) else (b_R_isShallow_43 d 1 q2.2)))) else (if 1 = 0 ∨ 1 = 1 then some (1, q1.2) else none))
def f_R_isShallow : Nat → (Option Nat → xS → Option (Int32 × xS))
  | 0 => fun _ _ => none
  | d + 1 => fun p0 S => e_R_isShallow d p0 S
def b_P_allShallow_10 (d : Nat) (k10 : Option Nat → Int32 → Int32 → xS → Option (Int32 × xS)) (x1 : Option Nat) (x2 : Int32) (x3 : Int32) (S : xS) : Option (Int32 × xS) := (if x2 ≤ x3 then (if 1 = 0 ∨ 1 = 1 then some (1, S) else none) else ((xldR S x1 2 x3).bind fun v1 => (f_R_isShallow d v1 S).bind fun q2 => (if q2.1 = 0 then (if 0 = 0 ∨ 0 = 1 then some (0, q2.2) else none) else (k10 x1 x2 (x3 + 1) q2.2))))
def l_P_allShallow_10 (d : Nat) : Nat → (Option Nat → Int32 → Int32 → xS → Option (Int32 × xS))
  | 0 => fun _ _ _ _ => none
  | n + 1 => fun x1 x2 x3 S => b_P_allShallow_10 d (l_P_allShallow_10 d n) x1 x2 x3 S
def e_P_allShallow (d : Nat) (p0 : Option Nat) (S : xS) : Option (Int32 × xS) := (xgR S p0 0 2).bind fun v1 => (xlen S v1 2).bind fun v2 => l_P_allShallow_10 d xN v1 v2 0 S
def f_P_allShallow : Nat → (Option Nat → xS → Option (Int32 × xS))
  | 0 => fun _ _ => none
  | d + 1 => fun p0 S => e_P_allShallow d p0 S
def b_P_count_59 (d : Nat) (y0 : Int32) (S : xS) : Option (Int32 × xS) := some (y0, S)
def e_P_count (d : Nat) (p0 : Option Nat) (p1 : Int32) (S : xS) : Option (Int32 × xS) := (if p1 = 0 then ((xgI S p0 0 1).bind fun v1 => some (v1, S)) else if p1 = 1 then ((xobj S p0 0).bind fun _ => (f_P_charactersInAll d p0 S).bind fun q2 => some (q2.1, q2.2)) else if p1 = 2 then ((xobj S p0 0).bind fun _ => (f_P_piecesInAll d p0 S).bind fun q3 => some (q3.1, q3.2)) else if p1 = 3 then ((xobj S p0 0).bind fun _ => (f_P_allShallow d p0 S).bind fun q4 => (if q4.1 = 0 then (b_P_count_59 d 0 q4.2) else (b_P_count_59 d 1 q4.2))) else (some ((-1), S)))
def f_P_count : Nat → (Option Nat → Int32 → xS → Option (Int32 × xS))
  | 0 => fun _ _ _ => none
  | d + 1 => fun p0 p1 S => e_P_count d p0 p1 S
def e_M_init (d : Nat) (p0 : Option Nat) (S : xS) : Option (Unit × xS) := xcase p0 none (fun _ => (xnewa S 3 2048 (.inl (fun _ => 0))).bind fun q1 => (xput q1.2 p0 5 2 (va_rf (some q1.1))).bind fun S2 => (xnewa S2 3 17 (.inl (fun _ => 0))).bind fun q3 => (xput q3.2 p0 5 3 (va_rf (some q3.1))).bind fun S4 => (xnewa S4 3 4096 (.inl (fun _ => 0))).bind fun q5 => (xput q5.2 p0 5 4 (va_rf (some q5.1))).bind fun S6 => (xnewa S6 3 4096 (.inl (fun _ => 0))).bind fun q7 => (xput q7.2 p0 5 5 (va_rf (some q7.1))).bind fun S8 => (xnewa S8 3 4096 (.inl (fun _ => 0))).bind fun q9 => (xput q9.2 p0 5 6 (va_rf (some q9.1))).bind fun S10 => (xnewa S10 3 4096 (.inl (fun _ => 0))).bind fun q11 => (xput q11.2 p0 5 7 (va_rf (some q11.1))).bind fun S12 => some ((), S12))
def f_M_init : Nat → (Option Nat → xS → Option (Unit × xS))
  | 0 => fun _ _ => none
  | d + 1 => fun p0 S => e_M_init d p0 S
def e_M_thrown (d : Nat) (p0 : Option Nat) (S : xS) : Option (Int32 × xS) := (xgI S p0 5 0).bind fun v1 => some (v1, S)
def f_M_thrown : Nat → (Option Nat → xS → Option (Int32 × xS))
  | 0 => fun _ _ => none
  | d + 1 => fun p0 S => e_M_thrown d p0 S
def e_M_raise (d : Nat) (p0 : Option Nat) (p1 : Int32) (S : xS) : Option (Int32 × xS) := (xput S p0 5 0 (.int p1)).bind fun S1 => some (0, S1)
def f_M_raise : Nat → (Option Nat → Int32 → xS → Option (Int32 × xS))
  | 0 => fun _ _ _ => none
  | d + 1 => fun p0 p1 S => e_M_raise d p0 p1 S
def b_M_isText_15 (d : Nat) (y0 : Int32) (S : xS) : Option (Int32 × xS) := (if y0 = 0 ∨ y0 = 1 then some (y0, S) else none)
def b_M_isText_14 (d : Nat) (S : xS) : Option (Int32 × xS) := b_M_isText_15 d 0 S
def e_M_isText (d : Nat) (p0 : Int32) (S : xS) : Option (Int32 × xS) := (if p0 < 0 then (b_M_isText_14 d S) else (if 16 ≤ p0 then (b_M_isText_14 d S) else (b_M_isText_15 d 1 S)))
def f_M_isText : Nat → (Int32 → xS → Option (Int32 × xS))
  | 0 => fun _ _ => none
  | d + 1 => fun p0 S => e_M_isText d p0 S
def e_M_size (d : Nat) (p0 : Option Nat) (p1 : Int32) (S : xS) : Option (Int32 × xS) := (xgR S p0 5 3).bind fun v1 => (xldI S v1 3 (p1 + 1)).bind fun v2 => (xgR S p0 5 3).bind fun v3 => (xldI S v3 3 p1).bind fun v4 => some (v2 - v4, S)
def f_M_size : Nat → (Option Nat → Int32 → xS → Option (Int32 × xS))
  | 0 => fun _ _ _ => none
  | d + 1 => fun p0 p1 S => e_M_size d p0 p1 S
def b_M_isPlace_25 (d : Nat) (y0 : Int32) (S : xS) : Option (Int32 × xS) := (if y0 = 0 ∨ y0 = 1 then some (y0, S) else none)
def b_M_isPlace_24 (d : Nat) (S : xS) : Option (Int32 × xS) := b_M_isPlace_25 d 0 S
def e_M_isPlace (d : Nat) (p0 : Option Nat) (p1 : Int32) (p2 : Int32) (S : xS) : Option (Int32 × xS) := (f_M_isText d p1 S).bind fun q1 => (if q1.1 = 0 then (b_M_isPlace_24 d q1.2) else (if p2 < 0 then (b_M_isPlace_24 d q1.2) else ((xobj q1.2 p0 5).bind fun _ => (f_M_size d p0 p1 q1.2).bind fun q2 => (if q2.1 < p2 then (b_M_isPlace_24 d q2.2) else (b_M_isPlace_25 d 1 q2.2)))))
def f_M_isPlace : Nat → (Option Nat → Int32 → Int32 → xS → Option (Int32 × xS))
  | 0 => fun _ _ _ _ => none
  | d + 1 => fun p0 p1 p2 S => e_M_isPlace d p0 p1 p2 S
def b_M_isRange_29 (d : Nat) (y0 : Int32) (S : xS) : Option (Int32 × xS) := (if y0 = 0 ∨ y0 = 1 then some (y0, S) else none)
def b_M_isRange_28 (d : Nat) (S : xS) : Option (Int32 × xS) := b_M_isRange_29 d 0 S
def e_M_isRange (d : Nat) (p0 : Option Nat) (p1 : Int32) (p2 : Int32) (p3 : Int32) (S : xS) : Option (Int32 × xS) := (xobj S p0 5).bind fun _ => (f_M_isPlace d p0 p1 p2 S).bind fun q1 => (if q1.1 = 0 then (b_M_isRange_28 d q1.2) else (if p3 < 0 then (b_M_isRange_28 d q1.2) else ((xobj q1.2 p0 5).bind fun _ => (f_M_size d p0 p1 q1.2).bind fun q2 => (if (q2.1 - p2) < p3 then (b_M_isRange_28 d q2.2) else (b_M_isRange_29 d 1 q2.2)))))
def f_M_isRange : Nat → (Option Nat → Int32 → Int32 → Int32 → xS → Option (Int32 × xS))
  | 0 => fun _ _ _ _ _ => none
  | d + 1 => fun p0 p1 p2 p3 S => e_M_isRange d p0 p1 p2 p3 S
def b_M_write_78 (d : Nat) (k78 : Option Nat → Int64 → Int32 → Int32 → xS → Option (Int32 × xS)) (x0 : Option Nat) (x1 : Int64) (x3 : Int32) (x4 : Int32) (S : xS) : Option (Int32 × xS) := (if x3 ≤ x4 then ((xgI S x0 5 1).bind fun v1 => (xput S x0 5 1 (.int (v1 + x3))).bind fun S2 => (xgI S2 x0 5 1).bind fun v3 => some (v3 - x3, S2)) else ((xgR S x0 5 2).bind fun v4 => (xgI S x0 5 1).bind fun v5 => (xstI S v4 3 (v5 + x4) (((x1 >>> ((8 * x4).toInt64 &&& 63)) &&& ((255 : Int64))).toInt32)).bind fun S6 => k78 x0 x1 x3 (x4 + 1) S6))
def l_M_write_78 (d : Nat) : Nat → (Option Nat → Int64 → Int32 → Int32 → xS → Option (Int32 × xS))
  | 0 => fun _ _ _ _ _ => none
  | n + 1 => fun x0 x1 x3 x4 S => b_M_write_78 d (l_M_write_78 d n) x0 x1 x3 x4 S
def b_M_write_57 (d : Nat) (x0 : Option Nat) (x1 : Int64) (x3 : Int32) (S : xS) : Option (Int32 × xS) := (xgI S x0 5 1).bind fun v1 => (if (v1 + x3) ≤ 2048 then (l_M_write_78 d xN x0 x1 x3 0 S) else ((xobj S x0 5).bind fun _ => (f_M_raise d x0 2 S).bind fun q2 => some (q2.1, q2.2)))
def b_M_write_30 (d : Nat) (k30 : Option Nat → Int64 → Int32 → xS → Option (Int32 × xS)) (x0 : Option Nat) (x1 : Int64) (x3 : Int32) (S : xS) : Option (Int32 × xS) := (if 8 ≤ x3 then (b_M_write_57 d x0 x1 x3 S) else (if (lg_cmp ((x1 >>> ((8 * x3).toInt64 &&& 63)) &&& ((255 : Int64))) ((0 : Int64))) = 0 then (b_M_write_57 d x0 x1 x3 S) else (k30 x0 x1 (x3 + 1) S)))
def l_M_write_30 (d : Nat) : Nat → (Option Nat → Int64 → Int32 → xS → Option (Int32 × xS))
  | 0 => fun _ _ _ _ => none
  | n + 1 => fun x0 x1 x3 S => b_M_write_30 d (l_M_write_30 d n) x0 x1 x3 S
def b_M_write_16 (d : Nat) (x0 : Option Nat) (x1 : Int64) (y0 : Int32) (y1 : Option Nat) (S : xS) : Option (Int32 × xS) := (xput S y1 5 0 (.int y0)).bind fun S1 => (xgI S1 x0 5 0).bind fun v2 => (if v2 ≤ 0 then (l_M_write_30 d xN x0 x1 0 S1) else (some (0, S1)))
def e_M_write (d : Nat) (p0 : Option Nat) (p1 : Int64) (S : xS) : Option (Int32 × xS) := (if (lg_cmp (p1 &&& ((255 : Int64))) ((0 : Int64))) = 0 then (b_M_write_16 d p0 p1 1 p0 S) else (b_M_write_16 d p0 p1 0 p0 S))
def f_M_write : Nat → (Option Nat → Int64 → xS → Option (Int32 × xS))
  | 0 => fun _ _ _ => none
  | d + 1 => fun p0 p1 S => e_M_write d p0 p1 S
def b_M_keep_3 (d : Nat) (k3 : Option Nat → Int32 → Int32 → Int32 → Int32 → xS → Option (Unit × xS)) (x0 : Option Nat) (x1 : Int32) (x2 : Int32) (x3 : Int32) (x4 : Int32) (S : xS) : Option (Unit × xS) := (if x3 ≤ x4 then (some ((), S)) else ((xgR S x0 5 6).bind fun v1 => (xgR S x0 5 4).bind fun v2 => (xgR S x0 5 3).bind fun v3 => (xldI S v3 3 x1).bind fun v4 => (xldI S v2 3 ((v4 + x2) + x4)).bind fun v5 => (xstI S v1 3 x4 v5).bind fun S6 => (xgR S6 x0 5 7).bind fun v7 => (xgR S6 x0 5 5).bind fun v8 => (xgR S6 x0 5 3).bind fun v9 => (xldI S6 v9 3 x1).bind fun v10 => (xldI S6 v8 3 ((v10 + x2) + x4)).bind fun v11 => (xstI S6 v7 3 x4 v11).bind fun S12 => k3 x0 x1 x2 x3 (x4 + 1) S12))
def l_M_keep_3 (d : Nat) : Nat → (Option Nat → Int32 → Int32 → Int32 → Int32 → xS → Option (Unit × xS))
  | 0 => fun _ _ _ _ _ _ => none
  | n + 1 => fun x0 x1 x2 x3 x4 S => b_M_keep_3 d (l_M_keep_3 d n) x0 x1 x2 x3 x4 S
def e_M_keep (d : Nat) (p0 : Option Nat) (p1 : Int32) (p2 : Int32) (p3 : Int32) (S : xS) : Option (Unit × xS) := l_M_keep_3 d xN p0 p1 p2 p3 0 S
def f_M_keep : Nat → (Option Nat → Int32 → Int32 → Int32 → xS → Option (Unit × xS))
  | 0 => fun _ _ _ _ _ => none
  | d + 1 => fun p0 p1 p2 p3 S => e_M_keep d p0 p1 p2 p3 S
def b_M_remove_67 (d : Nat) (k67 : Option Nat → Int32 → Int32 → xS → Option (Unit × xS)) (x0 : Option Nat) (x3 : Int32) (x4 : Int32) (S : xS) : Option (Unit × xS) := (if 16 < x4 then (some ((), S)) else ((xgR S x0 5 3).bind fun v1 => (xldI S v1 3 x4).bind fun v2 => (xstI S v1 3 x4 (v2 - x3)).bind fun S3 => k67 x0 x3 (x4 + 1) S3))
def l_M_remove_67 (d : Nat) : Nat → (Option Nat → Int32 → Int32 → xS → Option (Unit × xS))
  | 0 => fun _ _ _ _ => none
  | n + 1 => fun x0 x3 x4 S => b_M_remove_67 d (l_M_remove_67 d n) x0 x3 x4 S
def b_M_remove_10 (d : Nat) (k10 : Option Nat → Int32 → Int32 → Int32 → xS → Option (Unit × xS)) (x0 : Option Nat) (x1 : Int32) (x3 : Int32) (x4 : Int32) (S : xS) : Option (Unit × xS) := (xgR S x0 5 3).bind fun v1 => (xldI S v1 3 16).bind fun v2 => (if (v2 - x3) ≤ x4 then (l_M_remove_67 d xN x0 x3 (x1 + 1) S) else ((xgR S x0 5 4).bind fun v3 => (xgR S x0 5 4).bind fun v4 => (xldI S v4 3 (x4 + x3)).bind fun v5 => (xstI S v3 3 x4 v5).bind fun S6 => (xgR S6 x0 5 5).bind fun v7 => (xgR S6 x0 5 5).bind fun v8 => (xldI S6 v8 3 (x4 + x3)).bind fun v9 => (xstI S6 v7 3 x4 v9).bind fun S10 => k10 x0 x1 x3 (x4 + 1) S10))
def l_M_remove_10 (d : Nat) : Nat → (Option Nat → Int32 → Int32 → Int32 → xS → Option (Unit × xS))
  | 0 => fun _ _ _ _ _ => none
  | n + 1 => fun x0 x1 x3 x4 S => b_M_remove_10 d (l_M_remove_10 d n) x0 x1 x3 x4 S
def e_M_remove (d : Nat) (p0 : Option Nat) (p1 : Int32) (p2 : Int32) (p3 : Int32) (S : xS) : Option (Unit × xS) := (xgR S p0 5 3).bind fun v1 => (xldI S v1 3 p1).bind fun v2 => l_M_remove_10 d xN p0 p1 p3 (v2 + p2) S
def f_M_remove : Nat → (Option Nat → Int32 → Int32 → Int32 → xS → Option (Unit × xS))
  | 0 => fun _ _ _ _ _ => none
  | d + 1 => fun p0 p1 p2 p3 S => e_M_remove d p0 p1 p2 p3 S
def b_M_insert_120 (d : Nat) (k120 : Option Nat → Int32 → Int32 → xS → Option (Unit × xS)) (x0 : Option Nat) (x3 : Int32) (x5 : Int32) (S : xS) : Option (Unit × xS) := (if 16 < x5 then (some ((), S)) else ((xgR S x0 5 3).bind fun v1 => (xldI S v1 3 x5).bind fun v2 => (xstI S v1 3 x5 (v2 + x3)).bind fun S3 => k120 x0 x3 (x5 + 1) S3))
def l_M_insert_120 (d : Nat) : Nat → (Option Nat → Int32 → Int32 → xS → Option (Unit × xS))
  | 0 => fun _ _ _ _ => none
  | n + 1 => fun x0 x3 x5 S => b_M_insert_120 d (l_M_insert_120 d n) x0 x3 x5 S
def b_M_insert_69 (d : Nat) (k69 : Option Nat → Int32 → Int32 → Int32 → Int32 → xS → Option (Unit × xS)) (x0 : Option Nat) (x1 : Int32) (x3 : Int32) (x4 : Int32) (x5 : Int32) (S : xS) : Option (Unit × xS) := (if x3 ≤ x5 then (l_M_insert_120 d xN x0 x3 (x1 + 1) S) else ((xgR S x0 5 4).bind fun v1 => (xgR S x0 5 6).bind fun v2 => (xldI S v2 3 x5).bind fun v3 => (xstI S v1 3 (x4 + x5) v3).bind fun S4 => (xgR S4 x0 5 5).bind fun v5 => (xgR S4 x0 5 7).bind fun v6 => (xldI S4 v6 3 x5).bind fun v7 => (xstI S4 v5 3 (x4 + x5) v7).bind fun S8 => k69 x0 x1 x3 x4 (x5 + 1) S8))
def l_M_insert_69 (d : Nat) : Nat → (Option Nat → Int32 → Int32 → Int32 → Int32 → xS → Option (Unit × xS))
  | 0 => fun _ _ _ _ _ _ => none
  | n + 1 => fun x0 x1 x3 x4 x5 S => b_M_insert_69 d (l_M_insert_69 d n) x0 x1 x3 x4 x5 S
def b_M_insert_21 (d : Nat) (k21 : Option Nat → Int32 → Int32 → Int32 → Int32 → xS → Option (Unit × xS)) (x0 : Option Nat) (x1 : Int32) (x3 : Int32) (x4 : Int32) (x5 : Int32) (S : xS) : Option (Unit × xS) := (if x5 < x4 then (l_M_insert_69 d xN x0 x1 x3 x4 0 S) else ((xgR S x0 5 4).bind fun v1 => (xgR S x0 5 4).bind fun v2 => (xldI S v2 3 x5).bind fun v3 => (xstI S v1 3 (x5 + x3) v3).bind fun S4 => (xgR S4 x0 5 5).bind fun v5 => (xgR S4 x0 5 5).bind fun v6 => (xldI S4 v6 3 x5).bind fun v7 => (xstI S4 v5 3 (x5 + x3) v7).bind fun S8 => k21 x0 x1 x3 x4 (x5 + (-1)) S8))
def l_M_insert_21 (d : Nat) : Nat → (Option Nat → Int32 → Int32 → Int32 → Int32 → xS → Option (Unit × xS))
  | 0 => fun _ _ _ _ _ _ => none
  | n + 1 => fun x0 x1 x3 x4 x5 S => b_M_insert_21 d (l_M_insert_21 d n) x0 x1 x3 x4 x5 S
def e_M_insert (d : Nat) (p0 : Option Nat) (p1 : Int32) (p2 : Int32) (p3 : Int32) (S : xS) : Option (Unit × xS) := (xgR S p0 5 3).bind fun v1 => (xldI S v1 3 p1).bind fun v2 => (xgR S p0 5 3).bind fun v3 => (xldI S v3 3 16).bind fun v4 => l_M_insert_21 d xN p0 p1 p3 (v2 + p2) (v4 - 1) S
def f_M_insert : Nat → (Option Nat → Int32 → Int32 → Int32 → xS → Option (Unit × xS))
  | 0 => fun _ _ _ _ _ => none
  | d + 1 => fun p0 p1 p2 p3 S => e_M_insert d p0 p1 p2 p3 S
def b_M_parts_51 (d : Nat) (y0 : Int32) (S : xS) : Option (Int32 × xS) := (if y0 = 0 ∨ y0 = 1 then some (y0, S) else none)
def b_M_parts_46 (d : Nat) (S : xS) : Option (Int32 × xS) := b_M_parts_51 d 1 S
def e_M_parts (d : Nat) (p0 : Option Nat) (p1 : Int32) (p2 : Int32) (S : xS) : Option (Int32 × xS) := (xgR S p0 5 3).bind fun v1 => (xldI S v1 3 p1).bind fun v2 => (if p2 = v2 then (b_M_parts_46 d S) else ((xgR S p0 5 4).bind fun v3 => (xldI S v3 3 p2).bind fun v4 => (xgR S p0 5 4).bind fun v5 => (xldI S v5 3 (p2 - 1)).bind fun v6 => (if v4 = (v6 + 1) then ((xgR S p0 5 5).bind fun v7 => (xldI S v7 3 p2).bind fun v8 => (xgR S p0 5 5).bind fun v9 => (xldI S v9 3 (p2 - 1)).bind fun v10 => (if v8 = v10 then (b_M_parts_51 d 0 S) else (b_M_parts_46 d S))) else (b_M_parts_46 d S))))
def f_M_parts : Nat → (Option Nat → Int32 → Int32 → xS → Option (Int32 × xS))
  | 0 => fun _ _ _ _ => none
  | d + 1 => fun p0 p1 p2 S => e_M_parts d p0 p1 p2 S
def b_M_pieces_36 (d : Nat) (k9 : Option Nat → Int32 → Int32 → Int32 → xS → Option (Int32 × xS)) (x0 : Option Nat) (x1 : Int32) (x3 : Int32) (y0 : Int32) (y1 : Int32) (S : xS) : Option (Int32 × xS) := k9 x0 x1 (y1 + y0) (x3 + 1) S
def b_M_pieces_9 (d : Nat) (k9 : Option Nat → Int32 → Int32 → Int32 → xS → Option (Int32 × xS)) (x0 : Option Nat) (x1 : Int32) (x2 : Int32) (x3 : Int32) (S : xS) : Option (Int32 × xS) := (xgR S x0 5 3).bind fun v1 => (xldI S v1 3 (x1 + 1)).bind fun v2 => (if v2 ≤ x3 then (some (x2, S)) else ((xobj S x0 5).bind fun _ => (f_M_parts d x0 x1 x3 S).bind fun q3 => (if q3.1 = 0 then (b_M_pieces_36 d k9 x0 x1 x3 0 x2 q3.2) else (b_M_pieces_36 d k9 x0 x1 x3 1 x2 q3.2))))
def l_M_pieces_9 (d : Nat) : Nat → (Option Nat → Int32 → Int32 → Int32 → xS → Option (Int32 × xS))
  | 0 => fun _ _ _ _ _ => none
  | n + 1 => fun x0 x1 x2 x3 S => b_M_pieces_9 d (l_M_pieces_9 d n) x0 x1 x2 x3 S
def e_M_pieces (d : Nat) (p0 : Option Nat) (p1 : Int32) (S : xS) : Option (Int32 × xS) := (xgR S p0 5 3).bind fun v1 => (xldI S v1 3 p1).bind fun v2 => l_M_pieces_9 d xN p0 p1 0 v2 S
def f_M_pieces : Nat → (Option Nat → Int32 → xS → Option (Int32 × xS))
  | 0 => fun _ _ _ => none
  | d + 1 => fun p0 p1 S => e_M_pieces d p0 p1 S
def b_M_allPieces_4 (d : Nat) (k4 : Option Nat → Int32 → Int32 → xS → Option (Int32 × xS)) (x0 : Option Nat) (x1 : Int32) (x2 : Int32) (S : xS) : Option (Int32 × xS) := (if 16 ≤ x2 then (some (x1, S)) else ((xobj S x0 5).bind fun _ => (f_M_pieces d x0 x2 S).bind fun q1 => k4 x0 (x1 + q1.1) (x2 + 1) q1.2))
def l_M_allPieces_4 (d : Nat) : Nat → (Option Nat → Int32 → Int32 → xS → Option (Int32 × xS))
  | 0 => fun _ _ _ _ => none
  | n + 1 => fun x0 x1 x2 S => b_M_allPieces_4 d (l_M_allPieces_4 d n) x0 x1 x2 S
def e_M_allPieces (d : Nat) (p0 : Option Nat) (S : xS) : Option (Int32 × xS) := l_M_allPieces_4 d xN p0 0 0 S
def f_M_allPieces : Nat → (Option Nat → xS → Option (Int32 × xS))
  | 0 => fun _ _ => none
  | d + 1 => fun p0 S => e_M_allPieces d p0 S
def b_M_put_73 (d : Nat) (k73 : Option Nat → Int32 → Int32 → Int32 → Int32 → Int32 → Int32 → xS → Option (Int32 × xS)) (x0 : Option Nat) (x1 : Int32) (x2 : Int32) (x3 : Int32) (x4 : Int32) (x5 : Int32) (x6 : Int32) (S : xS) : Option (Int32 × xS) := (if x4 ≤ x6 then ((xobj S x0 5).bind fun _ => (f_M_insert d x0 x1 x2 x4 S).bind fun q1 => (xobj q1.2 x0 5).bind fun _ => (f_M_allPieces d x0 q1.2).bind fun q2 => (if 1024 < q2.1 then ((xobj q2.2 x0 5).bind fun _ => (f_M_remove d x0 x1 x2 x4 q2.2).bind fun q3 => (xobj q3.2 x0 5).bind fun _ => (f_M_raise d x0 2 q3.2).bind fun q4 => some (q4.1, q4.2)) else ((xobj q2.2 x0 5).bind fun _ => (f_M_size d x0 x1 q2.2).bind fun q5 => some (q5.1, q5.2)))) else ((xgR S x0 5 6).bind fun v6 => (xstI S v6 3 x6 (x3 + x6)).bind fun S7 => (xgR S7 x0 5 7).bind fun v8 => (xstI S7 v8 3 x6 x5).bind fun S9 => k73 x0 x1 x2 x3 x4 x5 (x6 + 1) S9))
def l_M_put_73 (d : Nat) : Nat → (Option Nat → Int32 → Int32 → Int32 → Int32 → Int32 → Int32 → xS → Option (Int32 × xS))
  | 0 => fun _ _ _ _ _ _ _ _ => none
  | n + 1 => fun x0 x1 x2 x3 x4 x5 x6 S => b_M_put_73 d (l_M_put_73 d n) x0 x1 x2 x3 x4 x5 x6 S
def b_M_put_36 (d : Nat) (x0 : Option Nat) (x1 : Int32) (x2 : Int32) (x3 : Int32) (x4 : Int32) (x5 : Int32) (y0 : Int32) (y1 : Option Nat) (S : xS) : Option (Int32 × xS) := (xput S y1 5 0 (.int y0)).bind fun S1 => (xgI S1 x0 5 0).bind fun v2 => (if v2 ≤ 0 then ((xgR S1 x0 5 3).bind fun v3 => (xldI S1 v3 3 16).bind fun v4 => (if x4 ≤ (4096 - v4) then (l_M_put_73 d xN x0 x1 x2 x3 x4 x5 0 S1) else ((xobj S1 x0 5).bind fun _ => (f_M_raise d x0 2 S1).bind fun q5 => some (q5.1, q5.2)))) else (some (0, S1)))
def b_M_put_31 (d : Nat) (x0 : Option Nat) (x1 : Int32) (x2 : Int32) (x3 : Int32) (x4 : Int32) (x5 : Int32) (y0 : Option Nat) (S : xS) : Option (Int32 × xS) := b_M_put_36 d x0 x1 x2 x3 x4 x5 1 y0 S
def e_M_put (d : Nat) (p0 : Option Nat) (p1 : Int32) (p2 : Int32) (p3 : Int32) (p4 : Int32) (p5 : Int32) (S : xS) : Option (Int32 × xS) := (xobj S p0 5).bind fun _ => (f_M_isPlace d p0 p1 p2 S).bind fun q1 => (if q1.1 = 0 then (b_M_put_31 d p0 p1 p2 p3 p4 p5 p0 q1.2) else (if p3 < 0 then (b_M_put_31 d p0 p1 p2 p3 p4 p5 p0 q1.2) else (if p4 < 1 then (b_M_put_31 d p0 p1 p2 p3 p4 p5 p0 q1.2) else ((xgI q1.2 p0 5 1).bind fun v2 => (if p3 ≤ (v2 - p4) then (b_M_put_36 d p0 p1 p2 p3 p4 p5 0 p0 q1.2) else (b_M_put_31 d p0 p1 p2 p3 p4 p5 p0 q1.2))))))
def f_M_put : Nat → (Option Nat → Int32 → Int32 → Int32 → Int32 → Int32 → xS → Option (Int32 × xS))
  | 0 => fun _ _ _ _ _ _ _ => none
  | d + 1 => fun p0 p1 p2 p3 p4 p5 S => e_M_put d p0 p1 p2 p3 p4 p5 S
def b_M_cut_43 (d : Nat) (x0 : Option Nat) (x1 : Int32) (x2 : Int32) (x3 : Int32) (x4 : Int32) (y0 : Int32) (y1 : Option Nat) (S : xS) : Option (Int32 × xS) := (xput S y1 5 0 (.int y0)).bind fun S1 => (xgI S1 x0 5 0).bind fun v2 => (if v2 ≤ 0 then ((xobj S1 x0 5).bind fun _ => (f_M_keep d x0 x1 x2 x3 S1).bind fun q3 => (xobj q3.2 x0 5).bind fun _ => (f_M_remove d x0 x1 x2 x3 q3.2).bind fun q4 => (xobj q4.2 x0 5).bind fun _ => (f_M_insert d x0 x4 0 x3 q4.2).bind fun q5 => (xobj q5.2 x0 5).bind fun _ => (f_M_allPieces d x0 q5.2).bind fun q6 => (if 1024 < q6.1 then ((xobj q6.2 x0 5).bind fun _ => (f_M_keep d x0 x4 0 x3 q6.2).bind fun q7 => (xobj q7.2 x0 5).bind fun _ => (f_M_remove d x0 x4 0 x3 q7.2).bind fun q8 => (xobj q8.2 x0 5).bind fun _ => (f_M_insert d x0 x1 x2 x3 q8.2).bind fun q9 => (xobj q9.2 x0 5).bind fun _ => (f_M_raise d x0 3 q9.2).bind fun q10 => some (q10.1, q10.2)) else ((xobj q6.2 x0 5).bind fun _ => (f_M_size d x0 x1 q6.2).bind fun q11 => some (q11.1, q11.2)))) else (some (0, S1)))
def b_M_cut_38 (d : Nat) (x0 : Option Nat) (x1 : Int32) (x2 : Int32) (x3 : Int32) (x4 : Int32) (y0 : Option Nat) (S : xS) : Option (Int32 × xS) := b_M_cut_43 d x0 x1 x2 x3 x4 2 y0 S
def b_M_cut_19 (d : Nat) (x0 : Option Nat) (x1 : Int32) (x2 : Int32) (x3 : Int32) (x4 : Int32) (y0 : Option Nat) (S : xS) : Option (Int32 × xS) := b_M_cut_43 d x0 x1 x2 x3 x4 1 y0 S
def e_M_cut (d : Nat) (p0 : Option Nat) (p1 : Int32) (p2 : Int32) (p3 : Int32) (p4 : Int32) (S : xS) : Option (Int32 × xS) := (xobj S p0 5).bind fun _ => (f_M_isRange d p0 p1 p2 p3 S).bind fun q1 => (if q1.1 = 0 then (b_M_cut_19 d p0 p1 p2 p3 p4 p0 q1.2) else ((f_M_isText d p4 q1.2).bind fun q2 => (if q2.1 = 0 then (b_M_cut_19 d p0 p1 p2 p3 p4 p0 q2.2) else (if p4 = p1 then (b_M_cut_38 d p0 p1 p2 p3 p4 p0 q2.2) else ((xobj q2.2 p0 5).bind fun _ => (f_M_size d p0 p4 q2.2).bind fun q3 => (if q3.1 ≤ 0 then (b_M_cut_43 d p0 p1 p2 p3 p4 0 p0 q3.2) else (b_M_cut_38 d p0 p1 p2 p3 p4 p0 q3.2)))))))
def f_M_cut : Nat → (Option Nat → Int32 → Int32 → Int32 → Int32 → xS → Option (Int32 × xS))
  | 0 => fun _ _ _ _ _ _ => none
  | d + 1 => fun p0 p1 p2 p3 p4 S => e_M_cut d p0 p1 p2 p3 p4 S
def b_M_paste_31 (d : Nat) (x0 : Option Nat) (x1 : Int32) (x2 : Int32) (x3 : Int32) (y0 : Int32) (y1 : Option Nat) (S : xS) : Option (Int32 × xS) := (xput S y1 5 0 (.int y0)).bind fun S1 => (xgI S1 x0 5 0).bind fun v2 => (if v2 ≤ 0 then ((xobj S1 x0 5).bind fun _ => (f_M_size d x0 x3 S1).bind fun q3 => (xobj q3.2 x0 5).bind fun _ => (f_M_keep d x0 x3 0 q3.1 q3.2).bind fun q4 => (xobj q4.2 x0 5).bind fun _ => (f_M_remove d x0 x3 0 q3.1 q4.2).bind fun q5 => (xobj q5.2 x0 5).bind fun _ => (f_M_insert d x0 x1 x2 q3.1 q5.2).bind fun q6 => (xobj q6.2 x0 5).bind fun _ => (f_M_allPieces d x0 q6.2).bind fun q7 => (if 1024 < q7.1 then ((xobj q7.2 x0 5).bind fun _ => (f_M_keep d x0 x1 x2 q3.1 q7.2).bind fun q8 => (xobj q8.2 x0 5).bind fun _ => (f_M_remove d x0 x1 x2 q3.1 q8.2).bind fun q9 => (xobj q9.2 x0 5).bind fun _ => (f_M_insert d x0 x3 0 q3.1 q9.2).bind fun q10 => (xobj q10.2 x0 5).bind fun _ => (f_M_raise d x0 3 q10.2).bind fun q11 => some (q11.1, q11.2)) else ((xobj q7.2 x0 5).bind fun _ => (f_M_size d x0 x1 q7.2).bind fun q12 => some (q12.1, q12.2)))) else (some (0, S1)))
def b_M_paste_17 (d : Nat) (x0 : Option Nat) (x1 : Int32) (x2 : Int32) (x3 : Int32) (y0 : Option Nat) (S : xS) : Option (Int32 × xS) := b_M_paste_31 d x0 x1 x2 x3 1 y0 S
def e_M_paste (d : Nat) (p0 : Option Nat) (p1 : Int32) (p2 : Int32) (p3 : Int32) (S : xS) : Option (Int32 × xS) := (xobj S p0 5).bind fun _ => (f_M_isPlace d p0 p1 p2 S).bind fun q1 => (if q1.1 = 0 then (b_M_paste_17 d p0 p1 p2 p3 p0 q1.2) else ((f_M_isText d p3 q1.2).bind fun q2 => (if q2.1 = 0 then (b_M_paste_17 d p0 p1 p2 p3 p0 q2.2) else (if p3 = p1 then (b_M_paste_31 d p0 p1 p2 p3 2 p0 q2.2) else (b_M_paste_31 d p0 p1 p2 p3 0 p0 q2.2)))))
def f_M_paste : Nat → (Option Nat → Int32 → Int32 → Int32 → xS → Option (Int32 × xS))
  | 0 => fun _ _ _ _ _ => none
  | d + 1 => fun p0 p1 p2 p3 S => e_M_paste d p0 p1 p2 p3 S
def b_M_copy_43 (d : Nat) (x0 : Option Nat) (x1 : Int32) (x2 : Int32) (x3 : Int32) (x4 : Int32) (y0 : Int32) (y1 : Option Nat) (S : xS) : Option (Int32 × xS) := (xput S y1 5 0 (.int y0)).bind fun S1 => (xgI S1 x0 5 0).bind fun v2 => (if v2 ≤ 0 then ((xgR S1 x0 5 3).bind fun v3 => (xldI S1 v3 3 16).bind fun v4 => (if x3 ≤ (4096 - v4) then ((xobj S1 x0 5).bind fun _ => (f_M_keep d x0 x1 x2 x3 S1).bind fun q5 => (xobj q5.2 x0 5).bind fun _ => (f_M_insert d x0 x4 0 x3 q5.2).bind fun q6 => (xobj q6.2 x0 5).bind fun _ => (f_M_allPieces d x0 q6.2).bind fun q7 => (if 1024 < q7.1 then ((xobj q7.2 x0 5).bind fun _ => (f_M_remove d x0 x4 0 x3 q7.2).bind fun q8 => (xobj q8.2 x0 5).bind fun _ => (f_M_raise d x0 3 q8.2).bind fun q9 => some (q9.1, q9.2)) else ((xobj q7.2 x0 5).bind fun _ => (f_M_pieces d x0 x4 q7.2).bind fun q10 => some (q10.1, q10.2)))) else ((xobj S1 x0 5).bind fun _ => (f_M_raise d x0 3 S1).bind fun q11 => some (q11.1, q11.2)))) else (some (0, S1)))
def b_M_copy_38 (d : Nat) (x0 : Option Nat) (x1 : Int32) (x2 : Int32) (x3 : Int32) (x4 : Int32) (y0 : Option Nat) (S : xS) : Option (Int32 × xS) := b_M_copy_43 d x0 x1 x2 x3 x4 2 y0 S
def b_M_copy_19 (d : Nat) (x0 : Option Nat) (x1 : Int32) (x2 : Int32) (x3 : Int32) (x4 : Int32) (y0 : Option Nat) (S : xS) : Option (Int32 × xS) := b_M_copy_43 d x0 x1 x2 x3 x4 1 y0 S
def e_M_copy (d : Nat) (p0 : Option Nat) (p1 : Int32) (p2 : Int32) (p3 : Int32) (p4 : Int32) (S : xS) : Option (Int32 × xS) := (xobj S p0 5).bind fun _ => (f_M_isRange d p0 p1 p2 p3 S).bind fun q1 => (if q1.1 = 0 then (b_M_copy_19 d p0 p1 p2 p3 p4 p0 q1.2) else ((f_M_isText d p4 q1.2).bind fun q2 => (if q2.1 = 0 then (b_M_copy_19 d p0 p1 p2 p3 p4 p0 q2.2) else (if p4 = p1 then (b_M_copy_38 d p0 p1 p2 p3 p4 p0 q2.2) else ((xobj q2.2 p0 5).bind fun _ => (f_M_size d p0 p4 q2.2).bind fun q3 => (if q3.1 ≤ 0 then (b_M_copy_43 d p0 p1 p2 p3 p4 0 p0 q3.2) else (b_M_copy_38 d p0 p1 p2 p3 p4 p0 q3.2)))))))
def f_M_copy : Nat → (Option Nat → Int32 → Int32 → Int32 → Int32 → xS → Option (Int32 × xS))
  | 0 => fun _ _ _ _ _ _ => none
  | d + 1 => fun p0 p1 p2 p3 p4 S => e_M_copy d p0 p1 p2 p3 p4 S
def b_M_tag_110 (d : Nat) (k110 : Option Nat → Int32 → Int32 → Int32 → xS → Option (Int32 × xS)) (x0 : Option Nat) (x3 : Int32) (x6 : Int32) (x7 : Int32) (S : xS) : Option (Int32 × xS) := (if x3 ≤ x7 then ((xobj S x0 5).bind fun _ => (f_M_raise d x0 2 S).bind fun q1 => some (q1.1, q1.2)) else ((xgR S x0 5 5).bind fun v2 => (xgR S x0 5 7).bind fun v3 => (xldI S v3 3 x7).bind fun v4 => (xstI S v2 3 (x6 + x7) v4).bind fun S5 => k110 x0 x3 x6 (x7 + 1) S5))
def l_M_tag_110 (d : Nat) : Nat → (Option Nat → Int32 → Int32 → Int32 → xS → Option (Int32 × xS))
  | 0 => fun _ _ _ _ _ => none
  | n + 1 => fun x0 x3 x6 x7 S => b_M_tag_110 d (l_M_tag_110 d n) x0 x3 x6 x7 S
def b_M_tag_48 (d : Nat) (k48 : Option Nat → Int32 → Int32 → Int32 → Int32 → Int32 → Int32 → xS → Option (Int32 × xS)) (x0 : Option Nat) (x1 : Int32) (x3 : Int32) (x4 : Int32) (x5 : Int32) (x6 : Int32) (x7 : Int32) (S : xS) : Option (Int32 × xS) := (if x3 ≤ x7 then ((xobj S x0 5).bind fun _ => (f_M_allPieces d x0 S).bind fun q1 => (if 1024 < q1.1 then (l_M_tag_110 d xN x0 x3 x6 0 q1.2) else ((xobj q1.2 x0 5).bind fun _ => (f_M_pieces d x0 x1 q1.2).bind fun q2 => some (q2.1, q2.2)))) else ((xgR S x0 5 5).bind fun v3 => (xgR S x0 5 5).bind fun v4 => (xldI S v4 3 (x6 + x7)).bind fun v5 => (xstI S v3 3 (x6 + x7) ((v5 &&& (x4 ^^^ ((-1)))) ||| (x5 &&& x4))).bind fun S6 => k48 x0 x1 x3 x4 x5 x6 (x7 + 1) S6))
def l_M_tag_48 (d : Nat) : Nat → (Option Nat → Int32 → Int32 → Int32 → Int32 → Int32 → Int32 → xS → Option (Int32 × xS))
  | 0 => fun _ _ _ _ _ _ _ _ => none
  | n + 1 => fun x0 x1 x3 x4 x5 x6 x7 S => b_M_tag_48 d (l_M_tag_48 d n) x0 x1 x3 x4 x5 x6 x7 S
def b_M_tag_16 (d : Nat) (x0 : Option Nat) (x1 : Int32) (x2 : Int32) (x3 : Int32) (x4 : Int32) (x5 : Int32) (y0 : Int32) (y1 : Option Nat) (S : xS) : Option (Int32 × xS) := (xput S y1 5 0 (.int y0)).bind fun S1 => (xgI S1 x0 5 0).bind fun v2 => (if v2 ≤ 0 then ((xobj S1 x0 5).bind fun _ => (f_M_keep d x0 x1 x2 x3 S1).bind fun q3 => (xgR q3.2 x0 5 3).bind fun v4 => (xldI q3.2 v4 3 x1).bind fun v5 => l_M_tag_48 d xN x0 x1 x3 x4 x5 (v5 + x2) 0 q3.2) else (some (0, S1)))
def e_M_tag (d : Nat) (p0 : Option Nat) (p1 : Int32) (p2 : Int32) (p3 : Int32) (p4 : Int32) (p5 : Int32) (S : xS) : Option (Int32 × xS) := (xobj S p0 5).bind fun _ => (f_M_isRange d p0 p1 p2 p3 S).bind fun q1 => (if q1.1 = 0 then (b_M_tag_16 d p0 p1 p2 p3 p4 p5 1 p0 q1.2) else (b_M_tag_16 d p0 p1 p2 p3 p4 p5 0 p0 q1.2))
def f_M_tag : Nat → (Option Nat → Int32 → Int32 → Int32 → Int32 → Int32 → xS → Option (Int32 × xS))
  | 0 => fun _ _ _ _ _ _ _ => none
  | d + 1 => fun p0 p1 p2 p3 p4 p5 S => e_M_tag d p0 p1 p2 p3 p4 p5 S
def b_M_wipe_13 (d : Nat) (x0 : Option Nat) (x1 : Int32) (y0 : Int32) (y1 : Option Nat) (S : xS) : Option (Int32 × xS) := (xput S y1 5 0 (.int y0)).bind fun S1 => (xgI S1 x0 5 0).bind fun v2 => (if v2 ≤ 0 then ((xobj S1 x0 5).bind fun _ => (f_M_size d x0 x1 S1).bind fun q3 => (xobj q3.2 x0 5).bind fun _ => (f_M_remove d x0 x1 0 q3.1 q3.2).bind fun q4 => some (q3.1, q4.2)) else (some (0, S1)))
def e_M_wipe (d : Nat) (p0 : Option Nat) (p1 : Int32) (S : xS) : Option (Int32 × xS) := (f_M_isText d p1 S).bind fun q1 => (if q1.1 = 0 then (b_M_wipe_13 d p0 p1 1 p0 q1.2) else (b_M_wipe_13 d p0 p1 0 p0 q1.2))
def f_M_wipe : Nat → (Option Nat → Int32 → xS → Option (Int32 × xS))
  | 0 => fun _ _ _ => none
  | d + 1 => fun p0 p1 S => e_M_wipe d p0 p1 S
def b_M_length_21 (d : Nat) (y0 : Int32) (S : xS) : Option (Int32 × xS) := some (y0, S)
def e_M_length (d : Nat) (p0 : Option Nat) (p1 : Int32) (S : xS) : Option (Int32 × xS) := (xput S p0 5 0 (.int 0)).bind fun S1 => (f_M_isText d p1 S1).bind fun q2 => (if q2.1 = 0 then (b_M_length_21 d ((-1)) q2.2) else ((xobj q2.2 p0 5).bind fun _ => (f_M_size d p0 p1 q2.2).bind fun q3 => b_M_length_21 d q3.1 q3.2))
def f_M_length : Nat → (Option Nat → Int32 → xS → Option (Int32 × xS))
  | 0 => fun _ _ _ => none
  | d + 1 => fun p0 p1 S => e_M_length d p0 p1 S
def b_M_look_154 (d : Nat) (y0 : Int32) (S : xS) : Option (Int32 × xS) := some (y0, S)
def b_M_look_94 (d : Nat) (k70 : Option Nat → Int32 → Int32 → Int32 → Int32 → Int32 → xS → Option (Int32 × xS)) (x0 : Option Nat) (x1 : Int32) (x3 : Int32) (x4 : Int32) (x6 : Int32) (y0 : Int32) (y1 : Int32) (S : xS) : Option (Int32 × xS) := k70 x0 x1 x3 x4 (y1 + y0) (x6 + 1) S
def b_M_look_70 (d : Nat) (k70 : Option Nat → Int32 → Int32 → Int32 → Int32 → Int32 → xS → Option (Int32 × xS)) (x0 : Option Nat) (x1 : Int32) (x3 : Int32) (x4 : Int32) (x5 : Int32) (x6 : Int32) (S : xS) : Option (Int32 × xS) := (if x4 < x6 then (if x3 = 0 then ((xgR S x0 5 2).bind fun v5 => (xgR S x0 5 4).bind fun v6 => (xldI S v6 3 x4).bind fun v7 => (xldI S v5 3 v7).bind fun v8 => b_M_look_154 d v8 S) else (if x3 = 1 then ((xgR S x0 5 4).bind fun v3 => (xldI S v3 3 x4).bind fun v4 => b_M_look_154 d v4 S) else (if x3 = 2 then ((xgR S x0 5 5).bind fun v1 => (xldI S v1 3 x4).bind fun v2 => b_M_look_154 d v2 S) else (b_M_look_154 d x5 S)))) else ((xobj S x0 5).bind fun _ => (f_M_parts d x0 x1 x6 S).bind fun q9 => (if q9.1 = 0 then (b_M_look_94 d k70 x0 x1 x3 x4 x6 0 x5 q9.2) else (b_M_look_94 d k70 x0 x1 x3 x4 x6 1 x5 q9.2))))
def l_M_look_70 (d : Nat) : Nat → (Option Nat → Int32 → Int32 → Int32 → Int32 → Int32 → xS → Option (Int32 × xS))
  | 0 => fun _ _ _ _ _ _ _ => none
  | n + 1 => fun x0 x1 x3 x4 x5 x6 S => b_M_look_70 d (l_M_look_70 d n) x0 x1 x3 x4 x5 x6 S
def b_M_look_37 (d : Nat) (x0 : Option Nat) (x1 : Int32) (x2 : Int32) (x3 : Int32) (y0 : Int32) (y1 : Option Nat) (S : xS) : Option (Int32 × xS) := (xput S y1 5 0 (.int y0)).bind fun S1 => (xgI S1 x0 5 0).bind fun v2 => (if v2 ≤ 0 then ((xgR S1 x0 5 3).bind fun v3 => (xldI S1 v3 3 x1).bind fun v4 => (xgR S1 x0 5 3).bind fun v5 => (xldI S1 v5 3 x1).bind fun v6 => l_M_look_70 d xN x0 x1 x3 (v4 + x2) ((-1)) v6 S1) else (some (0, S1)))
def b_M_look_32 (d : Nat) (x0 : Option Nat) (x1 : Int32) (x2 : Int32) (x3 : Int32) (y0 : Option Nat) (S : xS) : Option (Int32 × xS) := b_M_look_37 d x0 x1 x2 x3 2 y0 S
def b_M_look_19 (d : Nat) (x0 : Option Nat) (x1 : Int32) (x2 : Int32) (x3 : Int32) (y0 : Option Nat) (S : xS) : Option (Int32 × xS) := b_M_look_37 d x0 x1 x2 x3 1 y0 S
def e_M_look (d : Nat) (p0 : Option Nat) (p1 : Int32) (p2 : Int32) (p3 : Int32) (S : xS) : Option (Int32 × xS) := (xobj S p0 5).bind fun _ => (f_M_isPlace d p0 p1 p2 S).bind fun q1 => (if q1.1 = 0 then (b_M_look_19 d p0 p1 p2 p3 p0 q1.2) else ((xobj q1.2 p0 5).bind fun _ => (f_M_size d p0 p1 q1.2).bind fun q2 => (if p2 = q2.1 then (b_M_look_19 d p0 p1 p2 p3 p0 q2.2) else (if p3 < 0 then (b_M_look_32 d p0 p1 p2 p3 p0 q2.2) else (if p3 ≤ 3 then (b_M_look_37 d p0 p1 p2 p3 0 p0 q2.2) else (b_M_look_32 d p0 p1 p2 p3 p0 q2.2))))))
def f_M_look : Nat → (Option Nat → Int32 → Int32 → Int32 → xS → Option (Int32 × xS))
  | 0 => fun _ _ _ _ _ => none
  | d + 1 => fun p0 p1 p2 p3 S => e_M_look d p0 p1 p2 p3 S
def b_M_piece_179 (d : Nat) (y0 : Int32) (S : xS) : Option (Int32 × xS) := some (y0, S)
def b_M_piece_131 (d : Nat) (x0 : Option Nat) (x1 : Int32) (x3 : Int32) (x5 : Int32) (x6 : Int32) (S : xS) : Option (Int32 × xS) := (if x3 = 0 then ((xgR S x0 5 3).bind fun v5 => (xldI S v5 3 x1).bind fun v6 => b_M_piece_179 d (x5 - v6) S) else (if x3 = 1 then ((xgR S x0 5 4).bind fun v3 => (xldI S v3 3 x5).bind fun v4 => b_M_piece_179 d v4 S) else (if x3 = 2 then (b_M_piece_179 d x6 S) else ((xgR S x0 5 5).bind fun v1 => (xldI S v1 3 x5).bind fun v2 => b_M_piece_179 d v2 S))))
def b_M_piece_96 (d : Nat) (k96 : Option Nat → Int32 → Int32 → Int32 → Int32 → xS → Option (Int32 × xS)) (x0 : Option Nat) (x1 : Int32) (x3 : Int32) (x5 : Int32) (x6 : Int32) (S : xS) : Option (Int32 × xS) := (xgR S x0 5 3).bind fun v1 => (xldI S v1 3 (x1 + 1)).bind fun v2 => (if v2 ≤ (x5 + x6) then (b_M_piece_131 d x0 x1 x3 x5 x6 S) else ((xobj S x0 5).bind fun _ => (f_M_parts d x0 x1 (x5 + x6) S).bind fun q3 => (if q3.1 = 0 then (k96 x0 x1 x3 x5 (x6 + 1) q3.2) else (b_M_piece_131 d x0 x1 x3 x5 x6 q3.2))))
def l_M_piece_96 (d : Nat) : Nat → (Option Nat → Int32 → Int32 → Int32 → Int32 → xS → Option (Int32 × xS))
  | 0 => fun _ _ _ _ _ _ => none
  | n + 1 => fun x0 x1 x3 x5 x6 S => b_M_piece_96 d (l_M_piece_96 d n) x0 x1 x3 x5 x6 S
def b_M_piece_87 (d : Nat) (k62 : Option Nat → Int32 → Int32 → Int32 → Int32 → xS → Option (Int32 × xS)) (x0 : Option Nat) (x1 : Int32) (x3 : Int32) (x5 : Int32) (y0 : Int32) (y1 : Int32) (S : xS) : Option (Int32 × xS) := k62 x0 x1 x3 (y1 - y0) x5 S
def b_M_piece_62 (d : Nat) (k62 : Option Nat → Int32 → Int32 → Int32 → Int32 → xS → Option (Int32 × xS)) (x0 : Option Nat) (x1 : Int32) (x3 : Int32) (x4 : Int32) (x5 : Int32) (S : xS) : Option (Int32 × xS) := (if x4 ≤ 0 then (l_M_piece_96 d xN x0 x1 x3 x5 1 S) else ((xobj S x0 5).bind fun _ => (f_M_parts d x0 x1 (x5 + 1) S).bind fun q1 => (if q1.1 = 0 then (b_M_piece_87 d k62 x0 x1 x3 (x5 + 1) 0 x4 q1.2) else (b_M_piece_87 d k62 x0 x1 x3 (x5 + 1) 1 x4 q1.2))))
def l_M_piece_62 (d : Nat) : Nat → (Option Nat → Int32 → Int32 → Int32 → Int32 → xS → Option (Int32 × xS))
  | 0 => fun _ _ _ _ _ _ => none
  | n + 1 => fun x0 x1 x3 x4 x5 S => b_M_piece_62 d (l_M_piece_62 d n) x0 x1 x3 x4 x5 S
def b_M_piece_39 (d : Nat) (x0 : Option Nat) (x1 : Int32) (x2 : Int32) (x3 : Int32) (y0 : Int32) (y1 : Option Nat) (S : xS) : Option (Int32 × xS) := (xput S y1 5 0 (.int y0)).bind fun S1 => (xgI S1 x0 5 0).bind fun v2 => (if v2 ≤ 0 then ((xgR S1 x0 5 3).bind fun v3 => (xldI S1 v3 3 x1).bind fun v4 => l_M_piece_62 d xN x0 x1 x3 x2 v4 S1) else (some (0, S1)))
def b_M_piece_34 (d : Nat) (x0 : Option Nat) (x1 : Int32) (x2 : Int32) (x3 : Int32) (y0 : Option Nat) (S : xS) : Option (Int32 × xS) := b_M_piece_39 d x0 x1 x2 x3 2 y0 S
def b_M_piece_21 (d : Nat) (x0 : Option Nat) (x1 : Int32) (x2 : Int32) (x3 : Int32) (y0 : Option Nat) (S : xS) : Option (Int32 × xS) := b_M_piece_39 d x0 x1 x2 x3 1 y0 S
def e_M_piece (d : Nat) (p0 : Option Nat) (p1 : Int32) (p2 : Int32) (p3 : Int32) (S : xS) : Option (Int32 × xS) := (f_M_isText d p1 S).bind fun q1 => (if q1.1 = 0 then (b_M_piece_21 d p0 p1 p2 p3 p0 q1.2) else (if p2 < 0 then (b_M_piece_21 d p0 p1 p2 p3 p0 q1.2) else ((xobj q1.2 p0 5).bind fun _ => (f_M_pieces d p0 p1 q1.2).bind fun q2 => (if p2 < q2.1 then (if p3 < 0 then (b_M_piece_34 d p0 p1 p2 p3 p0 q2.2) else (if p3 ≤ 3 then (b_M_piece_39 d p0 p1 p2 p3 0 p0 q2.2) else (b_M_piece_34 d p0 p1 p2 p3 p0 q2.2))) else (b_M_piece_21 d p0 p1 p2 p3 p0 q2.2)))))
def f_M_piece : Nat → (Option Nat → Int32 → Int32 → Int32 → xS → Option (Int32 × xS))
  | 0 => fun _ _ _ _ _ => none
  | d + 1 => fun p0 p1 p2 p3 S => e_M_piece d p0 p1 p2 p3 S
def b_M_find_37 (d : Nat) (k37 : Option Nat → Int32 → Int32 → Int32 → xS → Option (Int32 × xS)) (x0 : Option Nat) (x1 : Int32) (x3 : Int32) (x4 : Int32) (S : xS) : Option (Int32 × xS) := (xgR S x0 5 3).bind fun v1 => (xldI S v1 3 (x1 + 1)).bind fun v2 => (if v2 ≤ x4 then (some ((-1), S)) else ((xgR S x0 5 2).bind fun v3 => (xgR S x0 5 4).bind fun v4 => (xldI S v4 3 x4).bind fun v5 => (xldI S v3 3 v5).bind fun v6 => (if v6 = x3 then ((xgR S x0 5 3).bind fun v7 => (xldI S v7 3 x1).bind fun v8 => some (x4 - v8, S)) else (k37 x0 x1 x3 (x4 + 1) S))))
def l_M_find_37 (d : Nat) : Nat → (Option Nat → Int32 → Int32 → Int32 → xS → Option (Int32 × xS))
  | 0 => fun _ _ _ _ _ => none
  | n + 1 => fun x0 x1 x3 x4 S => b_M_find_37 d (l_M_find_37 d n) x0 x1 x3 x4 S
def b_M_find_15 (d : Nat) (x0 : Option Nat) (x1 : Int32) (x2 : Int32) (x3 : Int32) (y0 : Int32) (y1 : Option Nat) (S : xS) : Option (Int32 × xS) := (xput S y1 5 0 (.int y0)).bind fun S1 => (xgI S1 x0 5 0).bind fun v2 => (if v2 ≤ 0 then ((xgR S1 x0 5 3).bind fun v3 => (xldI S1 v3 3 x1).bind fun v4 => l_M_find_37 d xN x0 x1 x3 (v4 + x2) S1) else (some (0, S1)))
def e_M_find (d : Nat) (p0 : Option Nat) (p1 : Int32) (p2 : Int32) (p3 : Int32) (S : xS) : Option (Int32 × xS) := (xobj S p0 5).bind fun _ => (f_M_isPlace d p0 p1 p2 S).bind fun q1 => (if q1.1 = 0 then (b_M_find_15 d p0 p1 p2 p3 1 p0 q1.2) else (b_M_find_15 d p0 p1 p2 p3 0 p0 q1.2))
def f_M_find : Nat → (Option Nat → Int32 → Int32 → Int32 → xS → Option (Int32 × xS))
  | 0 => fun _ _ _ _ _ => none
  | d + 1 => fun p0 p1 p2 p3 S => e_M_find d p0 p1 p2 p3 S
def b_M_differ_120 (d : Nat) (y0 : Int32) (S : xS) : Option (Int32 × xS) := some (y0, S)
def b_M_differ_115 (d : Nat) (x3 : Int32) (S : xS) : Option (Int32 × xS) := b_M_differ_120 d x3 S
def b_M_differ_97 (d : Nat) (x0 : Option Nat) (x1 : Int32) (x2 : Int32) (x3 : Int32) (S : xS) : Option (Int32 × xS) := (xobj S x0 5).bind fun _ => (f_M_size d x0 x1 S).bind fun q1 => (if x3 < q1.1 then (b_M_differ_115 d x3 q1.2) else ((xobj q1.2 x0 5).bind fun _ => (f_M_size d x0 x2 q1.2).bind fun q2 => (if q2.1 ≤ x3 then (b_M_differ_120 d ((-1)) q2.2) else (b_M_differ_115 d x3 q2.2))))
def b_M_differ_34 (d : Nat) (k34 : Option Nat → Int32 → Int32 → Int32 → xS → Option (Int32 × xS)) (x0 : Option Nat) (x1 : Int32) (x2 : Int32) (x3 : Int32) (S : xS) : Option (Int32 × xS) := (xobj S x0 5).bind fun _ => (f_M_size d x0 x1 S).bind fun q1 => (if q1.1 ≤ x3 then (b_M_differ_97 d x0 x1 x2 x3 q1.2) else ((xobj q1.2 x0 5).bind fun _ => (f_M_size d x0 x2 q1.2).bind fun q2 => (if q2.1 ≤ x3 then (b_M_differ_97 d x0 x1 x2 x3 q2.2) else ((xgR q2.2 x0 5 2).bind fun v3 => (xgR q2.2 x0 5 4).bind fun v4 => (xgR q2.2 x0 5 3).bind fun v5 => (xldI q2.2 v5 3 x1).bind fun v6 => (xldI q2.2 v4 3 (v6 + x3)).bind fun v7 => (xldI q2.2 v3 3 v7).bind fun v8 => (xgR q2.2 x0 5 2).bind fun v9 => (xgR q2.2 x0 5 4).bind fun v10 => (xgR q2.2 x0 5 3).bind fun v11 => (xldI q2.2 v11 3 x2).bind fun v12 => (xldI q2.2 v10 3 (v12 + x3)).bind fun v13 => (xldI q2.2 v9 3 v13).bind fun v14 => (if v8 = v14 then (k34 x0 x1 x2 (x3 + 1) q2.2) else (b_M_differ_97 d x0 x1 x2 x3 q2.2))))))
def l_M_differ_34 (d : Nat) : Nat → (Option Nat → Int32 → Int32 → Int32 → xS → Option (Int32 × xS))
  | 0 => fun _ _ _ _ _ => none
  | n + 1 => fun x0 x1 x2 x3 S => b_M_differ_34 d (l_M_differ_34 d n) x0 x1 x2 x3 S
def b_M_differ_20 (d : Nat) (x0 : Option Nat) (x1 : Int32) (x2 : Int32) (y0 : Int32) (y1 : Option Nat) (S : xS) : Option (Int32 × xS) := (xput S y1 5 0 (.int y0)).bind fun S1 => (xgI S1 x0 5 0).bind fun v2 => (if v2 ≤ 0 then (l_M_differ_34 d xN x0 x1 x2 0 S1) else (some (0, S1)))
def b_M_differ_19 (d : Nat) (x0 : Option Nat) (x1 : Int32) (x2 : Int32) (y0 : Option Nat) (S : xS) : Option (Int32 × xS) := b_M_differ_20 d x0 x1 x2 1 y0 S
def e_M_differ (d : Nat) (p0 : Option Nat) (p1 : Int32) (p2 : Int32) (S : xS) : Option (Int32 × xS) := (f_M_isText d p1 S).bind fun q1 => (if q1.1 = 0 then (b_M_differ_19 d p0 p1 p2 p0 q1.2) else ((f_M_isText d p2 q1.2).bind fun q2 => (if q2.1 = 0 then (b_M_differ_19 d p0 p1 p2 p0 q2.2) else (b_M_differ_20 d p0 p1 p2 0 p0 q2.2))))
def f_M_differ : Nat → (Option Nat → Int32 → Int32 → xS → Option (Int32 × xS))
  | 0 => fun _ _ _ _ => none
  | d + 1 => fun p0 p1 p2 S => e_M_differ d p0 p1 p2 S
def b_M_count_53 (d : Nat) (y0 : Int32) (S : xS) : Option (Int32 × xS) := some (y0, S)
def e_M_count (d : Nat) (p0 : Option Nat) (p1 : Int32) (S : xS) : Option (Int32 × xS) := (xput S p0 5 0 (.int 0)).bind fun S1 => (if p1 = 0 then ((xgI S1 p0 5 1).bind fun v5 => b_M_count_53 d v5 S1) else (if p1 = 1 then ((xgR S1 p0 5 3).bind fun v3 => (xldI S1 v3 3 16).bind fun v4 => b_M_count_53 d v4 S1) else (if p1 = 2 then ((xobj S1 p0 5).bind fun _ => (f_M_allPieces d p0 S1).bind fun q2 => b_M_count_53 d q2.1 q2.2) else (if p1 = 3 then (b_M_count_53 d 1 S1) else (b_M_count_53 d ((-1)) S1)))))
def f_M_count : Nat → (Option Nat → Int32 → xS → Option (Int32 × xS))
  | 0 => fun _ _ _ => none
  | d + 1 => fun p0 p1 S => e_M_count d p0 p1 S
def e_L_write (d : Nat) (p0 : Option Nat) (p1 : Int64) (p2 : Option Nat) (S : xS) : Option (Int32 × xS) := (xobj S p0 0).bind fun _ => (f_P_write d p0 p1 S).bind fun q1 => xtry q1.1 (fun v2 => (xstL q1.2 p2 1 0 v2.toInt64).bind fun S3 => some (0, S3)) (fun e => (if e = 0 then (some (1, q1.2)) else if e = 1 then (some (2, q1.2)) else none))
def f_L_write : Nat → (Option Nat → Int64 → Option Nat → xS → Option (Int32 × xS))
  | 0 => fun _ _ _ _ => none
  | d + 1 => fun p0 p1 p2 S => e_L_write d p0 p1 p2 S
def e_L_put (d : Nat) (p0 : Option Nat) (p1 : Int32) (p2 : Int32) (p3 : Int32) (p4 : Int32) (p5 : Int32) (p6 : Option Nat) (S : xS) : Option (Int32 × xS) := (xobj S p0 0).bind fun _ => (f_P_put d p0 p1 p2 p3 p4 p5 S).bind fun q1 => xtry q1.1 (fun v2 => (xstL q1.2 p6 1 0 v2.toInt64).bind fun S3 => some (0, S3)) (fun e => (if e = 2 then (some (1, q1.2)) else if e = 1 then (some (2, q1.2)) else none))
def f_L_put : Nat → (Option Nat → Int32 → Int32 → Int32 → Int32 → Int32 → Option Nat → xS → Option (Int32 × xS))
  | 0 => fun _ _ _ _ _ _ _ _ => none
  | d + 1 => fun p0 p1 p2 p3 p4 p5 p6 S => e_L_put d p0 p1 p2 p3 p4 p5 p6 S
def e_L_cut (d : Nat) (p0 : Option Nat) (p1 : Int32) (p2 : Int32) (p3 : Int32) (p4 : Int32) (p5 : Option Nat) (S : xS) : Option (Int32 × xS) := (xobj S p0 0).bind fun _ => (f_P_cut d p0 p1 p2 p3 p4 S).bind fun q1 => xtry q1.1 (fun v2 => (xstL q1.2 p5 1 0 v2.toInt64).bind fun S3 => some (0, S3)) (fun e => (if e = 2 then (some (1, q1.2)) else if e = 0 then (some (2, q1.2)) else if e = 1 then (some (3, q1.2)) else none))
def f_L_cut : Nat → (Option Nat → Int32 → Int32 → Int32 → Int32 → Option Nat → xS → Option (Int32 × xS))
  | 0 => fun _ _ _ _ _ _ _ => none
  | d + 1 => fun p0 p1 p2 p3 p4 p5 S => e_L_cut d p0 p1 p2 p3 p4 p5 S
def e_L_paste (d : Nat) (p0 : Option Nat) (p1 : Int32) (p2 : Int32) (p3 : Int32) (p4 : Option Nat) (S : xS) : Option (Int32 × xS) := (xobj S p0 0).bind fun _ => (f_P_paste d p0 p1 p2 p3 S).bind fun q1 => xtry q1.1 (fun v2 => (xstL q1.2 p4 1 0 v2.toInt64).bind fun S3 => some (0, S3)) (fun e => (if e = 2 then (some (1, q1.2)) else if e = 0 then (some (2, q1.2)) else if e = 1 then (some (3, q1.2)) else none))
def f_L_paste : Nat → (Option Nat → Int32 → Int32 → Int32 → Option Nat → xS → Option (Int32 × xS))
  | 0 => fun _ _ _ _ _ _ => none
  | d + 1 => fun p0 p1 p2 p3 p4 S => e_L_paste d p0 p1 p2 p3 p4 S
def e_L_copy (d : Nat) (p0 : Option Nat) (p1 : Int32) (p2 : Int32) (p3 : Int32) (p4 : Int32) (p5 : Option Nat) (S : xS) : Option (Int32 × xS) := (xobj S p0 0).bind fun _ => (f_P_copy d p0 p1 p2 p3 p4 S).bind fun q1 => xtry q1.1 (fun v2 => (xstL q1.2 p5 1 0 v2.toInt64).bind fun S3 => some (0, S3)) (fun e => (if e = 2 then (some (1, q1.2)) else if e = 0 then (some (2, q1.2)) else if e = 1 then (some (3, q1.2)) else none))
def f_L_copy : Nat → (Option Nat → Int32 → Int32 → Int32 → Int32 → Option Nat → xS → Option (Int32 × xS))
  | 0 => fun _ _ _ _ _ _ _ => none
  | d + 1 => fun p0 p1 p2 p3 p4 p5 S => e_L_copy d p0 p1 p2 p3 p4 p5 S
def e_L_tag (d : Nat) (p0 : Option Nat) (p1 : Int32) (p2 : Int32) (p3 : Int32) (p4 : Int32) (p5 : Int32) (p6 : Option Nat) (S : xS) : Option (Int32 × xS) := (xobj S p0 0).bind fun _ => (f_P_tag d p0 p1 p2 p3 p4 p5 S).bind fun q1 => xtry q1.1 (fun v2 => (xstL q1.2 p6 1 0 v2.toInt64).bind fun S3 => some (0, S3)) (fun e => (if e = 2 then (some (1, q1.2)) else if e = 1 then (some (2, q1.2)) else none))
def f_L_tag : Nat → (Option Nat → Int32 → Int32 → Int32 → Int32 → Int32 → Option Nat → xS → Option (Int32 × xS))
  | 0 => fun _ _ _ _ _ _ _ _ => none
  | d + 1 => fun p0 p1 p2 p3 p4 p5 p6 S => e_L_tag d p0 p1 p2 p3 p4 p5 p6 S
def e_L_wipe (d : Nat) (p0 : Option Nat) (p1 : Int32) (p2 : Option Nat) (S : xS) : Option (Int32 × xS) := (xobj S p0 0).bind fun _ => (f_P_wipe d p0 p1 S).bind fun q1 => xtry q1.1 (fun v2 => (xstL q1.2 p2 1 0 v2.toInt64).bind fun S3 => some (0, S3)) (fun e => (if e = 2 then (some (1, q1.2)) else none))
def f_L_wipe : Nat → (Option Nat → Int32 → Option Nat → xS → Option (Int32 × xS))
  | 0 => fun _ _ _ _ => none
  | d + 1 => fun p0 p1 p2 S => e_L_wipe d p0 p1 p2 S
def e_L_look (d : Nat) (p0 : Option Nat) (p1 : Int32) (p2 : Int32) (p3 : Int32) (p4 : Option Nat) (S : xS) : Option (Int32 × xS) := (xobj S p0 0).bind fun _ => (f_P_look d p0 p1 p2 p3 S).bind fun q1 => xtry q1.1 (fun v2 => (xstL q1.2 p4 1 0 v2.toInt64).bind fun S3 => some (0, S3)) (fun e => (if e = 2 then (some (1, q1.2)) else if e = 0 then (some (2, q1.2)) else none))
def f_L_look : Nat → (Option Nat → Int32 → Int32 → Int32 → Option Nat → xS → Option (Int32 × xS))
  | 0 => fun _ _ _ _ _ _ => none
  | d + 1 => fun p0 p1 p2 p3 p4 S => e_L_look d p0 p1 p2 p3 p4 S
def e_L_piece (d : Nat) (p0 : Option Nat) (p1 : Int32) (p2 : Int32) (p3 : Int32) (p4 : Option Nat) (S : xS) : Option (Int32 × xS) := (xobj S p0 0).bind fun _ => (f_P_piece d p0 p1 p2 p3 S).bind fun q1 => xtry q1.1 (fun v2 => (xstL q1.2 p4 1 0 v2.toInt64).bind fun S3 => some (0, S3)) (fun e => (if e = 2 then (some (1, q1.2)) else if e = 0 then (some (2, q1.2)) else none))
def f_L_piece : Nat → (Option Nat → Int32 → Int32 → Int32 → Option Nat → xS → Option (Int32 × xS))
  | 0 => fun _ _ _ _ _ _ => none
  | d + 1 => fun p0 p1 p2 p3 p4 S => e_L_piece d p0 p1 p2 p3 p4 S
def e_L_find (d : Nat) (p0 : Option Nat) (p1 : Int32) (p2 : Int32) (p3 : Int32) (p4 : Option Nat) (S : xS) : Option (Int32 × xS) := (xobj S p0 0).bind fun _ => (f_P_find d p0 p1 p2 p3 S).bind fun q1 => xtry q1.1 (fun v2 => (xstL q1.2 p4 1 0 v2.toInt64).bind fun S3 => some (0, S3)) (fun e => (if e = 2 then (some (1, q1.2)) else none))
def f_L_find : Nat → (Option Nat → Int32 → Int32 → Int32 → Option Nat → xS → Option (Int32 × xS))
  | 0 => fun _ _ _ _ _ _ => none
  | d + 1 => fun p0 p1 p2 p3 p4 S => e_L_find d p0 p1 p2 p3 p4 S
def e_L_differ (d : Nat) (p0 : Option Nat) (p1 : Int32) (p2 : Int32) (p3 : Option Nat) (S : xS) : Option (Int32 × xS) := (xobj S p0 0).bind fun _ => (f_P_differ d p0 p1 p2 S).bind fun q1 => xtry q1.1 (fun v2 => (xstL q1.2 p3 1 0 v2.toInt64).bind fun S3 => some (0, S3)) (fun e => (if e = 2 then (some (1, q1.2)) else none))
def f_L_differ : Nat → (Option Nat → Int32 → Int32 → Option Nat → xS → Option (Int32 × xS))
  | 0 => fun _ _ _ _ _ => none
  | d + 1 => fun p0 p1 p2 p3 S => e_L_differ d p0 p1 p2 p3 S
def b_L_law_1082 (sc : Nat × Nat × (Nat → Int32)) (d : Nat) (k23 : Option Nat → Option Nat → Option Nat → Int32 → xS → Option (Int32 × xS)) (x1 : Option Nat) (x2 : Option Nat) (x3 : Option Nat) (x4 : Int32) (S : xS) : Option (Int32 × xS) := k23 x1 x2 x3 (x4 + 6) S
def b_L_law_1054 (sc : Nat × Nat × (Nat → Int32)) (d : Nat) (k23 : Option Nat → Option Nat → Option Nat → Int32 → xS → Option (Int32 × xS)) (x1 : Option Nat) (x2 : Option Nat) (x3 : Option Nat) (x4 : Int32) (S : xS) : Option (Int32 × xS) := b_L_law_1082 sc d k23 x1 x2 x3 x4 S
def b_L_law_986 (sc : Nat × Nat × (Nat → Int32)) (d : Nat) (k23 : Option Nat → Option Nat → Option Nat → Int32 → xS → Option (Int32 × xS)) (x1 : Option Nat) (x2 : Option Nat) (x3 : Option Nat) (x4 : Int32) (S : xS) : Option (Int32 × xS) := b_L_law_1082 sc d k23 x1 x2 x3 x4 S
def b_L_law_906 (sc : Nat × Nat × (Nat → Int32)) (d : Nat) (k23 : Option Nat → Option Nat → Option Nat → Int32 → xS → Option (Int32 × xS)) (x1 : Option Nat) (x2 : Option Nat) (x3 : Option Nat) (x4 : Int32) (S : xS) : Option (Int32 × xS) := b_L_law_1082 sc d k23 x1 x2 x3 x4 S
def b_L_law_826 (sc : Nat × Nat × (Nat → Int32)) (d : Nat) (k23 : Option Nat → Option Nat → Option Nat → Int32 → xS → Option (Int32 × xS)) (x1 : Option Nat) (x2 : Option Nat) (x3 : Option Nat) (x4 : Int32) (S : xS) : Option (Int32 × xS) := b_L_law_1082 sc d k23 x1 x2 x3 x4 S
def b_L_law_721 (sc : Nat × Nat × (Nat → Int32)) (d : Nat) (k23 : Option Nat → Option Nat → Option Nat → Int32 → xS → Option (Int32 × xS)) (x1 : Option Nat) (x2 : Option Nat) (x3 : Option Nat) (x4 : Int32) (S : xS) : Option (Int32 × xS) := b_L_law_1082 sc d k23 x1 x2 x3 x4 S
def b_L_law_665 (sc : Nat × Nat × (Nat → Int32)) (d : Nat) (k23 : Option Nat → Option Nat → Option Nat → Int32 → xS → Option (Int32 × xS)) (x1 : Option Nat) (x2 : Option Nat) (x3 : Option Nat) (x4 : Int32) (S : xS) : Option (Int32 × xS) := b_L_law_1082 sc d k23 x1 x2 x3 x4 S
def b_L_law_561 (sc : Nat × Nat × (Nat → Int32)) (d : Nat) (k23 : Option Nat → Option Nat → Option Nat → Int32 → xS → Option (Int32 × xS)) (x1 : Option Nat) (x2 : Option Nat) (x3 : Option Nat) (x4 : Int32) (S : xS) : Option (Int32 × xS) := b_L_law_1082 sc d k23 x1 x2 x3 x4 S
def b_L_law_469 (sc : Nat × Nat × (Nat → Int32)) (d : Nat) (k23 : Option Nat → Option Nat → Option Nat → Int32 → xS → Option (Int32 × xS)) (x1 : Option Nat) (x2 : Option Nat) (x3 : Option Nat) (x4 : Int32) (S : xS) : Option (Int32 × xS) := b_L_law_1082 sc d k23 x1 x2 x3 x4 S
def b_L_law_389 (sc : Nat × Nat × (Nat → Int32)) (d : Nat) (k23 : Option Nat → Option Nat → Option Nat → Int32 → xS → Option (Int32 × xS)) (x1 : Option Nat) (x2 : Option Nat) (x3 : Option Nat) (x4 : Int32) (S : xS) : Option (Int32 × xS) := b_L_law_1082 sc d k23 x1 x2 x3 x4 S
def b_L_law_297 (sc : Nat × Nat × (Nat → Int32)) (d : Nat) (k23 : Option Nat → Option Nat → Option Nat → Int32 → xS → Option (Int32 × xS)) (x1 : Option Nat) (x2 : Option Nat) (x3 : Option Nat) (x4 : Int32) (S : xS) : Option (Int32 × xS) := b_L_law_1082 sc d k23 x1 x2 x3 x4 S
def b_L_law_193 (sc : Nat × Nat × (Nat → Int32)) (d : Nat) (k23 : Option Nat → Option Nat → Option Nat → Int32 → xS → Option (Int32 × xS)) (x1 : Option Nat) (x2 : Option Nat) (x3 : Option Nat) (x4 : Int32) (S : xS) : Option (Int32 × xS) := b_L_law_1082 sc d k23 x1 x2 x3 x4 S
def b_L_law_23 (sc : Nat × Nat × (Nat → Int32)) (d : Nat) (k23 : Option Nat → Option Nat → Option Nat → Int32 → xS → Option (Int32 × xS)) (x1 : Option Nat) (x2 : Option Nat) (x3 : Option Nat) (x4 : Int32) (S : xS) : Option (Int32 × xS) := (if ((Int32.ofNat sc.2.1) - 6) < x4 then (if 1 = 0 ∨ 1 = 1 then some (1, S) else none) else ((xsld sc x4).bind fun v1 => (if (v1 &&& 15) = 0 then ((xsld sc (x4 + 1)).bind fun v2 => (xsld sc (x4 + 2)).bind fun v3 => (f_L_write d x1 ((v2.toInt64 <<< ((32 : Int32).toInt64 &&& 63)) ||| (v3.toInt64 &&& ((4294967295 : Int64)))) x3 S).bind fun q4 => (xsld sc (x4 + 1)).bind fun v5 => (xsld sc (x4 + 2)).bind fun v6 => (xobj q4.2 x2 5).bind fun _ => (f_M_write d x2 ((v5.toInt64 <<< ((32 : Int32).toInt64 &&& 63)) ||| (v6.toInt64 &&& ((4294967295 : Int64)))) q4.2).bind fun q7 => (xobj q7.2 x2 5).bind fun _ => (f_M_thrown d x2 q7.2).bind fun q8 => (if q8.1 = q4.1 then (if q4.1 = 0 then ((xldL q8.2 x3 1 0).bind fun v9 => (if (lg_cmp v9 q7.1.toInt64) = 0 then (b_L_law_193 sc d k23 x1 x2 x3 x4 q8.2) else (if 0 = 0 ∨ 0 = 1 then some (0, q8.2) else none))) else (b_L_law_193 sc d k23 x1 x2 x3 x4 q8.2)) else (if 0 = 0 ∨ 0 = 1 then some (0, q8.2) else none))) else if (v1 &&& 15) = 1 then ((xsld sc (x4 + 1)).bind fun v10 => (xsld sc (x4 + 2)).bind fun v11 => (xsld sc (x4 + 3)).bind fun v12 => (xsld sc (x4 + 4)).bind fun v13 => (xsld sc (x4 + 5)).bind fun v14 => (f_L_put d x1 v10 v11 v12 v13 v14 x3 S).bind fun q15 => (xsld sc (x4 + 1)).bind fun v16 => (xsld sc (x4 + 2)).bind fun v17 => (xsld sc (x4 + 3)).bind fun v18 => (xsld sc (x4 + 4)).bind fun v19 => (xsld sc (x4 + 5)).bind fun v20 => (xobj q15.2 x2 5).bind fun _ => (f_M_put d x2 v16 v17 v18 v19 v20 q15.2).bind fun q21 => (xobj q21.2 x2 5).bind fun _ => (f_M_thrown d x2 q21.2).bind fun q22 => (if q22.1 = q15.1 then (if q15.1 = 0 then ((xldL q22.2 x3 1 0).bind fun v23 => (if (lg_cmp v23 q21.1.toInt64) = 0 then (b_L_law_297 sc d k23 x1 x2 x3 x4 q22.2) else (if 0 = 0 ∨ 0 = 1 then some (0, q22.2) else none))) else (b_L_law_297 sc d k23 x1 x2 x3 x4 q22.2)) else (if 0 = 0 ∨ 0 = 1 then some (0, q22.2) else none))) else if (v1 &&& 15) = 2 then ((xsld sc (x4 + 1)).bind fun v24 => (xsld sc (x4 + 2)).bind fun v25 => (xsld sc (x4 + 3)).bind fun v26 => (xsld sc (x4 + 4)).bind fun v27 => (f_L_cut d x1 v24 v25 v26 v27 x3 S).bind fun q28 => (xsld sc (x4 + 1)).bind fun v29 => (xsld sc (x4 + 2)).bind fun v30 => (xsld sc (x4 + 3)).bind fun v31 => (xsld sc (x4 + 4)).bind fun v32 => (xobj q28.2 x2 5).bind fun _ => (f_M_cut d x2 v29 v30 v31 v32 q28.2).bind fun q33 => (xobj q33.2 x2 5).bind fun _ => (f_M_thrown d x2 q33.2).bind fun q34 => (if q34.1 = q28.1 then (if q28.1 = 0 then ((xldL q34.2 x3 1 0).bind fun v35 => (if (lg_cmp v35 q33.1.toInt64) = 0 then (b_L_law_389 sc d k23 x1 x2 x3 x4 q34.2) else (if 0 = 0 ∨ 0 = 1 then some (0, q34.2) else none))) else (b_L_law_389 sc d k23 x1 x2 x3 x4 q34.2)) else (if 0 = 0 ∨ 0 = 1 then some (0, q34.2) else none))) else if (v1 &&& 15) = 3 then ((xsld sc (x4 + 1)).bind fun v36 => (xsld sc (x4 + 2)).bind fun v37 => (xsld sc (x4 + 3)).bind fun v38 => (f_L_paste d x1 v36 v37 v38 x3 S).bind fun q39 => (xsld sc (x4 + 1)).bind fun v40 => (xsld sc (x4 + 2)).bind fun v41 => (xsld sc (x4 + 3)).bind fun v42 => (xobj q39.2 x2 5).bind fun _ => (f_M_paste d x2 v40 v41 v42 q39.2).bind fun q43 => (xobj q43.2 x2 5).bind fun _ => (f_M_thrown d x2 q43.2).bind fun q44 => (if q44.1 = q39.1 then (if q39.1 = 0 then ((xldL q44.2 x3 1 0).bind fun v45 => (if (lg_cmp v45 q43.1.toInt64) = 0 then (b_L_law_469 sc d k23 x1 x2 x3 x4 q44.2) else (if 0 = 0 ∨ 0 = 1 then some (0, q44.2) else none))) else (b_L_law_469 sc d k23 x1 x2 x3 x4 q44.2)) else (if 0 = 0 ∨ 0 = 1 then some (0, q44.2) else none))) else if (v1 &&& 15) = 4 then ((xsld sc (x4 + 1)).bind fun v46 => (xsld sc (x4 + 2)).bind fun v47 => (xsld sc (x4 + 3)).bind fun v48 => (xsld sc (x4 + 4)).bind fun v49 => (f_L_copy d x1 v46 v47 v48 v49 x3 S).bind fun q50 => (xsld sc (x4 + 1)).bind fun v51 => (xsld sc (x4 + 2)).bind fun v52 => (xsld sc (x4 + 3)).bind fun v53 => (xsld sc (x4 + 4)).bind fun v54 => (xobj q50.2 x2 5).bind fun _ => (f_M_copy d x2 v51 v52 v53 v54 q50.2).bind fun q55 => (xobj q55.2 x2 5).bind fun _ => (f_M_thrown d x2 q55.2).bind fun q56 => (if q56.1 = q50.1 then (if q50.1 = 0 then ((xldL q56.2 x3 1 0).bind fun v57 => (if (lg_cmp v57 q55.1.toInt64) = 0 then (b_L_law_561 sc d k23 x1 x2 x3 x4 q56.2) else (if 0 = 0 ∨ 0 = 1 then some (0, q56.2) else none))) else (b_L_law_561 sc d k23 x1 x2 x3 x4 q56.2)) else (if 0 = 0 ∨ 0 = 1 then some (0, q56.2) else none))) else if (v1 &&& 15) = 5 then ((xsld sc (x4 + 1)).bind fun v58 => (xsld sc (x4 + 2)).bind fun v59 => (xsld sc (x4 + 3)).bind fun v60 => (xsld sc (x4 + 4)).bind fun v61 => (xsld sc (x4 + 5)).bind fun v62 => (f_L_tag d x1 v58 v59 v60 v61 v62 x3 S).bind fun q63 => (xsld sc (x4 + 1)).bind fun v64 => (xsld sc (x4 + 2)).bind fun v65 => (xsld sc (x4 + 3)).bind fun v66 => (xsld sc (x4 + 4)).bind fun v67 => (xsld sc (x4 + 5)).bind fun v68 => (xobj q63.2 x2 5).bind fun _ => (f_M_tag d x2 v64 v65 v66 v67 v68 q63.2).bind fun q69 => (xobj q69.2 x2 5).bind fun _ => (f_M_thrown d x2 q69.2).bind fun q70 => (if q70.1 = q63.1 then (if q63.1 = 0 then ((xldL q70.2 x3 1 0).bind fun v71 => (if (lg_cmp v71 q69.1.toInt64) = 0 then (b_L_law_665 sc d k23 x1 x2 x3 x4 q70.2) else (if 0 = 0 ∨ 0 = 1 then some (0, q70.2) else none))) else (b_L_law_665 sc d k23 x1 x2 x3 x4 q70.2)) else (if 0 = 0 ∨ 0 = 1 then some (0, q70.2) else none))) else if (v1 &&& 15) = 6 then ((xsld sc (x4 + 1)).bind fun v72 => (f_L_wipe d x1 v72 x3 S).bind fun q73 => (xsld sc (x4 + 1)).bind fun v74 => (xobj q73.2 x2 5).bind fun _ => (f_M_wipe d x2 v74 q73.2).bind fun q75 => (xobj q75.2 x2 5).bind fun _ => (f_M_thrown d x2 q75.2).bind fun q76 => (if q76.1 = q73.1 then (if q73.1 = 0 then ((xldL q76.2 x3 1 0).bind fun v77 => (if (lg_cmp v77 q75.1.toInt64) = 0 then (b_L_law_721 sc d k23 x1 x2 x3 x4 q76.2) else (if 0 = 0 ∨ 0 = 1 then some (0, q76.2) else none))) else (b_L_law_721 sc d k23 x1 x2 x3 x4 q76.2)) else (if 0 = 0 ∨ 0 = 1 then some (0, q76.2) else none))) else if (v1 &&& 15) = 7 then ((xsld sc (x4 + 1)).bind fun v78 => (xobj S x1 0).bind fun _ => (f_P_length d x1 v78 S).bind fun q79 => (xsld sc (x4 + 1)).bind fun v80 => (xobj q79.2 x2 5).bind fun _ => (f_M_length d x2 v80 q79.2).bind fun q81 => (if q79.1 = q81.1 then (b_L_law_1082 sc d k23 x1 x2 x3 x4 q81.2) else (if 0 = 0 ∨ 0 = 1 then some (0, q81.2) else none))) else if (v1 &&& 15) = 8 then ((xsld sc (x4 + 1)).bind fun v82 => (xsld sc (x4 + 2)).bind fun v83 => (xsld sc (x4 + 3)).bind fun v84 => (f_L_look d x1 v82 v83 v84 x3 S).bind fun q85 => (xsld sc (x4 + 1)).bind fun v86 => (xsld sc (x4 + 2)).bind fun v87 => (xsld sc (x4 + 3)).bind fun v88 => (xobj q85.2 x2 5).bind fun _ => (f_M_look d x2 v86 v87 v88 q85.2).bind fun q89 => (xobj q89.2 x2 5).bind fun _ => (f_M_thrown d x2 q89.2).bind fun q90 => (if q90.1 = q85.1 then (if q85.1 = 0 then ((xldL q90.2 x3 1 0).bind fun v91 => (if (lg_cmp v91 q89.1.toInt64) = 0 then (b_L_law_826 sc d k23 x1 x2 x3 x4 q90.2) else (if 0 = 0 ∨ 0 = 1 then some (0, q90.2) else none))) else (b_L_law_826 sc d k23 x1 x2 x3 x4 q90.2)) else (if 0 = 0 ∨ 0 = 1 then some (0, q90.2) else none))) else if (v1 &&& 15) = 9 then ((xsld sc (x4 + 1)).bind fun v92 => (xsld sc (x4 + 2)).bind fun v93 => (xsld sc (x4 + 3)).bind fun v94 => (f_L_piece d x1 v92 v93 v94 x3 S).bind fun q95 => (xsld sc (x4 + 1)).bind fun v96 => (xsld sc (x4 + 2)).bind fun v97 => (xsld sc (x4 + 3)).bind fun v98 => (xobj q95.2 x2 5).bind fun _ => (f_M_piece d x2 v96 v97 v98 q95.2).bind fun q99 => (xobj q99.2 x2 5).bind fun _ => (f_M_thrown d x2 q99.2).bind fun q100 => (if q100.1 = q95.1 then (if q95.1 = 0 then ((xldL q100.2 x3 1 0).bind fun v101 => (if (lg_cmp v101 q99.1.toInt64) = 0 then (b_L_law_906 sc d k23 x1 x2 x3 x4 q100.2) else (if 0 = 0 ∨ 0 = 1 then some (0, q100.2) else none))) else (b_L_law_906 sc d k23 x1 x2 x3 x4 q100.2)) else (if 0 = 0 ∨ 0 = 1 then some (0, q100.2) else none))) else if (v1 &&& 15) = 10 then ((xsld sc (x4 + 1)).bind fun v102 => (xsld sc (x4 + 2)).bind fun v103 => (xsld sc (x4 + 3)).bind fun v104 => (f_L_find d x1 v102 v103 v104 x3 S).bind fun q105 => (xsld sc (x4 + 1)).bind fun v106 => (xsld sc (x4 + 2)).bind fun v107 => (xsld sc (x4 + 3)).bind fun v108 => (xobj q105.2 x2 5).bind fun _ => (f_M_find d x2 v106 v107 v108 q105.2).bind fun q109 => (xobj q109.2 x2 5).bind fun _ => (f_M_thrown d x2 q109.2).bind fun q110 => (if q110.1 = q105.1 then (if q105.1 = 0 then ((xldL q110.2 x3 1 0).bind fun v111 => (if (lg_cmp v111 q109.1.toInt64) = 0 then (b_L_law_986 sc d k23 x1 x2 x3 x4 q110.2) else (if 0 = 0 ∨ 0 = 1 then some (0, q110.2) else none))) else (b_L_law_986 sc d k23 x1 x2 x3 x4 q110.2)) else (if 0 = 0 ∨ 0 = 1 then some (0, q110.2) else none))) else if (v1 &&& 15) = 11 then ((xsld sc (x4 + 1)).bind fun v112 => (xsld sc (x4 + 2)).bind fun v113 => (f_L_differ d x1 v112 v113 x3 S).bind fun q114 => (xsld sc (x4 + 1)).bind fun v115 => (xsld sc (x4 + 2)).bind fun v116 => (xobj q114.2 x2 5).bind fun _ => (f_M_differ d x2 v115 v116 q114.2).bind fun q117 => (xobj q117.2 x2 5).bind fun _ => (f_M_thrown d x2 q117.2).bind fun q118 => (if q118.1 = q114.1 then (if q114.1 = 0 then ((xldL q118.2 x3 1 0).bind fun v119 => (if (lg_cmp v119 q117.1.toInt64) = 0 then (b_L_law_1054 sc d k23 x1 x2 x3 x4 q118.2) else (if 0 = 0 ∨ 0 = 1 then some (0, q118.2) else none))) else (b_L_law_1054 sc d k23 x1 x2 x3 x4 q118.2)) else (if 0 = 0 ∨ 0 = 1 then some (0, q118.2) else none))) else if (v1 &&& 15) = 12 then ((xsld sc (x4 + 1)).bind fun v120 => (xobj S x1 0).bind fun _ => (f_P_count d x1 v120 S).bind fun q121 => (xsld sc (x4 + 1)).bind fun v122 => (xobj q121.2 x2 5).bind fun _ => (f_M_count d x2 v122 q121.2).bind fun q123 => (if q121.1 = q123.1 then (b_L_law_1082 sc d k23 x1 x2 x3 x4 q123.2) else (if 0 = 0 ∨ 0 = 1 then some (0, q123.2) else none))) else (b_L_law_1082 sc d k23 x1 x2 x3 x4 S))))
def l_L_law_23 (sc : Nat × Nat × (Nat → Int32)) (d : Nat) : Nat → (Option Nat → Option Nat → Option Nat → Int32 → xS → Option (Int32 × xS))
  | 0 => fun _ _ _ _ _ => none
  | n + 1 => fun x1 x2 x3 x4 S => b_L_law_23 sc d (l_L_law_23 sc d n) x1 x2 x3 x4 S
def e_L_law (sc : Nat × Nat × (Nat → Int32)) (d : Nat)  (S : xS) : Option (Int32 × xS) := (xnew S 0 [.null, .int 0, .null, .null]).bind fun q1 => (f_P_init d (some q1.1) q1.2).bind fun q2 => (xnew q2.2 5 [.int 0, .int 0, .null, .null, .null, .null, .null, .null]).bind fun q3 => (f_M_init d (some q3.1) q3.2).bind fun q4 => (xnewa q4.2 1 1 (.inr (.inl (fun _ => 0)))).bind fun q5 => l_L_law_23 sc d xN (some q1.1) (some q3.1) (some q5.1) 0 q5.2
def f_L_law (sc : Nat × Nat × (Nat → Int32)) : Nat → (xS → Option (Int32 × xS))
  | 0 => fun _ => none
  | d + 1 => fun S => e_L_law sc d S
end
section
set_option maxRecDepth 100000 in
set_option maxHeartbeats 4000000 in
theorem tb_R_charactersOf_12 {D : xD} {d : Nat} {S0 : xS} : ∀ (y0 : Int32) (S : xS) (z : Int32 × xS), b_R_charactersOf_12 d y0 S = some z → V m_R_charactersOf D (d + 1) S0 (cvI z) 12 [] [.int y0] S := by
  intro y0 S z h
  unfold b_R_charactersOf_12 at h
  cases h
  exact x_iret rfl d_R_charactersOf_12
set_option maxRecDepth 100000 in
set_option maxHeartbeats 4000000 in
theorem te_R_charactersOf {D : xD} {d : Nat} {S0 : xS} : ∀ (p0 : Option Nat) (S : xS) (z : Int32 × xS), e_R_charactersOf d p0 S = some z → V m_R_charactersOf D (d + 1) S0 (cvI z) 0 [(0, .inr (.inr p0))] [] S := by
  intro p0 S z h
  unfold e_R_charactersOf at h
  refine x_aload_n 0 d_R_charactersOf_0 rfl rfl ?_
  refine x_ifnonnull (tgt := 8) d_R_charactersOf_1 (by decide) h (fun _ _ h => ?_) (fun _ h => ?_)
  · refine x_aload_n 0 d_R_charactersOf_8 rfl rfl ?_
    refine x_getI (host := (some "PieceTexts")) h hc_2 hi_2 (by decide) wf_R_18 d_R_charactersOf_9 (fun v2 h => ?_)
    refine x_ls [] rfl ?_
    exact tb_R_charactersOf_12 v2 S _ h
  · refine x_iconst (v := 0) d_R_charactersOf_4 (by decide) ?_
    refine x_goto (tgt := 12) d_R_charactersOf_5 (by decide) ?_
    refine x_ls [] rfl ?_
    exact tb_R_charactersOf_12 0 S _ h
theorem s_R_charactersOf : ∀ (d : Nat) (p0 : Option Nat) (S : xS) (z : Int32 × xS), f_R_charactersOf d p0 S = some z → ∀ (l : Launch) (D : xD), xMet l m_R_charactersOf D d [.inr (.inr p0)] S (cvI z) := by
  intro d
  induction d with
  | zero =>
    intro p0 S z h
    cases h
  | succ d ih =>
    intro p0 S z h l D
    exact x_ofV rfl (by decide) (Nat.le_of_ble_eq_true rfl) (te_R_charactersOf  p0 S z h)
set_option maxRecDepth 100000 in
set_option maxHeartbeats 4000000 in
theorem tb_R_piecesOf_12 {D : xD} {d : Nat} {S0 : xS} : ∀ (y0 : Int32) (S : xS) (z : Int32 × xS), b_R_piecesOf_12 d y0 S = some z → V m_R_piecesOf D (d + 1) S0 (cvI z) 12 [] [.int y0] S := by
  intro y0 S z h
  unfold b_R_piecesOf_12 at h
  cases h
  exact x_iret rfl d_R_piecesOf_12
set_option maxRecDepth 100000 in
set_option maxHeartbeats 4000000 in
theorem te_R_piecesOf {D : xD} {d : Nat} {S0 : xS} : ∀ (p0 : Option Nat) (S : xS) (z : Int32 × xS), e_R_piecesOf d p0 S = some z → V m_R_piecesOf D (d + 1) S0 (cvI z) 0 [(0, .inr (.inr p0))] [] S := by
  intro p0 S z h
  unfold e_R_piecesOf at h
  refine x_aload_n 0 d_R_piecesOf_0 rfl rfl ?_
  refine x_ifnonnull (tgt := 8) d_R_piecesOf_1 (by decide) h (fun _ _ h => ?_) (fun _ h => ?_)
  · refine x_aload_n 0 d_R_piecesOf_8 rfl rfl ?_
    refine x_getI (host := (some "PieceTexts")) h hc_2 hi_2 (by decide) wf_R_15 d_R_piecesOf_9 (fun v2 h => ?_)
    refine x_ls [] rfl ?_
    exact tb_R_piecesOf_12 v2 S _ h
  · refine x_iconst (v := 0) d_R_piecesOf_4 (by decide) ?_
    refine x_goto (tgt := 12) d_R_piecesOf_5 (by decide) ?_
    refine x_ls [] rfl ?_
    exact tb_R_piecesOf_12 0 S _ h
theorem s_R_piecesOf : ∀ (d : Nat) (p0 : Option Nat) (S : xS) (z : Int32 × xS), f_R_piecesOf d p0 S = some z → ∀ (l : Launch) (D : xD), xMet l m_R_piecesOf D d [.inr (.inr p0)] S (cvI z) := by
  intro d
  induction d with
  | zero =>
    intro p0 S z h
    cases h
  | succ d ih =>
    intro p0 S z h l D
    exact x_ofV rfl (by decide) (Nat.le_of_ble_eq_true rfl) (te_R_piecesOf  p0 S z h)
set_option maxRecDepth 100000 in
set_option maxHeartbeats 4000000 in
theorem tb_R_orderAt_92 {D : xD} {d : Nat} {S0 : xS} {k7 : Int32 → Int32 → Option Nat → xS → Option (Int32 × xS)} (hk7 : ∀ (x2 : Int32) (x3 : Int32) (x4 : Option Nat)  (S : xS) (z : Int32 × xS), k7 x2 x3 x4 S = some z → V m_R_orderAt D (d + 1) S0 (cvI z) 7 [(2, .inl x2), (3, .inl x3), (4, .inr (.inr x4))] [] S) : ∀ (x2 : Int32) (x3 : Int32) (x4 : Option Nat) (S : xS) (z : Int32 × xS), b_R_orderAt_92 d k7 x2 x3 x4 S = some z → V m_R_orderAt D (d + 1) S0 (cvI z) 92 [(2, .inl x2), (3, .inl x3), (4, .inr (.inr x4))] [] S := by
  intro x2 x3 x4 S z h
  unfold b_R_orderAt_92 at h
  refine x_goto (tgt := 7) d_R_orderAt_92 (by decide) ?_
  refine x_ls [0, 1, 2] rfl ?_
  exact hk7 x2 x3 x4 S _ h
set_option maxRecDepth 100000 in
set_option maxHeartbeats 4000000 in
theorem tb_R_orderAt_7 {D : xD} {d : Nat} {S0 : xS} {k7 : Int32 → Int32 → Option Nat → xS → Option (Int32 × xS)} (hk7 : ∀ (x2 : Int32) (x3 : Int32) (x4 : Option Nat)  (S : xS) (z : Int32 × xS), k7 x2 x3 x4 S = some z → V m_R_orderAt D (d + 1) S0 (cvI z) 7 [(2, .inl x2), (3, .inl x3), (4, .inr (.inr x4))] [] S) : ∀ (x2 : Int32) (x3 : Int32) (x4 : Option Nat) (S : xS) (z : Int32 × xS), b_R_orderAt_7 d k7 x2 x3 x4 S = some z → V m_R_orderAt D (d + 1) S0 (cvI z) 7 [(2, .inl x2), (3, .inl x3), (4, .inr (.inr x4))] [] S := by
  intro x2 x3 x4 S z h
  unfold b_R_orderAt_7 at h
  refine x_aload 2 d_R_orderAt_7 rfl ?_
  refine x_ifnull (tgt := 95) d_R_orderAt_9 (by decide) h (fun _ h => ?_) (fun _ _ h => ?_)
  · refine x_iload_n 0 d_R_orderAt_95 rfl rfl ?_
    cases h
    exact x_iret rfl d_R_orderAt_96
  · refine x_aload 2 d_R_orderAt_12 rfl ?_
    refine x_getR (host := (some "PieceTexts")) h hc_2 hi_2 (by decide) wf_R_21 d_R_orderAt_14 (fun v2 h => ?_)
    refine x_callS' (M' := m_R_charactersOf) (ax := [.inr (.inr v2)]) (cv := cvI) (host := none) (st := []) h (fun q h l => s_R_charactersOf d v2 S q h l D) rfl d_R_orderAt_17 wm_R_25 wc_R_charactersOf rfl (Nat.le_of_ble_eq_true rfl) (fun q3 h => ?_)
    show V _ _ _ _ _ _ _ (.int q3.1 :: []) _
    refine x_istore (lv' := [(5, .inl q3.1), (2, .inl x2), (3, .inl x3), (4, .inr (.inr x4))]) d_R_orderAt_20 (by decide) rfl ?_
    refine x_iload_n 2 d_R_orderAt_22 rfl rfl ?_
    refine x_iload 0 d_R_orderAt_23 rfl ?_
    refine x_icmp_ge (tgt := 38) d_R_orderAt_25 (by decide) h (fun h => ?_) (fun h => ?_)
    · refine x_iload_n 2 d_R_orderAt_38 rfl rfl ?_
      refine x_iload 0 d_R_orderAt_39 rfl ?_
      refine x_aload 3 d_R_orderAt_41 rfl ?_
      refine x_getI (host := (some "PieceTexts")) h hc_2 hi_2 (by decide) wf_R_31 d_R_orderAt_43 (fun v4 h => ?_)
      refine x_iadd d_R_orderAt_46 ?_
      refine x_icmp_ge (tgt := 61) d_R_orderAt_47 (by decide) h (fun h => ?_) (fun h => ?_)
      · refine x_iload_n 1 d_R_orderAt_61 rfl rfl ?_
        refine x_aload 3 d_R_orderAt_62 rfl ?_
        refine x_getR (host := (some "PieceTexts")) h hc_2 hi_2 (by decide) wf_R_21 d_R_orderAt_64 (fun v5 h => ?_)
        refine x_callS' (M' := m_R_piecesOf) (ax := [.inr (.inr v5)]) (cv := cvI) (host := none) (st := [.int x2]) h (fun q h l => s_R_piecesOf d v5 q3.2 q h l D) rfl d_R_orderAt_67 wm_R_34 wc_R_piecesOf rfl (Nat.le_of_ble_eq_true rfl) (fun q6 h => ?_)
        show V _ _ _ _ _ _ _ (.int q6.1 :: .int x2 :: []) _
        refine x_iconst (v := 1) d_R_orderAt_70 (by decide) ?_
        refine x_iadd d_R_orderAt_71 ?_
        refine x_iadd d_R_orderAt_72 ?_
        refine x_istore_n (lv' := [(2, .inl (x2 + (q6.1 + 1))), (5, .inl q3.1), (3, .inl x3), (4, .inr (.inr x4))]) d_R_orderAt_73 rfl (by decide) rfl ?_
        refine x_iload_n 2 d_R_orderAt_74 rfl rfl ?_
        refine x_iload 1 d_R_orderAt_75 rfl ?_
        refine x_aload 3 d_R_orderAt_77 rfl ?_
        refine x_getI (host := (some "PieceTexts")) h hc_2 hi_2 (by decide) wf_R_31 d_R_orderAt_79 (fun v7 h => ?_)
        refine x_iadd d_R_orderAt_82 ?_
        refine x_isub d_R_orderAt_83 ?_
        refine x_istore_n (lv' := [(3, .inl (x3 - (q3.1 + v7))), (2, .inl (x2 + (q6.1 + 1))), (5, .inl q3.1), (4, .inr (.inr x4))]) d_R_orderAt_84 rfl (by decide) rfl ?_
        refine x_aload 3 d_R_orderAt_85 rfl ?_
        refine x_getR (host := (some "PieceTexts")) h hc_2 hi_2 (by decide) wf_R_37 d_R_orderAt_87 (fun v8 h => ?_)
        refine x_astore (lv' := [(4, .inr (.inr v8)), (3, .inl (x3 - (q3.1 + v7))), (2, .inl (x2 + (q6.1 + 1))), (5, .inl q3.1)]) d_R_orderAt_90 (by decide) rfl ?_
        refine x_ls [2, 1, 0] rfl ?_
        exact tb_R_orderAt_92 hk7 (x2 + (q6.1 + 1)) (x3 - (q3.1 + v7)) v8 q6.2 _ h
      · refine x_iload_n 1 d_R_orderAt_50 rfl rfl ?_
        refine x_aload 3 d_R_orderAt_51 rfl ?_
        refine x_getR (host := (some "PieceTexts")) h hc_2 hi_2 (by decide) wf_R_21 d_R_orderAt_53 (fun v9 h => ?_)
        refine x_callS' (M' := m_R_piecesOf) (ax := [.inr (.inr v9)]) (cv := cvI) (host := none) (st := [.int x2]) h (fun q h l => s_R_piecesOf d v9 q3.2 q h l D) rfl d_R_orderAt_56 wm_R_34 wc_R_piecesOf rfl (Nat.le_of_ble_eq_true rfl) (fun q10 h => ?_)
        show V _ _ _ _ _ _ _ (.int q10.1 :: .int x2 :: []) _
        refine x_iadd d_R_orderAt_59 ?_
        cases h
        exact x_iret rfl d_R_orderAt_60
    · refine x_aload 3 d_R_orderAt_28 rfl ?_
      refine x_getR (host := (some "PieceTexts")) h hc_2 hi_2 (by decide) wf_R_21 d_R_orderAt_30 (fun v11 h => ?_)
      refine x_astore (lv' := [(4, .inr (.inr v11)), (5, .inl q3.1), (2, .inl x2), (3, .inl x3)]) d_R_orderAt_33 (by decide) rfl ?_
      refine x_goto (tgt := 92) d_R_orderAt_35 (by decide) ?_
      refine x_ls [2, 3, 0] rfl ?_
      exact tb_R_orderAt_92 hk7 x2 x3 v11 q3.2 _ h
theorem tl_R_orderAt_7 {D : xD} {d : Nat} {S0 : xS} : ∀ (n : Nat) (x2 : Int32) (x3 : Int32) (x4 : Option Nat) (S : xS) (z : Int32 × xS), l_R_orderAt_7 d n x2 x3 x4 S = some z → V m_R_orderAt D (d + 1) S0 (cvI z) 7 [(2, .inl x2), (3, .inl x3), (4, .inr (.inr x4))] [] S := by
  intro n
  induction n with
  | zero =>
    intro x2 x3 x4 S z h
    cases h
  | succ n ih =>
    intro x2 x3 x4 S z h
    exact tb_R_orderAt_7  ih x2 x3 x4 S z h
set_option maxRecDepth 100000 in
set_option maxHeartbeats 4000000 in
theorem te_R_orderAt {D : xD} {d : Nat} {S0 : xS} : ∀ (p0 : Option Nat) (p1 : Int32) (S : xS) (z : Int32 × xS), e_R_orderAt d p0 p1 S = some z → V m_R_orderAt D (d + 1) S0 (cvI z) 0 [(0, .inr (.inr p0)), (1, .inl p1)] [] S := by
  intro p0 p1 S z h
  unfold e_R_orderAt at h
  refine x_iconst (v := 0) d_R_orderAt_0 (by decide) ?_
  refine x_istore_n (lv' := [(2, .inl 0), (0, .inr (.inr p0)), (1, .inl p1)]) d_R_orderAt_1 rfl (by decide) rfl ?_
  refine x_iload_n 2 d_R_orderAt_2 rfl rfl ?_
  refine x_istore_n (lv' := [(3, .inl p1), (2, .inl 0), (0, .inr (.inr p0)), (1, .inl p1)]) d_R_orderAt_3 rfl (by decide) rfl ?_
  refine x_aload_n 2 d_R_orderAt_4 rfl rfl ?_
  refine x_astore (lv' := [(4, .inr (.inr p0)), (3, .inl p1), (2, .inl 0), (0, .inr (.inr p0)), (1, .inl p1)]) d_R_orderAt_5 (by decide) rfl ?_
  refine x_ls [2, 1, 0] rfl ?_
  exact tl_R_orderAt_7 xN 0 p1 p0 S _ h
theorem s_R_orderAt : ∀ (d : Nat) (p0 : Option Nat) (p1 : Int32) (S : xS) (z : Int32 × xS), f_R_orderAt d p0 p1 S = some z → ∀ (l : Launch) (D : xD), xMet l m_R_orderAt D d [.inr (.inr p0), .inl p1] S (cvI z) := by
  intro d
  induction d with
  | zero =>
    intro p0 p1 S z h
    cases h
  | succ d ih =>
    intro p0 p1 S z h l D
    exact x_ofV rfl (by decide) (Nat.le_of_ble_eq_true rfl) (te_R_orderAt  p0 p1 S z h)
set_option maxRecDepth 100000 in
set_option maxHeartbeats 4000000 in
theorem tb_Y_before_18 {D : xD} {d : Nat} {S0 : xS} : ∀ (y0 : Int32) (S : xS) (z : Int32 × xS), b_Y_before_18 d y0 S = some z → V m_Y_before D (d + 1) S0 (cvI z) 18 [] [.int y0] S := by
  intro y0 S z h
  unfold b_Y_before_18 at h
  cases h
  exact x_iret rfl d_Y_before_18
set_option maxRecDepth 100000 in
set_option maxHeartbeats 4000000 in
theorem te_Y_before {D : xD} {d : Nat} {S0 : xS} : ∀ (p0 : Option Nat) (p1 : Int32) (S : xS) (z : Int32 × xS), e_Y_before d p0 p1 S = some z → V m_Y_before D (d + 1) S0 (cvI z) 0 [(0, .inr (.inr p0)), (1, .inl p1)] [] S := by
  intro p0 p1 S z h
  unfold e_Y_before at h
  refine x_iload_n 1 d_Y_before_0 rfl rfl ?_
  refine x_iconst (v := 1) d_Y_before_1 (by decide) ?_
  refine x_icmp_ge (tgt := 9) d_Y_before_2 (by decide) h (fun h => ?_) (fun h => ?_)
  · refine x_aload_n 0 d_Y_before_9 rfl rfl ?_
    refine x_iload_n 1 d_Y_before_10 rfl rfl ?_
    refine x_iconst (v := 1) d_Y_before_11 (by decide) ?_
    refine x_isub d_Y_before_12 ?_
    refine x_callS' (M' := m_R_orderAt) (ax := [.inr (.inr p0), .inl (p1 - 1)]) (cv := cvI) (host := (some "PieceTexts")) (st := []) h (fun q h l => s_R_orderAt d p0 (p1 - 1) S q h l D) rfl d_Y_before_13 wm_Y_46 wc_R_orderAt rfl (Nat.le_of_ble_eq_true rfl) (fun q1 h => ?_)
    show V _ _ _ _ _ _ _ (.int q1.1 :: []) _
    refine x_iconst (v := 1) d_Y_before_16 (by decide) ?_
    refine x_iadd d_Y_before_17 ?_
    refine x_ls [] rfl ?_
    exact tb_Y_before_18 (q1.1 + 1) q1.2 _ h
  · refine x_iconst (v := 0) d_Y_before_5 (by decide) ?_
    refine x_goto (tgt := 18) d_Y_before_6 (by decide) ?_
    refine x_ls [] rfl ?_
    exact tb_Y_before_18 0 S _ h
theorem s_Y_before : ∀ (d : Nat) (p0 : Option Nat) (p1 : Int32) (S : xS) (z : Int32 × xS), f_Y_before d p0 p1 S = some z → ∀ (l : Launch) (D : xD), xMet l m_Y_before D d [.inr (.inr p0), .inl p1] S (cvI z) := by
  intro d
  induction d with
  | zero =>
    intro p0 p1 S z h
    cases h
  | succ d ih =>
    intro p0 p1 S z h l D
    exact x_ofV rfl (by decide) (Nat.le_of_ble_eq_true rfl) (te_Y_before  p0 p1 S z h)
set_option maxRecDepth 100000 in
set_option maxHeartbeats 4000000 in
theorem te_Y_behind {D : xD} {d : Nat} {S0 : xS} : ∀ (p0 : Option Nat) (p1 : Int32) (S : xS) (z : Int32 × xS), e_Y_behind d p0 p1 S = some z → V m_Y_behind D (d + 1) S0 (cvI z) 0 [(0, .inr (.inr p0)), (1, .inl p1)] [] S := by
  intro p0 p1 S z h
  unfold e_Y_behind at h
  refine x_aload_n 0 d_Y_behind_0 rfl rfl ?_
  refine x_callS' (M' := m_R_piecesOf) (ax := [.inr (.inr p0)]) (cv := cvI) (host := (some "PieceTexts")) (st := []) h (fun q h l => s_R_piecesOf d p0 S q h l D) rfl d_Y_behind_1 wm_Y_35 wc_R_piecesOf rfl (Nat.le_of_ble_eq_true rfl) (fun q1 h => ?_)
  show V _ _ _ _ _ _ _ (.int q1.1 :: []) _
  refine x_aload_n 0 d_Y_behind_4 rfl rfl ?_
  refine x_iload_n 1 d_Y_behind_5 rfl rfl ?_
  refine x_callS' (M' := m_R_orderAt) (ax := [.inr (.inr p0), .inl p1]) (cv := cvI) (host := (some "PieceTexts")) (st := [.int q1.1]) h (fun q h l => s_R_orderAt d p0 p1 q1.2 q h l D) rfl d_Y_behind_6 wm_Y_46 wc_R_orderAt rfl (Nat.le_of_ble_eq_true rfl) (fun q2 h => ?_)
  show V _ _ _ _ _ _ _ (.int q2.1 :: .int q1.1 :: []) _
  refine x_isub d_Y_behind_9 ?_
  cases h
  exact x_iret rfl d_Y_behind_10
theorem s_Y_behind : ∀ (d : Nat) (p0 : Option Nat) (p1 : Int32) (S : xS) (z : Int32 × xS), f_Y_behind d p0 p1 S = some z → ∀ (l : Launch) (D : xD), xMet l m_Y_behind D d [.inr (.inr p0), .inl p1] S (cvI z) := by
  intro d
  induction d with
  | zero =>
    intro p0 p1 S z h
    cases h
  | succ d ih =>
    intro p0 p1 S z h l D
    exact x_ofV rfl (by decide) (Nat.le_of_ble_eq_true rfl) (te_Y_behind  p0 p1 S z h)
set_option maxRecDepth 100000 in
set_option maxHeartbeats 4000000 in
theorem tb_R_numbered_51 {D : xD} {d : Nat} {S0 : xS} {k4 : Int32 → Option Nat → xS → Option (Option Nat × xS)} (hk4 : ∀ (x2 : Int32) (x3 : Option Nat)  (S : xS) (z : Option Nat × xS), k4 x2 x3 S = some z → V m_R_numbered D (d + 1) S0 (cvR z) 4 [(2, .inl x2), (3, .inr (.inr x3))] [] S) : ∀ (x2 : Int32) (x3 : Option Nat) (S : xS) (z : Option Nat × xS), b_R_numbered_51 d k4 x2 x3 S = some z → V m_R_numbered D (d + 1) S0 (cvR z) 51 [(2, .inl x2), (3, .inr (.inr x3))] [] S := by
  intro x2 x3 S z h
  unfold b_R_numbered_51 at h
  refine x_goto (tgt := 4) d_R_numbered_51 (by decide) ?_
  refine x_ls [0, 1] rfl ?_
  exact hk4 x2 x3 S _ h
set_option maxRecDepth 100000 in
set_option maxHeartbeats 4000000 in
theorem tb_R_numbered_4 {D : xD} {d : Nat} {S0 : xS} {k4 : Int32 → Option Nat → xS → Option (Option Nat × xS)} (hk4 : ∀ (x2 : Int32) (x3 : Option Nat)  (S : xS) (z : Option Nat × xS), k4 x2 x3 S = some z → V m_R_numbered D (d + 1) S0 (cvR z) 4 [(2, .inl x2), (3, .inr (.inr x3))] [] S) : ∀ (x2 : Int32) (x3 : Option Nat) (S : xS) (z : Option Nat × xS), b_R_numbered_4 d k4 x2 x3 S = some z → V m_R_numbered D (d + 1) S0 (cvR z) 4 [(2, .inl x2), (3, .inr (.inr x3))] [] S := by
  intro x2 x3 S z h
  unfold b_R_numbered_4 at h
  refine x_aload_n 1 d_R_numbered_4 rfl rfl ?_
  refine x_ifnull (tgt := 54) d_R_numbered_5 (by decide) h (fun _ h => ?_) (fun _ _ h => ?_)
  · refine x_null d_R_numbered_54 ?_
    cases h
    exact x_aret rfl d_R_numbered_55
  · refine x_aload_n 1 d_R_numbered_8 rfl rfl ?_
    refine x_getR (host := (some "PieceTexts")) h hc_2 hi_2 (by decide) wf_R_21 d_R_numbered_9 (fun v2 h => ?_)
    refine x_callS' (M' := m_R_piecesOf) (ax := [.inr (.inr v2)]) (cv := cvI) (host := none) (st := []) h (fun q h l => s_R_piecesOf d v2 S q h l D) rfl d_R_numbered_12 wm_R_34 wc_R_piecesOf rfl (Nat.le_of_ble_eq_true rfl) (fun q3 h => ?_)
    show V _ _ _ _ _ _ _ (.int q3.1 :: []) _
    refine x_istore (lv' := [(4, .inl q3.1), (2, .inl x2), (3, .inr (.inr x3))]) d_R_numbered_15 (by decide) rfl ?_
    refine x_iload_n 1 d_R_numbered_17 rfl rfl ?_
    refine x_iload 0 d_R_numbered_18 rfl ?_
    refine x_icmp_ne (tgt := 25) d_R_numbered_20 (by decide) h (fun h => ?_) (fun h => ?_)
    · refine x_iload_n 1 d_R_numbered_25 rfl rfl ?_
      refine x_iload 0 d_R_numbered_26 rfl ?_
      refine x_icmp_ge (tgt := 39) d_R_numbered_28 (by decide) h (fun h => ?_) (fun h => ?_)
      · refine x_iload_n 1 d_R_numbered_39 rfl rfl ?_
        refine x_iload 0 d_R_numbered_40 rfl ?_
        refine x_iconst (v := 1) d_R_numbered_42 (by decide) ?_
        refine x_iadd d_R_numbered_43 ?_
        refine x_isub d_R_numbered_44 ?_
        refine x_istore_n (lv' := [(2, .inl (x2 - (q3.1 + 1))), (4, .inl q3.1), (3, .inr (.inr x3))]) d_R_numbered_45 rfl (by decide) rfl ?_
        refine x_aload_n 2 d_R_numbered_46 rfl rfl ?_
        refine x_getR (host := (some "PieceTexts")) h hc_2 hi_2 (by decide) wf_R_37 d_R_numbered_47 (fun v4 h => ?_)
        refine x_astore_n (lv' := [(3, .inr (.inr v4)), (2, .inl (x2 - (q3.1 + 1))), (4, .inl q3.1)]) d_R_numbered_50 rfl (by decide) rfl ?_
        refine x_ls [1, 0] rfl ?_
        exact tb_R_numbered_51 hk4 (x2 - (q3.1 + 1)) v4 q3.2 _ h
      · refine x_aload_n 2 d_R_numbered_31 rfl rfl ?_
        refine x_getR (host := (some "PieceTexts")) h hc_2 hi_2 (by decide) wf_R_21 d_R_numbered_32 (fun v5 h => ?_)
        refine x_astore_n (lv' := [(3, .inr (.inr v5)), (4, .inl q3.1), (2, .inl x2)]) d_R_numbered_35 rfl (by decide) rfl ?_
        refine x_goto (tgt := 51) d_R_numbered_36 (by decide) ?_
        refine x_ls [2, 0] rfl ?_
        exact tb_R_numbered_51 hk4 x2 v5 q3.2 _ h
    · refine x_aload_n 2 d_R_numbered_23 rfl rfl ?_
      cases h
      exact x_aret rfl d_R_numbered_24
theorem tl_R_numbered_4 {D : xD} {d : Nat} {S0 : xS} : ∀ (n : Nat) (x2 : Int32) (x3 : Option Nat) (S : xS) (z : Option Nat × xS), l_R_numbered_4 d n x2 x3 S = some z → V m_R_numbered D (d + 1) S0 (cvR z) 4 [(2, .inl x2), (3, .inr (.inr x3))] [] S := by
  intro n
  induction n with
  | zero =>
    intro x2 x3 S z h
    cases h
  | succ n ih =>
    intro x2 x3 S z h
    exact tb_R_numbered_4  ih x2 x3 S z h
set_option maxRecDepth 100000 in
set_option maxHeartbeats 4000000 in
theorem te_R_numbered {D : xD} {d : Nat} {S0 : xS} : ∀ (p0 : Option Nat) (p1 : Int32) (S : xS) (z : Option Nat × xS), e_R_numbered d p0 p1 S = some z → V m_R_numbered D (d + 1) S0 (cvR z) 0 [(0, .inr (.inr p0)), (1, .inl p1)] [] S := by
  intro p0 p1 S z h
  unfold e_R_numbered at h
  refine x_iload_n 1 d_R_numbered_0 rfl rfl ?_
  refine x_istore_n (lv' := [(2, .inl p1), (0, .inr (.inr p0)), (1, .inl p1)]) d_R_numbered_1 rfl (by decide) rfl ?_
  refine x_aload_n 1 d_R_numbered_2 rfl rfl ?_
  refine x_astore_n (lv' := [(3, .inr (.inr p0)), (2, .inl p1), (0, .inr (.inr p0)), (1, .inl p1)]) d_R_numbered_3 rfl (by decide) rfl ?_
  refine x_ls [1, 0] rfl ?_
  exact tl_R_numbered_4 xN p1 p0 S _ h
theorem s_R_numbered : ∀ (d : Nat) (p0 : Option Nat) (p1 : Int32) (S : xS) (z : Option Nat × xS), f_R_numbered d p0 p1 S = some z → ∀ (l : Launch) (D : xD), xMet l m_R_numbered D d [.inr (.inr p0), .inl p1] S (cvR z) := by
  intro d
  induction d with
  | zero =>
    intro p0 p1 S z h
    cases h
  | succ d ih =>
    intro p0 p1 S z h l D
    exact x_ofV rfl (by decide) (Nat.le_of_ble_eq_true rfl) (te_R_numbered  p0 p1 S z h)
set_option maxRecDepth 100000 in
set_option maxHeartbeats 4000000 in
theorem tb_R_startOf_69 {D : xD} {d : Nat} {S0 : xS} {k7 : Int32 → Int32 → Option Nat → xS → Option (Int32 × xS)} (hk7 : ∀ (x2 : Int32) (x3 : Int32) (x4 : Option Nat)  (S : xS) (z : Int32 × xS), k7 x2 x3 x4 S = some z → V m_R_startOf D (d + 1) S0 (cvI z) 7 [(2, .inl x2), (3, .inl x3), (4, .inr (.inr x4))] [] S) : ∀ (x2 : Int32) (x3 : Int32) (x4 : Option Nat) (S : xS) (z : Int32 × xS), b_R_startOf_69 d k7 x2 x3 x4 S = some z → V m_R_startOf D (d + 1) S0 (cvI z) 69 [(2, .inl x2), (3, .inl x3), (4, .inr (.inr x4))] [] S := by
  intro x2 x3 x4 S z h
  unfold b_R_startOf_69 at h
  refine x_goto (tgt := 7) d_R_startOf_69 (by decide) ?_
  refine x_ls [0, 1, 2] rfl ?_
  exact hk7 x2 x3 x4 S _ h
set_option maxRecDepth 100000 in
set_option maxHeartbeats 4000000 in
theorem tb_R_startOf_7 {D : xD} {d : Nat} {S0 : xS} {k7 : Int32 → Int32 → Option Nat → xS → Option (Int32 × xS)} (hk7 : ∀ (x2 : Int32) (x3 : Int32) (x4 : Option Nat)  (S : xS) (z : Int32 × xS), k7 x2 x3 x4 S = some z → V m_R_startOf D (d + 1) S0 (cvI z) 7 [(2, .inl x2), (3, .inl x3), (4, .inr (.inr x4))] [] S) : ∀ (x2 : Int32) (x3 : Int32) (x4 : Option Nat) (S : xS) (z : Int32 × xS), b_R_startOf_7 d k7 x2 x3 x4 S = some z → V m_R_startOf D (d + 1) S0 (cvI z) 7 [(2, .inl x2), (3, .inl x3), (4, .inr (.inr x4))] [] S := by
  intro x2 x3 x4 S z h
  unfold b_R_startOf_7 at h
  refine x_aload 2 d_R_startOf_7 rfl ?_
  refine x_ifnull (tgt := 72) d_R_startOf_9 (by decide) h (fun _ h => ?_) (fun _ _ h => ?_)
  · refine x_iload_n 0 d_R_startOf_72 rfl rfl ?_
    cases h
    exact x_iret rfl d_R_startOf_73
  · refine x_aload 2 d_R_startOf_12 rfl ?_
    refine x_getR (host := (some "PieceTexts")) h hc_2 hi_2 (by decide) wf_R_21 d_R_startOf_14 (fun v2 h => ?_)
    refine x_callS' (M' := m_R_piecesOf) (ax := [.inr (.inr v2)]) (cv := cvI) (host := none) (st := []) h (fun q h l => s_R_piecesOf d v2 S q h l D) rfl d_R_startOf_17 wm_R_34 wc_R_piecesOf rfl (Nat.le_of_ble_eq_true rfl) (fun q3 h => ?_)
    show V _ _ _ _ _ _ _ (.int q3.1 :: []) _
    refine x_istore (lv' := [(5, .inl q3.1), (2, .inl x2), (3, .inl x3), (4, .inr (.inr x4))]) d_R_startOf_20 (by decide) rfl ?_
    refine x_iload_n 2 d_R_startOf_22 rfl rfl ?_
    refine x_iload 0 d_R_startOf_23 rfl ?_
    refine x_icmp_gt (tgt := 38) d_R_startOf_25 (by decide) h (fun h => ?_) (fun h => ?_)
    · refine x_iload_n 1 d_R_startOf_38 rfl rfl ?_
      refine x_aload 3 d_R_startOf_39 rfl ?_
      refine x_getR (host := (some "PieceTexts")) h hc_2 hi_2 (by decide) wf_R_21 d_R_startOf_41 (fun v4 h => ?_)
      refine x_callS' (M' := m_R_charactersOf) (ax := [.inr (.inr v4)]) (cv := cvI) (host := none) (st := [.int x2]) h (fun q h l => s_R_charactersOf d v4 q3.2 q h l D) rfl d_R_startOf_44 wm_R_25 wc_R_charactersOf rfl (Nat.le_of_ble_eq_true rfl) (fun q5 h => ?_)
      show V _ _ _ _ _ _ _ (.int q5.1 :: .int x2 :: []) _
      refine x_aload 3 d_R_startOf_47 rfl ?_
      refine x_getI (host := (some "PieceTexts")) h hc_2 hi_2 (by decide) wf_R_31 d_R_startOf_49 (fun v6 h => ?_)
      refine x_iadd d_R_startOf_52 ?_
      refine x_iadd d_R_startOf_53 ?_
      refine x_istore_n (lv' := [(2, .inl (x2 + (q5.1 + v6))), (5, .inl q3.1), (3, .inl x3), (4, .inr (.inr x4))]) d_R_startOf_54 rfl (by decide) rfl ?_
      refine x_iload_n 2 d_R_startOf_55 rfl rfl ?_
      refine x_iload 1 d_R_startOf_56 rfl ?_
      refine x_iconst (v := 1) d_R_startOf_58 (by decide) ?_
      refine x_iadd d_R_startOf_59 ?_
      refine x_isub d_R_startOf_60 ?_
      refine x_istore_n (lv' := [(3, .inl (x3 - (q3.1 + 1))), (2, .inl (x2 + (q5.1 + v6))), (5, .inl q3.1), (4, .inr (.inr x4))]) d_R_startOf_61 rfl (by decide) rfl ?_
      refine x_aload 3 d_R_startOf_62 rfl ?_
      refine x_getR (host := (some "PieceTexts")) h hc_2 hi_2 (by decide) wf_R_37 d_R_startOf_64 (fun v7 h => ?_)
      refine x_astore (lv' := [(4, .inr (.inr v7)), (3, .inl (x3 - (q3.1 + 1))), (2, .inl (x2 + (q5.1 + v6))), (5, .inl q3.1)]) d_R_startOf_67 (by decide) rfl ?_
      refine x_ls [2, 1, 0] rfl ?_
      exact tb_R_startOf_69 hk7 (x2 + (q5.1 + v6)) (x3 - (q3.1 + 1)) v7 q5.2 _ h
    · refine x_aload 3 d_R_startOf_28 rfl ?_
      refine x_getR (host := (some "PieceTexts")) h hc_2 hi_2 (by decide) wf_R_21 d_R_startOf_30 (fun v8 h => ?_)
      refine x_astore (lv' := [(4, .inr (.inr v8)), (5, .inl q3.1), (2, .inl x2), (3, .inl x3)]) d_R_startOf_33 (by decide) rfl ?_
      refine x_goto (tgt := 69) d_R_startOf_35 (by decide) ?_
      refine x_ls [2, 3, 0] rfl ?_
      exact tb_R_startOf_69 hk7 x2 x3 v8 q3.2 _ h
theorem tl_R_startOf_7 {D : xD} {d : Nat} {S0 : xS} : ∀ (n : Nat) (x2 : Int32) (x3 : Int32) (x4 : Option Nat) (S : xS) (z : Int32 × xS), l_R_startOf_7 d n x2 x3 x4 S = some z → V m_R_startOf D (d + 1) S0 (cvI z) 7 [(2, .inl x2), (3, .inl x3), (4, .inr (.inr x4))] [] S := by
  intro n
  induction n with
  | zero =>
    intro x2 x3 x4 S z h
    cases h
  | succ n ih =>
    intro x2 x3 x4 S z h
    exact tb_R_startOf_7  ih x2 x3 x4 S z h
set_option maxRecDepth 100000 in
set_option maxHeartbeats 4000000 in
theorem te_R_startOf {D : xD} {d : Nat} {S0 : xS} : ∀ (p0 : Option Nat) (p1 : Int32) (S : xS) (z : Int32 × xS), e_R_startOf d p0 p1 S = some z → V m_R_startOf D (d + 1) S0 (cvI z) 0 [(0, .inr (.inr p0)), (1, .inl p1)] [] S := by
  intro p0 p1 S z h
  unfold e_R_startOf at h
  refine x_iconst (v := 0) d_R_startOf_0 (by decide) ?_
  refine x_istore_n (lv' := [(2, .inl 0), (0, .inr (.inr p0)), (1, .inl p1)]) d_R_startOf_1 rfl (by decide) rfl ?_
  refine x_iload_n 2 d_R_startOf_2 rfl rfl ?_
  refine x_istore_n (lv' := [(3, .inl p1), (2, .inl 0), (0, .inr (.inr p0)), (1, .inl p1)]) d_R_startOf_3 rfl (by decide) rfl ?_
  refine x_aload_n 2 d_R_startOf_4 rfl rfl ?_
  refine x_astore (lv' := [(4, .inr (.inr p0)), (3, .inl p1), (2, .inl 0), (0, .inr (.inr p0)), (1, .inl p1)]) d_R_startOf_5 (by decide) rfl ?_
  refine x_ls [2, 1, 0] rfl ?_
  exact tl_R_startOf_7 xN 0 p1 p0 S _ h
theorem s_R_startOf : ∀ (d : Nat) (p0 : Option Nat) (p1 : Int32) (S : xS) (z : Int32 × xS), f_R_startOf d p0 p1 S = some z → ∀ (l : Launch) (D : xD), xMet l m_R_startOf D d [.inr (.inr p0), .inl p1] S (cvI z) := by
  intro d
  induction d with
  | zero =>
    intro p0 p1 S z h
    cases h
  | succ d ih =>
    intro p0 p1 S z h l D
    exact x_ofV rfl (by decide) (Nat.le_of_ble_eq_true rfl) (te_R_startOf  p0 p1 S z h)
set_option maxRecDepth 100000 in
set_option maxHeartbeats 4000000 in
theorem tb_R_sourceAt_32 {D : xD} {d : Nat} {S0 : xS} : ∀ (y0 : Int32) (S : xS) (z : Int32 × xS), b_R_sourceAt_32 d y0 S = some z → V m_R_sourceAt D (d + 1) S0 (cvI z) 32 [] [.int y0] S := by
  intro y0 S z h
  unfold b_R_sourceAt_32 at h
  cases h
  exact x_iret rfl d_R_sourceAt_32
set_option maxRecDepth 100000 in
set_option maxHeartbeats 4000000 in
theorem te_R_sourceAt {D : xD} {d : Nat} {S0 : xS} : ∀ (p0 : Option Nat) (p1 : Int32) (S : xS) (z : Int32 × xS), e_R_sourceAt d p0 p1 S = some z → V m_R_sourceAt D (d + 1) S0 (cvI z) 0 [(0, .inr (.inr p0)), (1, .inl p1)] [] S := by
  intro p0 p1 S z h
  unfold e_R_sourceAt at h
  refine x_aload_n 0 d_R_sourceAt_0 rfl rfl ?_
  refine x_iload_n 1 d_R_sourceAt_1 rfl rfl ?_
  refine x_callS' (M' := m_R_orderAt) (ax := [.inr (.inr p0), .inl p1]) (cv := cvI) (host := none) (st := []) h (fun q h l => s_R_orderAt d p0 p1 S q h l D) rfl d_R_sourceAt_2 wm_R_40 wc_R_orderAt rfl (Nat.le_of_ble_eq_true rfl) (fun q1 h => ?_)
  show V _ _ _ _ _ _ _ (.int q1.1 :: []) _
  refine x_istore_n (lv' := [(2, .inl q1.1), (0, .inr (.inr p0)), (1, .inl p1)]) d_R_sourceAt_5 rfl (by decide) rfl ?_
  refine x_aload_n 1 d_R_sourceAt_6 rfl rfl ?_
  refine x_iload_n 0 d_R_sourceAt_7 rfl rfl ?_
  refine x_callS' (M' := m_R_numbered) (ax := [.inr (.inr p0), .inl q1.1]) (cv := cvR) (host := none) (st := []) h (fun q h l => s_R_numbered d p0 q1.1 q1.2 q h l D) rfl d_R_sourceAt_8 wm_R_44 wc_R_numbered rfl (Nat.le_of_ble_eq_true rfl) (fun q2 h => ?_)
  show V _ _ _ _ _ _ _ (va_rf q2.1 :: []) _
  refine x_astore_n (lv' := [(3, .inr (.inr q2.1)), (2, .inl q1.1), (0, .inr (.inr p0)), (1, .inl p1)]) d_R_sourceAt_11 rfl (by decide) rfl ?_
  refine x_aload_n 0 d_R_sourceAt_12 rfl rfl ?_
  refine x_ifnonnull (tgt := 20) d_R_sourceAt_13 (by decide) h (fun _ _ h => ?_) (fun _ h => ?_)
  · refine x_aload_n 0 d_R_sourceAt_20 rfl rfl ?_
    refine x_getI (host := (some "PieceTexts")) h hc_2 hi_2 (by decide) wf_R_48 d_R_sourceAt_21 (fun v4 h => ?_)
    refine x_iload_n 3 d_R_sourceAt_24 rfl rfl ?_
    refine x_iadd d_R_sourceAt_25 ?_
    refine x_aload_n 2 d_R_sourceAt_26 rfl rfl ?_
    refine x_iload_n 1 d_R_sourceAt_27 rfl rfl ?_
    refine x_callS' (M' := m_R_startOf) (ax := [.inr (.inr p0), .inl q1.1]) (cv := cvI) (host := none) (st := [.int (v4 + p1)]) h (fun q h l => s_R_startOf d p0 q1.1 q2.2 q h l D) rfl d_R_sourceAt_28 wm_R_51 wc_R_startOf rfl (Nat.le_of_ble_eq_true rfl) (fun q5 h => ?_)
    show V _ _ _ _ _ _ _ (.int q5.1 :: .int (v4 + p1) :: []) _
    refine x_isub d_R_sourceAt_31 ?_
    refine x_ls [] rfl ?_
    exact tb_R_sourceAt_32 ((v4 + p1) - q5.1) q5.2 _ h
  · refine x_iconst (v := (-1)) d_R_sourceAt_16 (by decide) ?_
    refine x_goto (tgt := 32) d_R_sourceAt_17 (by decide) ?_
    refine x_ls [] rfl ?_
    exact tb_R_sourceAt_32 ((-1)) q2.2 _ h
theorem s_R_sourceAt : ∀ (d : Nat) (p0 : Option Nat) (p1 : Int32) (S : xS) (z : Int32 × xS), f_R_sourceAt d p0 p1 S = some z → ∀ (l : Launch) (D : xD), xMet l m_R_sourceAt D d [.inr (.inr p0), .inl p1] S (cvI z) := by
  intro d
  induction d with
  | zero =>
    intro p0 p1 S z h
    cases h
  | succ d ih =>
    intro p0 p1 S z h l D
    exact x_ofV rfl (by decide) (Nat.le_of_ble_eq_true rfl) (te_R_sourceAt  p0 p1 S z h)
set_option maxRecDepth 100000 in
set_option maxHeartbeats 4000000 in
theorem tb_R_tagAt_22 {D : xD} {d : Nat} {S0 : xS} : ∀ (y0 : Int32) (S : xS) (z : Int32 × xS), b_R_tagAt_22 d y0 S = some z → V m_R_tagAt D (d + 1) S0 (cvI z) 22 [] [.int y0] S := by
  intro y0 S z h
  unfold b_R_tagAt_22 at h
  cases h
  exact x_iret rfl d_R_tagAt_22
set_option maxRecDepth 100000 in
set_option maxHeartbeats 4000000 in
theorem te_R_tagAt {D : xD} {d : Nat} {S0 : xS} : ∀ (p0 : Option Nat) (p1 : Int32) (S : xS) (z : Int32 × xS), e_R_tagAt d p0 p1 S = some z → V m_R_tagAt D (d + 1) S0 (cvI z) 0 [(0, .inr (.inr p0)), (1, .inl p1)] [] S := by
  intro p0 p1 S z h
  unfold e_R_tagAt at h
  refine x_aload_n 0 d_R_tagAt_0 rfl rfl ?_
  refine x_aload_n 0 d_R_tagAt_1 rfl rfl ?_
  refine x_iload_n 1 d_R_tagAt_2 rfl rfl ?_
  refine x_callS' (M' := m_R_orderAt) (ax := [.inr (.inr p0), .inl p1]) (cv := cvI) (host := none) (st := [va_rf p0]) h (fun q h l => s_R_orderAt d p0 p1 S q h l D) rfl d_R_tagAt_3 wm_R_40 wc_R_orderAt rfl (Nat.le_of_ble_eq_true rfl) (fun q1 h => ?_)
  show V _ _ _ _ _ _ _ (.int q1.1 :: va_rf p0 :: []) _
  refine x_callS' (M' := m_R_numbered) (ax := [.inr (.inr p0), .inl q1.1]) (cv := cvR) (host := none) (st := []) h (fun q h l => s_R_numbered d p0 q1.1 q1.2 q h l D) rfl d_R_tagAt_6 wm_R_44 wc_R_numbered rfl (Nat.le_of_ble_eq_true rfl) (fun q2 h => ?_)
  show V _ _ _ _ _ _ _ (va_rf q2.1 :: []) _
  refine x_astore_n (lv' := [(2, .inr (.inr q2.1)), (0, .inr (.inr p0)), (1, .inl p1)]) d_R_tagAt_9 rfl (by decide) rfl ?_
  refine x_aload_n 0 d_R_tagAt_10 rfl rfl ?_
  refine x_ifnonnull (tgt := 18) d_R_tagAt_11 (by decide) h (fun _ _ h => ?_) (fun _ h => ?_)
  · refine x_aload_n 0 d_R_tagAt_18 rfl rfl ?_
    refine x_getI (host := (some "PieceTexts")) h hc_2 hi_2 (by decide) wf_R_54 d_R_tagAt_19 (fun v4 h => ?_)
    refine x_ls [] rfl ?_
    exact tb_R_tagAt_22 v4 q2.2 _ h
  · refine x_iconst (v := 0) d_R_tagAt_14 (by decide) ?_
    refine x_goto (tgt := 22) d_R_tagAt_15 (by decide) ?_
    refine x_ls [] rfl ?_
    exact tb_R_tagAt_22 0 q2.2 _ h
theorem s_R_tagAt : ∀ (d : Nat) (p0 : Option Nat) (p1 : Int32) (S : xS) (z : Int32 × xS), f_R_tagAt d p0 p1 S = some z → ∀ (l : Launch) (D : xD), xMet l m_R_tagAt D d [.inr (.inr p0), .inl p1] S (cvI z) := by
  intro d
  induction d with
  | zero =>
    intro p0 p1 S z h
    cases h
  | succ d ih =>
    intro p0 p1 S z h l D
    exact x_ofV rfl (by decide) (Nat.le_of_ble_eq_true rfl) (te_R_tagAt  p0 p1 S z h)
set_option maxRecDepth 100000 in
set_option maxHeartbeats 4000000 in
theorem tb_Y_meldsLeft_36 {D : xD} {d : Nat} {S0 : xS} : ∀ (y0 : Int32) (S : xS) (z : Int32 × xS), b_Y_meldsLeft_36 d y0 S = some z → V m_Y_meldsLeft D (d + 1) S0 (cvI z) 36 [] [.int y0] S := by
  intro y0 S z h
  unfold b_Y_meldsLeft_36 at h
  cases h
  exact x_iret rfl d_Y_meldsLeft_36
set_option maxRecDepth 100000 in
set_option maxHeartbeats 4000000 in
theorem tb_Y_meldsLeft_35 {D : xD} {d : Nat} {S0 : xS} : ∀  (S : xS) (z : Int32 × xS), b_Y_meldsLeft_35 d  S = some z → V m_Y_meldsLeft D (d + 1) S0 (cvI z) 35 [] [] S := by
  intro  S z h
  unfold b_Y_meldsLeft_35 at h
  refine x_iconst (v := 0) d_Y_meldsLeft_35 (by decide) ?_
  refine x_ls [] rfl ?_
  exact tb_Y_meldsLeft_36 0 S _ h
set_option maxRecDepth 100000 in
set_option maxHeartbeats 4000000 in
theorem te_Y_meldsLeft {D : xD} {d : Nat} {S0 : xS} : ∀ (p0 : Option Nat) (p1 : Int32) (p2 : Int32) (p3 : Int32) (S : xS) (z : Int32 × xS), e_Y_meldsLeft d p0 p1 p2 p3 S = some z → V m_Y_meldsLeft D (d + 1) S0 (cvI z) 0 [(0, .inr (.inr p0)), (1, .inl p1), (2, .inl p2), (3, .inl p3)] [] S := by
  intro p0 p1 p2 p3 S z h
  unfold e_Y_meldsLeft at h
  refine x_iload_n 1 d_Y_meldsLeft_0 rfl rfl ?_
  refine x_iconst (v := 1) d_Y_meldsLeft_1 (by decide) ?_
  refine x_icmp_ge (tgt := 7) d_Y_meldsLeft_2 (by decide) h (fun h => ?_) (fun h => ?_)
  · refine x_aload_n 0 d_Y_meldsLeft_7 rfl rfl ?_
    refine x_iload_n 1 d_Y_meldsLeft_8 rfl rfl ?_
    refine x_iconst (v := 1) d_Y_meldsLeft_9 (by decide) ?_
    refine x_isub d_Y_meldsLeft_10 ?_
    refine x_callS' (M' := m_R_sourceAt) (ax := [.inr (.inr p0), .inl (p1 - 1)]) (cv := cvI) (host := (some "PieceTexts")) (st := []) h (fun q h l => s_R_sourceAt d p0 (p1 - 1) S q h l D) rfl d_Y_meldsLeft_11 wm_Y_29 wc_R_sourceAt rfl (Nat.le_of_ble_eq_true rfl) (fun q1 h => ?_)
    show V _ _ _ _ _ _ _ (.int q1.1 :: []) _
    refine x_iconst (v := 1) d_Y_meldsLeft_14 (by decide) ?_
    refine x_iadd d_Y_meldsLeft_15 ?_
    refine x_iload_n 2 d_Y_meldsLeft_16 rfl rfl ?_
    refine x_icmp_ne (tgt := 35) d_Y_meldsLeft_17 (by decide) h (fun h => ?_) (fun h => ?_)
    · refine x_ls [] rfl ?_
      exact tb_Y_meldsLeft_35 q1.2 _ h
    · refine x_aload_n 0 d_Y_meldsLeft_20 rfl rfl ?_
      refine x_iload_n 1 d_Y_meldsLeft_21 rfl rfl ?_
      refine x_iconst (v := 1) d_Y_meldsLeft_22 (by decide) ?_
      refine x_isub d_Y_meldsLeft_23 ?_
      refine x_callS' (M' := m_R_tagAt) (ax := [.inr (.inr p0), .inl (p1 - 1)]) (cv := cvI) (host := (some "PieceTexts")) (st := []) h (fun q h l => s_R_tagAt d p0 (p1 - 1) q1.2 q h l D) rfl d_Y_meldsLeft_24 wm_Y_32 wc_R_tagAt rfl (Nat.le_of_ble_eq_true rfl) (fun q2 h => ?_)
      show V _ _ _ _ _ _ _ (.int q2.1 :: []) _
      refine x_iload_n 3 d_Y_meldsLeft_27 rfl rfl ?_
      refine x_icmp_ne (tgt := 35) d_Y_meldsLeft_28 (by decide) h (fun h => ?_) (fun h => ?_)
      · refine x_ls [] rfl ?_
        exact tb_Y_meldsLeft_35 q2.2 _ h
      · refine x_iconst (v := 1) d_Y_meldsLeft_31 (by decide) ?_
        refine x_goto (tgt := 36) d_Y_meldsLeft_32 (by decide) ?_
        refine x_ls [] rfl ?_
        exact tb_Y_meldsLeft_36 1 q2.2 _ h
  · refine x_iconst (v := 0) d_Y_meldsLeft_5 (by decide) ?_
    cases h
    exact x_iret rfl d_Y_meldsLeft_6
theorem s_Y_meldsLeft : ∀ (d : Nat) (p0 : Option Nat) (p1 : Int32) (p2 : Int32) (p3 : Int32) (S : xS) (z : Int32 × xS), f_Y_meldsLeft d p0 p1 p2 p3 S = some z → ∀ (l : Launch) (D : xD), xMet l m_Y_meldsLeft D d [.inr (.inr p0), .inl p1, .inl p2, .inl p3] S (cvI z) := by
  intro d
  induction d with
  | zero =>
    intro p0 p1 p2 p3 S z h
    cases h
  | succ d ih =>
    intro p0 p1 p2 p3 S z h l D
    exact x_ofV rfl (by decide) (Nat.le_of_ble_eq_true rfl) (te_Y_meldsLeft  p0 p1 p2 p3 S z h)
set_option maxRecDepth 100000 in
set_option maxHeartbeats 4000000 in
theorem tb_Y_meldsRight_35 {D : xD} {d : Nat} {S0 : xS} : ∀ (y0 : Int32) (S : xS) (z : Int32 × xS), b_Y_meldsRight_35 d y0 S = some z → V m_Y_meldsRight D (d + 1) S0 (cvI z) 35 [] [.int y0] S := by
  intro y0 S z h
  unfold b_Y_meldsRight_35 at h
  cases h
  exact x_iret rfl d_Y_meldsRight_35
set_option maxRecDepth 100000 in
set_option maxHeartbeats 4000000 in
theorem tb_Y_meldsRight_34 {D : xD} {d : Nat} {S0 : xS} : ∀  (S : xS) (z : Int32 × xS), b_Y_meldsRight_34 d  S = some z → V m_Y_meldsRight D (d + 1) S0 (cvI z) 34 [] [] S := by
  intro  S z h
  unfold b_Y_meldsRight_34 at h
  refine x_iconst (v := 0) d_Y_meldsRight_34 (by decide) ?_
  refine x_ls [] rfl ?_
  exact tb_Y_meldsRight_35 0 S _ h
set_option maxRecDepth 100000 in
set_option maxHeartbeats 4000000 in
theorem te_Y_meldsRight {D : xD} {d : Nat} {S0 : xS} : ∀ (p0 : Option Nat) (p1 : Int32) (p2 : Int32) (p3 : Int32) (S : xS) (z : Int32 × xS), e_Y_meldsRight d p0 p1 p2 p3 S = some z → V m_Y_meldsRight D (d + 1) S0 (cvI z) 0 [(0, .inr (.inr p0)), (1, .inl p1), (2, .inl p2), (3, .inl p3)] [] S := by
  intro p0 p1 p2 p3 S z h
  unfold e_Y_meldsRight at h
  refine x_iload_n 1 d_Y_meldsRight_0 rfl rfl ?_
  refine x_aload_n 0 d_Y_meldsRight_1 rfl rfl ?_
  refine x_callS' (M' := m_R_charactersOf) (ax := [.inr (.inr p0)]) (cv := cvI) (host := (some "PieceTexts")) (st := [.int p1]) h (fun q h l => s_R_charactersOf d p0 S q h l D) rfl d_Y_meldsRight_2 wm_Y_23 wc_R_charactersOf rfl (Nat.le_of_ble_eq_true rfl) (fun q1 h => ?_)
  show V _ _ _ _ _ _ _ (.int q1.1 :: .int p1 :: []) _
  refine x_icmp_lt (tgt := 10) d_Y_meldsRight_5 (by decide) h (fun h => ?_) (fun h => ?_)
  · refine x_iload_n 2 d_Y_meldsRight_10 rfl rfl ?_
    refine x_iconst (v := 1) d_Y_meldsRight_11 (by decide) ?_
    refine x_iadd d_Y_meldsRight_12 ?_
    refine x_aload_n 0 d_Y_meldsRight_13 rfl rfl ?_
    refine x_iload_n 1 d_Y_meldsRight_14 rfl rfl ?_
    refine x_callS' (M' := m_R_sourceAt) (ax := [.inr (.inr p0), .inl p1]) (cv := cvI) (host := (some "PieceTexts")) (st := [.int (p2 + 1)]) h (fun q h l => s_R_sourceAt d p0 p1 q1.2 q h l D) rfl d_Y_meldsRight_15 wm_Y_29 wc_R_sourceAt rfl (Nat.le_of_ble_eq_true rfl) (fun q2 h => ?_)
    show V _ _ _ _ _ _ _ (.int q2.1 :: .int (p2 + 1) :: []) _
    refine x_icmp_ne (tgt := 34) d_Y_meldsRight_18 (by decide) h (fun h => ?_) (fun h => ?_)
    · refine x_ls [] rfl ?_
      exact tb_Y_meldsRight_34 q2.2 _ h
    · refine x_aload_n 0 d_Y_meldsRight_21 rfl rfl ?_
      refine x_iload_n 1 d_Y_meldsRight_22 rfl rfl ?_
      refine x_callS' (M' := m_R_tagAt) (ax := [.inr (.inr p0), .inl p1]) (cv := cvI) (host := (some "PieceTexts")) (st := []) h (fun q h l => s_R_tagAt d p0 p1 q2.2 q h l D) rfl d_Y_meldsRight_23 wm_Y_32 wc_R_tagAt rfl (Nat.le_of_ble_eq_true rfl) (fun q3 h => ?_)
      show V _ _ _ _ _ _ _ (.int q3.1 :: []) _
      refine x_iload_n 3 d_Y_meldsRight_26 rfl rfl ?_
      refine x_icmp_ne (tgt := 34) d_Y_meldsRight_27 (by decide) h (fun h => ?_) (fun h => ?_)
      · refine x_ls [] rfl ?_
        exact tb_Y_meldsRight_34 q3.2 _ h
      · refine x_iconst (v := 1) d_Y_meldsRight_30 (by decide) ?_
        refine x_goto (tgt := 35) d_Y_meldsRight_31 (by decide) ?_
        refine x_ls [] rfl ?_
        exact tb_Y_meldsRight_35 1 q3.2 _ h
  · refine x_iconst (v := 0) d_Y_meldsRight_8 (by decide) ?_
    cases h
    exact x_iret rfl d_Y_meldsRight_9
theorem s_Y_meldsRight : ∀ (d : Nat) (p0 : Option Nat) (p1 : Int32) (p2 : Int32) (p3 : Int32) (S : xS) (z : Int32 × xS), f_Y_meldsRight d p0 p1 p2 p3 S = some z → ∀ (l : Launch) (D : xD), xMet l m_Y_meldsRight D d [.inr (.inr p0), .inl p1, .inl p2, .inl p3] S (cvI z) := by
  intro d
  induction d with
  | zero =>
    intro p0 p1 p2 p3 S z h
    cases h
  | succ d ih =>
    intro p0 p1 p2 p3 S z h l D
    exact x_ofV rfl (by decide) (Nat.le_of_ble_eq_true rfl) (te_Y_meldsRight  p0 p1 p2 p3 S z h)
set_option maxRecDepth 100000 in
set_option maxHeartbeats 4000000 in
theorem te_Y_afterPut {D : xD} {d : Nat} {S0 : xS} : ∀ (p0 : Option Nat) (p1 : Int32) (p2 : Int32) (p3 : Int32) (p4 : Int32) (S : xS) (z : Int32 × xS), e_Y_afterPut d p0 p1 p2 p3 p4 S = some z → V m_Y_afterPut D (d + 1) S0 (cvI z) 0 [(0, .inr (.inr p0)), (1, .inl p1), (2, .inl p2), (3, .inl p3), (4, .inl p4)] [] S := by
  intro p0 p1 p2 p3 p4 S z h
  unfold e_Y_afterPut at h
  refine x_aload_n 0 d_Y_afterPut_0 rfl rfl ?_
  refine x_iload_n 1 d_Y_afterPut_1 rfl rfl ?_
  refine x_callS' (M' := m_Y_before) (ax := [.inr (.inr p0), .inl p1]) (cv := cvI) (host := none) (st := []) h (fun q h l => s_Y_before d p0 p1 S q h l D) rfl d_Y_afterPut_2 wm_Y_7 wc_Y_before rfl (Nat.le_of_ble_eq_true rfl) (fun q1 h => ?_)
  show V _ _ _ _ _ _ _ (.int q1.1 :: []) _
  refine x_iconst (v := 1) d_Y_afterPut_5 (by decide) ?_
  refine x_iadd d_Y_afterPut_6 ?_
  refine x_aload_n 0 d_Y_afterPut_7 rfl rfl ?_
  refine x_iload_n 1 d_Y_afterPut_8 rfl rfl ?_
  refine x_callS' (M' := m_Y_behind) (ax := [.inr (.inr p0), .inl p1]) (cv := cvI) (host := none) (st := [.int (q1.1 + 1)]) h (fun q h l => s_Y_behind d p0 p1 q1.2 q h l D) rfl d_Y_afterPut_9 wm_Y_13 wc_Y_behind rfl (Nat.le_of_ble_eq_true rfl) (fun q2 h => ?_)
  show V _ _ _ _ _ _ _ (.int q2.1 :: .int (q1.1 + 1) :: []) _
  refine x_iadd d_Y_afterPut_12 ?_
  refine x_aload_n 0 d_Y_afterPut_13 rfl rfl ?_
  refine x_iload_n 1 d_Y_afterPut_14 rfl rfl ?_
  refine x_iload_n 2 d_Y_afterPut_15 rfl rfl ?_
  refine x_iload 4 d_Y_afterPut_16 rfl ?_
  refine x_callS' (M' := m_Y_meldsLeft) (ax := [.inr (.inr p0), .inl p1, .inl p2, .inl p4]) (cv := cvI) (host := none) (st := [.int ((q1.1 + 1) + q2.1)]) h (fun q h l => s_Y_meldsLeft d p0 p1 p2 p4 q2.2 q h l D) rfl d_Y_afterPut_18 wm_Y_16 wc_Y_meldsLeft rfl (Nat.le_of_ble_eq_true rfl) (fun q3 h => ?_)
  show V _ _ _ _ _ _ _ (.int q3.1 :: .int ((q1.1 + 1) + q2.1) :: []) _
  refine x_isub d_Y_afterPut_21 ?_
  refine x_aload_n 0 d_Y_afterPut_22 rfl rfl ?_
  refine x_iload_n 1 d_Y_afterPut_23 rfl rfl ?_
  refine x_iload_n 2 d_Y_afterPut_24 rfl rfl ?_
  refine x_iload_n 3 d_Y_afterPut_25 rfl rfl ?_
  refine x_iadd d_Y_afterPut_26 ?_
  refine x_iconst (v := 1) d_Y_afterPut_27 (by decide) ?_
  refine x_isub d_Y_afterPut_28 ?_
  refine x_iload 4 d_Y_afterPut_29 rfl ?_
  refine x_callS' (M' := m_Y_meldsRight) (ax := [.inr (.inr p0), .inl p1, .inl ((p2 + p3) - 1), .inl p4]) (cv := cvI) (host := none) (st := [.int (((q1.1 + 1) + q2.1) - q3.1)]) h (fun q h l => s_Y_meldsRight d p0 p1 ((p2 + p3) - 1) p4 q3.2 q h l D) rfl d_Y_afterPut_31 wm_Y_20 wc_Y_meldsRight rfl (Nat.le_of_ble_eq_true rfl) (fun q4 h => ?_)
  show V _ _ _ _ _ _ _ (.int q4.1 :: .int (((q1.1 + 1) + q2.1) - q3.1) :: []) _
  refine x_isub d_Y_afterPut_34 ?_
  cases h
  exact x_iret rfl d_Y_afterPut_35
theorem s_Y_afterPut : ∀ (d : Nat) (p0 : Option Nat) (p1 : Int32) (p2 : Int32) (p3 : Int32) (p4 : Int32) (S : xS) (z : Int32 × xS), f_Y_afterPut d p0 p1 p2 p3 p4 S = some z → ∀ (l : Launch) (D : xD), xMet l m_Y_afterPut D d [.inr (.inr p0), .inl p1, .inl p2, .inl p3, .inl p4] S (cvI z) := by
  intro d
  induction d with
  | zero =>
    intro p0 p1 p2 p3 p4 S z h
    cases h
  | succ d ih =>
    intro p0 p1 p2 p3 p4 S z h l D
    exact x_ofV rfl (by decide) (Nat.le_of_ble_eq_true rfl) (te_Y_afterPut  p0 p1 p2 p3 p4 S z h)
set_option maxRecDepth 100000 in
set_option maxHeartbeats 4000000 in
theorem tb_R_heightOf_12 {D : xD} {d : Nat} {S0 : xS} : ∀ (y0 : Int32) (S : xS) (z : Int32 × xS), b_R_heightOf_12 d y0 S = some z → V m_R_heightOf D (d + 1) S0 (cvI z) 12 [] [.int y0] S := by
  intro y0 S z h
  unfold b_R_heightOf_12 at h
  cases h
  exact x_iret rfl d_R_heightOf_12
set_option maxRecDepth 100000 in
set_option maxHeartbeats 4000000 in
theorem te_R_heightOf {D : xD} {d : Nat} {S0 : xS} : ∀ (p0 : Option Nat) (S : xS) (z : Int32 × xS), e_R_heightOf d p0 S = some z → V m_R_heightOf D (d + 1) S0 (cvI z) 0 [(0, .inr (.inr p0))] [] S := by
  intro p0 S z h
  unfold e_R_heightOf at h
  refine x_aload_n 0 d_R_heightOf_0 rfl rfl ?_
  refine x_ifnonnull (tgt := 8) d_R_heightOf_1 (by decide) h (fun _ _ h => ?_) (fun _ h => ?_)
  · refine x_aload_n 0 d_R_heightOf_8 rfl rfl ?_
    refine x_getI (host := (some "PieceTexts")) h hc_2 hi_2 (by decide) wf_R_9 d_R_heightOf_9 (fun v2 h => ?_)
    refine x_ls [] rfl ?_
    exact tb_R_heightOf_12 v2 S _ h
  · refine x_iconst (v := 0) d_R_heightOf_4 (by decide) ?_
    refine x_goto (tgt := 12) d_R_heightOf_5 (by decide) ?_
    refine x_ls [] rfl ?_
    exact tb_R_heightOf_12 0 S _ h
theorem s_R_heightOf : ∀ (d : Nat) (p0 : Option Nat) (S : xS) (z : Int32 × xS), f_R_heightOf d p0 S = some z → ∀ (l : Launch) (D : xD), xMet l m_R_heightOf D d [.inr (.inr p0)] S (cvI z) := by
  intro d
  induction d with
  | zero =>
    intro p0 S z h
    cases h
  | succ d ih =>
    intro p0 S z h l D
    exact x_ofV rfl (by decide) (Nat.le_of_ble_eq_true rfl) (te_R_heightOf  p0 S z h)
set_option maxRecDepth 100000 in
set_option maxHeartbeats 4000000 in
theorem te_H_init {D : xD} {d : Nat} {S0 : xS} : ∀ (p0 : Option Nat) (S : xS) (z : Unit × xS), e_H_init d p0 S = some z → V m_H_init D (d + 1) S0 (cvV z) 0 [(0, .inr (.inr p0))] [] S := by
  intro p0 S z h
  unfold e_H_init at h
  refine x_aload_n 0 d_H_init_0 rfl rfl ?_
  refine x_objInit' h d_H_init_1 wO_H_1 w_objI w_objC (Nat.le_of_ble_eq_true rfl) (fun h => ?_)
  cases h
  exact x_vret rfl d_H_init_4
theorem s_H_init : ∀ (d : Nat) (p0 : Option Nat) (S : xS) (z : Unit × xS), f_H_init d p0 S = some z → ∀ (l : Launch) (D : xD), xMet l m_H_init D d [.inr (.inr p0)] S (cvV z) := by
  intro d
  induction d with
  | zero =>
    intro p0 S z h
    cases h
  | succ d ih =>
    intro p0 S z h l D
    exact x_ofV rfl (by decide) (Nat.le_of_ble_eq_true rfl) (te_H_init  p0 S z h)
set_option maxRecDepth 100000 in
set_option maxHeartbeats 4000000 in
theorem te_N_init {D : xD} {d : Nat} {S0 : xS} : ∀ (p0 : Option Nat) (S : xS) (z : Unit × xS), e_N_init d p0 S = some z → V m_N_init D (d + 1) S0 (cvV z) 0 [(0, .inr (.inr p0))] [] S := by
  intro p0 S z h
  unfold e_N_init at h
  refine x_aload_n 0 d_N_init_0 rfl rfl ?_
  refine x_objInit' h d_N_init_1 wO_N_1 w_objI w_objC (Nat.le_of_ble_eq_true rfl) (fun h => ?_)
  cases h
  exact x_vret rfl d_N_init_4
theorem s_N_init : ∀ (d : Nat) (p0 : Option Nat) (S : xS) (z : Unit × xS), f_N_init d p0 S = some z → ∀ (l : Launch) (D : xD), xMet l m_N_init D d [.inr (.inr p0)] S (cvV z) := by
  intro d
  induction d with
  | zero =>
    intro p0 S z h
    cases h
  | succ d ih =>
    intro p0 S z h l D
    exact x_ofV rfl (by decide) (Nat.le_of_ble_eq_true rfl) (te_N_init  p0 S z h)
set_option maxRecDepth 100000 in
set_option maxHeartbeats 4000000 in
theorem te_Y_afterCut {D : xD} {d : Nat} {S0 : xS} : ∀ (p0 : Option Nat) (p1 : Int32) (p2 : Int32) (S : xS) (z : Int32 × xS), e_Y_afterCut d p0 p1 p2 S = some z → V m_Y_afterCut D (d + 1) S0 (cvI z) 0 [(0, .inr (.inr p0)), (1, .inl p1), (2, .inl p2)] [] S := by
  intro p0 p1 p2 S z h
  unfold e_Y_afterCut at h
  refine x_iload_n 1 d_Y_afterCut_0 rfl rfl ?_
  refine x_iload_n 2 d_Y_afterCut_1 rfl rfl ?_
  refine x_iadd d_Y_afterCut_2 ?_
  refine x_istore_n (lv' := [(3, .inl (p1 + p2)), (0, .inr (.inr p0)), (1, .inl p1), (2, .inl p2)]) d_Y_afterCut_3 rfl (by decide) rfl ?_
  refine x_aload_n 1 d_Y_afterCut_4 rfl rfl ?_
  refine x_iload_n 2 d_Y_afterCut_5 rfl rfl ?_
  refine x_callS' (M' := m_Y_before) (ax := [.inr (.inr p0), .inl p1]) (cv := cvI) (host := none) (st := []) h (fun q h l => s_Y_before d p0 p1 S q h l D) rfl d_Y_afterCut_6 wm_Y_7 wc_Y_before rfl (Nat.le_of_ble_eq_true rfl) (fun q1 h => ?_)
  show V _ _ _ _ _ _ _ (.int q1.1 :: []) _
  refine x_aload_n 1 d_Y_afterCut_9 rfl rfl ?_
  refine x_iload_n 0 d_Y_afterCut_10 rfl rfl ?_
  refine x_callS' (M' := m_Y_behind) (ax := [.inr (.inr p0), .inl (p1 + p2)]) (cv := cvI) (host := none) (st := [.int q1.1]) h (fun q h l => s_Y_behind d p0 (p1 + p2) q1.2 q h l D) rfl d_Y_afterCut_11 wm_Y_13 wc_Y_behind rfl (Nat.le_of_ble_eq_true rfl) (fun q2 h => ?_)
  show V _ _ _ _ _ _ _ (.int q2.1 :: .int q1.1 :: []) _
  refine x_iadd d_Y_afterCut_14 ?_
  refine x_istore (lv' := [(4, .inl (q1.1 + q2.1)), (3, .inl (p1 + p2)), (0, .inr (.inr p0)), (1, .inl p1), (2, .inl p2)]) d_Y_afterCut_15 (by decide) rfl ?_
  refine x_iload_n 1 d_Y_afterCut_17 rfl rfl ?_
  refine x_aload_n 2 d_Y_afterCut_18 rfl rfl ?_
  refine x_callS' (M' := m_R_charactersOf) (ax := [.inr (.inr p0)]) (cv := cvI) (host := (some "PieceTexts")) (st := [.int (p1 + p2)]) h (fun q h l => s_R_charactersOf d p0 q2.2 q h l D) rfl d_Y_afterCut_19 wm_Y_23 wc_R_charactersOf rfl (Nat.le_of_ble_eq_true rfl) (fun q3 h => ?_)
  show V _ _ _ _ _ _ _ (.int q3.1 :: .int (p1 + p2) :: []) _
  refine x_icmp_lt (tgt := 28) d_Y_afterCut_22 (by decide) h (fun h => ?_) (fun h => ?_)
  · refine x_iload 0 d_Y_afterCut_28 rfl ?_
    refine x_aload_n 2 d_Y_afterCut_30 rfl rfl ?_
    refine x_iload_n 3 d_Y_afterCut_31 rfl rfl ?_
    refine x_aload_n 2 d_Y_afterCut_32 rfl rfl ?_
    refine x_iload_n 1 d_Y_afterCut_33 rfl rfl ?_
    refine x_callS' (M' := m_R_sourceAt) (ax := [.inr (.inr p0), .inl (p1 + p2)]) (cv := cvI) (host := (some "PieceTexts")) (st := [.int p1, va_rf p0, .int (q1.1 + q2.1)]) h (fun q h l => s_R_sourceAt d p0 (p1 + p2) q3.2 q h l D) rfl d_Y_afterCut_34 wm_Y_29 wc_R_sourceAt rfl (Nat.le_of_ble_eq_true rfl) (fun q4 h => ?_)
    show V _ _ _ _ _ _ _ (.int q4.1 :: .int p1 :: va_rf p0 :: .int (q1.1 + q2.1) :: []) _
    refine x_aload_n 2 d_Y_afterCut_37 rfl rfl ?_
    refine x_iload_n 1 d_Y_afterCut_38 rfl rfl ?_
    refine x_callS' (M' := m_R_tagAt) (ax := [.inr (.inr p0), .inl (p1 + p2)]) (cv := cvI) (host := (some "PieceTexts")) (st := [.int q4.1, .int p1, va_rf p0, .int (q1.1 + q2.1)]) h (fun q h l => s_R_tagAt d p0 (p1 + p2) q4.2 q h l D) rfl d_Y_afterCut_39 wm_Y_32 wc_R_tagAt rfl (Nat.le_of_ble_eq_true rfl) (fun q5 h => ?_)
    show V _ _ _ _ _ _ _ (.int q5.1 :: .int q4.1 :: .int p1 :: va_rf p0 :: .int (q1.1 + q2.1) :: []) _
    refine x_callS' (M' := m_Y_meldsLeft) (ax := [.inr (.inr p0), .inl p1, .inl q4.1, .inl q5.1]) (cv := cvI) (host := none) (st := [.int (q1.1 + q2.1)]) h (fun q h l => s_Y_meldsLeft d p0 p1 q4.1 q5.1 q5.2 q h l D) rfl d_Y_afterCut_42 wm_Y_16 wc_Y_meldsLeft rfl (Nat.le_of_ble_eq_true rfl) (fun q6 h => ?_)
    show V _ _ _ _ _ _ _ (.int q6.1 :: .int (q1.1 + q2.1) :: []) _
    refine x_isub d_Y_afterCut_45 ?_
    cases h
    exact x_iret rfl d_Y_afterCut_46
  · refine x_iload 0 d_Y_afterCut_25 rfl ?_
    cases h
    exact x_iret rfl d_Y_afterCut_27
theorem s_Y_afterCut : ∀ (d : Nat) (p0 : Option Nat) (p1 : Int32) (p2 : Int32) (S : xS) (z : Int32 × xS), f_Y_afterCut d p0 p1 p2 S = some z → ∀ (l : Launch) (D : xD), xMet l m_Y_afterCut D d [.inr (.inr p0), .inl p1, .inl p2] S (cvI z) := by
  intro d
  induction d with
  | zero =>
    intro p0 p1 p2 S z h
    cases h
  | succ d ih =>
    intro p0 p1 p2 S z h l D
    exact x_ofV rfl (by decide) (Nat.le_of_ble_eq_true rfl) (te_Y_afterCut  p0 p1 p2 S z h)
set_option maxRecDepth 100000 in
set_option maxHeartbeats 4000000 in
theorem tb_Y_within_26 {D : xD} {d : Nat} {S0 : xS} : ∀ (y0 : Int32) (S : xS) (z : Int32 × xS), b_Y_within_26 d y0 S = some z → V m_Y_within D (d + 1) S0 (cvI z) 26 [] [.int y0] S := by
  intro y0 S z h
  unfold b_Y_within_26 at h
  cases h
  exact x_iret rfl d_Y_within_26
set_option maxRecDepth 100000 in
set_option maxHeartbeats 4000000 in
theorem te_Y_within {D : xD} {d : Nat} {S0 : xS} : ∀ (p0 : Option Nat) (p1 : Int32) (p2 : Int32) (S : xS) (z : Int32 × xS), e_Y_within d p0 p1 p2 S = some z → V m_Y_within D (d + 1) S0 (cvI z) 0 [(0, .inr (.inr p0)), (1, .inl p1), (2, .inl p2)] [] S := by
  intro p0 p1 p2 S z h
  unfold e_Y_within at h
  refine x_iload_n 2 d_Y_within_0 rfl rfl ?_
  refine x_iconst (v := 1) d_Y_within_1 (by decide) ?_
  refine x_icmp_ge (tgt := 9) d_Y_within_2 (by decide) h (fun h => ?_) (fun h => ?_)
  · refine x_aload_n 0 d_Y_within_9 rfl rfl ?_
    refine x_iload_n 1 d_Y_within_10 rfl rfl ?_
    refine x_iload_n 2 d_Y_within_11 rfl rfl ?_
    refine x_iadd d_Y_within_12 ?_
    refine x_iconst (v := 1) d_Y_within_13 (by decide) ?_
    refine x_isub d_Y_within_14 ?_
    refine x_callS' (M' := m_R_orderAt) (ax := [.inr (.inr p0), .inl ((p1 + p2) - 1)]) (cv := cvI) (host := (some "PieceTexts")) (st := []) h (fun q h l => s_R_orderAt d p0 ((p1 + p2) - 1) S q h l D) rfl d_Y_within_15 wm_Y_46 wc_R_orderAt rfl (Nat.le_of_ble_eq_true rfl) (fun q1 h => ?_)
    show V _ _ _ _ _ _ _ (.int q1.1 :: []) _
    refine x_aload_n 0 d_Y_within_18 rfl rfl ?_
    refine x_iload_n 1 d_Y_within_19 rfl rfl ?_
    refine x_callS' (M' := m_R_orderAt) (ax := [.inr (.inr p0), .inl p1]) (cv := cvI) (host := (some "PieceTexts")) (st := [.int q1.1]) h (fun q h l => s_R_orderAt d p0 p1 q1.2 q h l D) rfl d_Y_within_20 wm_Y_46 wc_R_orderAt rfl (Nat.le_of_ble_eq_true rfl) (fun q2 h => ?_)
    show V _ _ _ _ _ _ _ (.int q2.1 :: .int q1.1 :: []) _
    refine x_isub d_Y_within_23 ?_
    refine x_iconst (v := 1) d_Y_within_24 (by decide) ?_
    refine x_iadd d_Y_within_25 ?_
    refine x_ls [] rfl ?_
    exact tb_Y_within_26 ((q1.1 - q2.1) + 1) q2.2 _ h
  · refine x_iconst (v := 0) d_Y_within_5 (by decide) ?_
    refine x_goto (tgt := 26) d_Y_within_6 (by decide) ?_
    refine x_ls [] rfl ?_
    exact tb_Y_within_26 0 S _ h
theorem s_Y_within : ∀ (d : Nat) (p0 : Option Nat) (p1 : Int32) (p2 : Int32) (S : xS) (z : Int32 × xS), f_Y_within d p0 p1 p2 S = some z → ∀ (l : Launch) (D : xD), xMet l m_Y_within D d [.inr (.inr p0), .inl p1, .inl p2] S (cvI z) := by
  intro d
  induction d with
  | zero =>
    intro p0 p1 p2 S z h
    cases h
  | succ d ih =>
    intro p0 p1 p2 S z h l D
    exact x_ofV rfl (by decide) (Nat.le_of_ble_eq_true rfl) (te_Y_within  p0 p1 p2 S z h)
set_option maxRecDepth 100000 in
set_option maxHeartbeats 4000000 in
theorem te_Y_afterPaste {D : xD} {d : Nat} {S0 : xS} : ∀ (p0 : Option Nat) (p1 : Int32) (p2 : Option Nat) (S : xS) (z : Int32 × xS), e_Y_afterPaste d p0 p1 p2 S = some z → V m_Y_afterPaste D (d + 1) S0 (cvI z) 0 [(0, .inr (.inr p0)), (1, .inl p1), (2, .inr (.inr p2))] [] S := by
  intro p0 p1 p2 S z h
  unfold e_Y_afterPaste at h
  refine x_aload_n 2 d_Y_afterPaste_0 rfl rfl ?_
  refine x_ifnonnull (tgt := 9) d_Y_afterPaste_1 (by decide) h (fun _ _ h => ?_) (fun _ h => ?_)
  · refine x_aload_n 2 d_Y_afterPaste_9 rfl rfl ?_
    refine x_callS' (M' := m_R_charactersOf) (ax := [.inr (.inr p2)]) (cv := cvI) (host := (some "PieceTexts")) (st := []) h (fun q h l => s_R_charactersOf d p2 S q h l D) rfl d_Y_afterPaste_10 wm_Y_23 wc_R_charactersOf rfl (Nat.le_of_ble_eq_true rfl) (fun q3 h => ?_)
    show V _ _ _ _ _ _ _ (.int q3.1 :: []) _
    refine x_iconst (v := 1) d_Y_afterPaste_13 (by decide) ?_
    refine x_isub d_Y_afterPaste_14 ?_
    refine x_istore_n (lv' := [(3, .inl (q3.1 - 1)), (0, .inr (.inr p0)), (1, .inl p1), (2, .inr (.inr p2))]) d_Y_afterPaste_15 rfl (by decide) rfl ?_
    refine x_aload_n 1 d_Y_afterPaste_16 rfl rfl ?_
    refine x_iload_n 2 d_Y_afterPaste_17 rfl rfl ?_
    refine x_callS' (M' := m_Y_before) (ax := [.inr (.inr p0), .inl p1]) (cv := cvI) (host := none) (st := []) h (fun q h l => s_Y_before d p0 p1 q3.2 q h l D) rfl d_Y_afterPaste_18 wm_Y_7 wc_Y_before rfl (Nat.le_of_ble_eq_true rfl) (fun q4 h => ?_)
    show V _ _ _ _ _ _ _ (.int q4.1 :: []) _
    refine x_aload_n 3 d_Y_afterPaste_21 rfl rfl ?_
    refine x_callS' (M' := m_R_piecesOf) (ax := [.inr (.inr p2)]) (cv := cvI) (host := (some "PieceTexts")) (st := [.int q4.1]) h (fun q h l => s_R_piecesOf d p2 q4.2 q h l D) rfl d_Y_afterPaste_22 wm_Y_35 wc_R_piecesOf rfl (Nat.le_of_ble_eq_true rfl) (fun q5 h => ?_)
    show V _ _ _ _ _ _ _ (.int q5.1 :: .int q4.1 :: []) _
    refine x_iadd d_Y_afterPaste_25 ?_
    refine x_aload_n 1 d_Y_afterPaste_26 rfl rfl ?_
    refine x_iload_n 2 d_Y_afterPaste_27 rfl rfl ?_
    refine x_callS' (M' := m_Y_behind) (ax := [.inr (.inr p0), .inl p1]) (cv := cvI) (host := none) (st := [.int (q4.1 + q5.1)]) h (fun q h l => s_Y_behind d p0 p1 q5.2 q h l D) rfl d_Y_afterPaste_28 wm_Y_13 wc_Y_behind rfl (Nat.le_of_ble_eq_true rfl) (fun q6 h => ?_)
    show V _ _ _ _ _ _ _ (.int q6.1 :: .int (q4.1 + q5.1) :: []) _
    refine x_iadd d_Y_afterPaste_31 ?_
    refine x_aload_n 1 d_Y_afterPaste_32 rfl rfl ?_
    refine x_iload_n 2 d_Y_afterPaste_33 rfl rfl ?_
    refine x_aload_n 3 d_Y_afterPaste_34 rfl rfl ?_
    refine x_iconst (v := 0) d_Y_afterPaste_35 (by decide) ?_
    refine x_callS' (M' := m_R_sourceAt) (ax := [.inr (.inr p2), .inl 0]) (cv := cvI) (host := (some "PieceTexts")) (st := [.int p1, va_rf p0, .int ((q4.1 + q5.1) + q6.1)]) h (fun q h l => s_R_sourceAt d p2 0 q6.2 q h l D) rfl d_Y_afterPaste_36 wm_Y_29 wc_R_sourceAt rfl (Nat.le_of_ble_eq_true rfl) (fun q7 h => ?_)
    show V _ _ _ _ _ _ _ (.int q7.1 :: .int p1 :: va_rf p0 :: .int ((q4.1 + q5.1) + q6.1) :: []) _
    refine x_aload_n 3 d_Y_afterPaste_39 rfl rfl ?_
    refine x_iconst (v := 0) d_Y_afterPaste_40 (by decide) ?_
    refine x_callS' (M' := m_R_tagAt) (ax := [.inr (.inr p2), .inl 0]) (cv := cvI) (host := (some "PieceTexts")) (st := [.int q7.1, .int p1, va_rf p0, .int ((q4.1 + q5.1) + q6.1)]) h (fun q h l => s_R_tagAt d p2 0 q7.2 q h l D) rfl d_Y_afterPaste_41 wm_Y_32 wc_R_tagAt rfl (Nat.le_of_ble_eq_true rfl) (fun q8 h => ?_)
    show V _ _ _ _ _ _ _ (.int q8.1 :: .int q7.1 :: .int p1 :: va_rf p0 :: .int ((q4.1 + q5.1) + q6.1) :: []) _
    refine x_callS' (M' := m_Y_meldsLeft) (ax := [.inr (.inr p0), .inl p1, .inl q7.1, .inl q8.1]) (cv := cvI) (host := none) (st := [.int ((q4.1 + q5.1) + q6.1)]) h (fun q h l => s_Y_meldsLeft d p0 p1 q7.1 q8.1 q8.2 q h l D) rfl d_Y_afterPaste_44 wm_Y_16 wc_Y_meldsLeft rfl (Nat.le_of_ble_eq_true rfl) (fun q9 h => ?_)
    show V _ _ _ _ _ _ _ (.int q9.1 :: .int ((q4.1 + q5.1) + q6.1) :: []) _
    refine x_isub d_Y_afterPaste_47 ?_
    refine x_aload_n 1 d_Y_afterPaste_48 rfl rfl ?_
    refine x_iload_n 2 d_Y_afterPaste_49 rfl rfl ?_
    refine x_aload_n 3 d_Y_afterPaste_50 rfl rfl ?_
    refine x_iload_n 0 d_Y_afterPaste_51 rfl rfl ?_
    refine x_callS' (M' := m_R_sourceAt) (ax := [.inr (.inr p2), .inl (q3.1 - 1)]) (cv := cvI) (host := (some "PieceTexts")) (st := [.int p1, va_rf p0, .int (((q4.1 + q5.1) + q6.1) - q9.1)]) h (fun q h l => s_R_sourceAt d p2 (q3.1 - 1) q9.2 q h l D) rfl d_Y_afterPaste_52 wm_Y_29 wc_R_sourceAt rfl (Nat.le_of_ble_eq_true rfl) (fun q10 h => ?_)
    show V _ _ _ _ _ _ _ (.int q10.1 :: .int p1 :: va_rf p0 :: .int (((q4.1 + q5.1) + q6.1) - q9.1) :: []) _
    refine x_aload_n 3 d_Y_afterPaste_55 rfl rfl ?_
    refine x_iload_n 0 d_Y_afterPaste_56 rfl rfl ?_
    refine x_callS' (M' := m_R_tagAt) (ax := [.inr (.inr p2), .inl (q3.1 - 1)]) (cv := cvI) (host := (some "PieceTexts")) (st := [.int q10.1, .int p1, va_rf p0, .int (((q4.1 + q5.1) + q6.1) - q9.1)]) h (fun q h l => s_R_tagAt d p2 (q3.1 - 1) q10.2 q h l D) rfl d_Y_afterPaste_57 wm_Y_32 wc_R_tagAt rfl (Nat.le_of_ble_eq_true rfl) (fun q11 h => ?_)
    show V _ _ _ _ _ _ _ (.int q11.1 :: .int q10.1 :: .int p1 :: va_rf p0 :: .int (((q4.1 + q5.1) + q6.1) - q9.1) :: []) _
    refine x_callS' (M' := m_Y_meldsRight) (ax := [.inr (.inr p0), .inl p1, .inl q10.1, .inl q11.1]) (cv := cvI) (host := none) (st := [.int (((q4.1 + q5.1) + q6.1) - q9.1)]) h (fun q h l => s_Y_meldsRight d p0 p1 q10.1 q11.1 q11.2 q h l D) rfl d_Y_afterPaste_60 wm_Y_20 wc_Y_meldsRight rfl (Nat.le_of_ble_eq_true rfl) (fun q12 h => ?_)
    show V _ _ _ _ _ _ _ (.int q12.1 :: .int (((q4.1 + q5.1) + q6.1) - q9.1) :: []) _
    refine x_isub d_Y_afterPaste_63 ?_
    cases h
    exact x_iret rfl d_Y_afterPaste_64
  · refine x_aload_n 0 d_Y_afterPaste_4 rfl rfl ?_
    refine x_callS' (M' := m_R_piecesOf) (ax := [.inr (.inr p0)]) (cv := cvI) (host := (some "PieceTexts")) (st := []) h (fun q h l => s_R_piecesOf d p0 S q h l D) rfl d_Y_afterPaste_5 wm_Y_35 wc_R_piecesOf rfl (Nat.le_of_ble_eq_true rfl) (fun q2 h => ?_)
    show V _ _ _ _ _ _ _ (.int q2.1 :: []) _
    cases h
    exact x_iret rfl d_Y_afterPaste_8
theorem s_Y_afterPaste : ∀ (d : Nat) (p0 : Option Nat) (p1 : Int32) (p2 : Option Nat) (S : xS) (z : Int32 × xS), f_Y_afterPaste d p0 p1 p2 S = some z → ∀ (l : Launch) (D : xD), xMet l m_Y_afterPaste D d [.inr (.inr p0), .inl p1, .inr (.inr p2)] S (cvI z) := by
  intro d
  induction d with
  | zero =>
    intro p0 p1 p2 S z h
    cases h
  | succ d ih =>
    intro p0 p1 p2 S z h l D
    exact x_ofV rfl (by decide) (Nat.le_of_ble_eq_true rfl) (te_Y_afterPaste  p0 p1 p2 S z h)
set_option maxRecDepth 100000 in
set_option maxHeartbeats 4000000 in
theorem te_Y_tagged {D : xD} {d : Nat} {S0 : xS} : ∀ (p0 : Int32) (p1 : Int32) (p2 : Int32) (S : xS) (z : Int32 × xS), e_Y_tagged d p0 p1 p2 S = some z → V m_Y_tagged D (d + 1) S0 (cvI z) 0 [(0, .inl p0), (1, .inl p1), (2, .inl p2)] [] S := by
  intro p0 p1 p2 S z h
  unfold e_Y_tagged at h
  refine x_iload_n 0 d_Y_tagged_0 rfl rfl ?_
  refine x_iload_n 1 d_Y_tagged_1 rfl rfl ?_
  refine x_iconst (v := (-1)) d_Y_tagged_2 (by decide) ?_
  refine x_ixor d_Y_tagged_3 ?_
  refine x_iand d_Y_tagged_4 ?_
  refine x_iload_n 2 d_Y_tagged_5 rfl rfl ?_
  refine x_iload_n 1 d_Y_tagged_6 rfl rfl ?_
  refine x_iand d_Y_tagged_7 ?_
  refine x_ior d_Y_tagged_8 ?_
  cases h
  exact x_iret rfl d_Y_tagged_9
theorem s_Y_tagged : ∀ (d : Nat) (p0 : Int32) (p1 : Int32) (p2 : Int32) (S : xS) (z : Int32 × xS), f_Y_tagged d p0 p1 p2 S = some z → ∀ (l : Launch) (D : xD), xMet l m_Y_tagged D d [.inl p0, .inl p1, .inl p2] S (cvI z) := by
  intro d
  induction d with
  | zero =>
    intro p0 p1 p2 S z h
    cases h
  | succ d ih =>
    intro p0 p1 p2 S z h l D
    exact x_ofV rfl (by decide) (Nat.le_of_ble_eq_true rfl) (te_Y_tagged  p0 p1 p2 S z h)
set_option maxRecDepth 100000 in
set_option maxHeartbeats 4000000 in
theorem tb_Y_withinTagged_107 {D : xD} {d : Nat} {S0 : xS} {k35 : Option Nat → Int32 → Int32 → Int32 → Int32 → Option Nat → Int32 → xS → Option (Int32 × xS)} (hk35 : ∀ (x0 : Option Nat) (x3 : Int32) (x4 : Int32) (x6 : Int32) (x7 : Int32) (x8 : Option Nat) (x9 : Int32)  (S : xS) (z : Int32 × xS), k35 x0 x3 x4 x6 x7 x8 x9 S = some z → V m_Y_withinTagged D (d + 1) S0 (cvI z) 35 [(0, .inr (.inr x0)), (3, .inl x3), (4, .inl x4), (6, .inl x6), (7, .inl x7), (8, .inr (.inr x8)), (9, .inl x9)] [] S) : ∀ (x0 : Option Nat) (x3 : Int32) (x4 : Int32) (x6 : Int32) (x7 : Int32) (x9 : Int32) (x10 : Option Nat) (S : xS) (z : Int32 × xS), b_Y_withinTagged_107 d k35 x0 x3 x4 x6 x7 x9 x10 S = some z → V m_Y_withinTagged D (d + 1) S0 (cvI z) 107 [(0, .inr (.inr x0)), (3, .inl x3), (4, .inl x4), (6, .inl x6), (7, .inl x7), (9, .inl x9), (10, .inr (.inr x10))] [] S := by
  intro x0 x3 x4 x6 x7 x9 x10 S z h
  unfold b_Y_withinTagged_107 at h
  refine x_aload 6 d_Y_withinTagged_107 rfl ?_
  refine x_astore (lv' := [(8, .inr (.inr x10)), (0, .inr (.inr x0)), (3, .inl x3), (4, .inl x4), (6, .inl x6), (7, .inl x7), (9, .inl x9), (10, .inr (.inr x10))]) d_Y_withinTagged_109 (by decide) rfl ?_
  refine x_iinc (v := 1) (lv' := [(9, .inl (x9 + 1)), (8, .inr (.inr x10)), (0, .inr (.inr x0)), (3, .inl x3), (4, .inl x4), (6, .inl x6), (7, .inl x7), (10, .inr (.inr x10))]) 6 d_Y_withinTagged_111 rfl (by decide) (by decide) rfl ?_
  refine x_goto (tgt := 35) d_Y_withinTagged_114 (by decide) ?_
  refine x_ls [2, 3, 4, 5, 6, 1, 0] rfl ?_
  exact hk35 x0 x3 x4 x6 x7 x10 (x9 + 1) S _ h
set_option maxRecDepth 100000 in
set_option maxHeartbeats 4000000 in
theorem tb_Y_withinTagged_104 {D : xD} {d : Nat} {S0 : xS} {k35 : Option Nat → Int32 → Int32 → Int32 → Int32 → Option Nat → Int32 → xS → Option (Int32 × xS)} (hk35 : ∀ (x0 : Option Nat) (x3 : Int32) (x4 : Int32) (x6 : Int32) (x7 : Int32) (x8 : Option Nat) (x9 : Int32)  (S : xS) (z : Int32 × xS), k35 x0 x3 x4 x6 x7 x8 x9 S = some z → V m_Y_withinTagged D (d + 1) S0 (cvI z) 35 [(0, .inr (.inr x0)), (3, .inl x3), (4, .inl x4), (6, .inl x6), (7, .inl x7), (8, .inr (.inr x8)), (9, .inl x9)] [] S) : ∀ (x0 : Option Nat) (x3 : Int32) (x4 : Int32) (x6 : Int32) (x7 : Int32) (x9 : Int32) (x10 : Option Nat) (S : xS) (z : Int32 × xS), b_Y_withinTagged_104 d k35 x0 x3 x4 x6 x7 x9 x10 S = some z → V m_Y_withinTagged D (d + 1) S0 (cvI z) 104 [(0, .inr (.inr x0)), (3, .inl x3), (4, .inl x4), (6, .inl x6), (7, .inl x7), (9, .inl x9), (10, .inr (.inr x10))] [] S := by
  intro x0 x3 x4 x6 x7 x9 x10 S z h
  unfold b_Y_withinTagged_104 at h
  refine x_iinc (v := 1) (lv' := [(7, .inl (x7 + 1)), (0, .inr (.inr x0)), (3, .inl x3), (4, .inl x4), (6, .inl x6), (9, .inl x9), (10, .inr (.inr x10))]) 4 d_Y_withinTagged_104 rfl (by decide) (by decide) rfl ?_
  refine x_ls [1, 2, 3, 4, 0, 5, 6] rfl ?_
  exact tb_Y_withinTagged_107 hk35 x0 x3 x4 x6 (x7 + 1) x9 x10 S _ h
set_option maxRecDepth 100000 in
set_option maxHeartbeats 4000000 in
theorem tb_Y_withinTagged_35 {D : xD} {d : Nat} {S0 : xS} {k35 : Option Nat → Int32 → Int32 → Int32 → Int32 → Option Nat → Int32 → xS → Option (Int32 × xS)} (hk35 : ∀ (x0 : Option Nat) (x3 : Int32) (x4 : Int32) (x6 : Int32) (x7 : Int32) (x8 : Option Nat) (x9 : Int32)  (S : xS) (z : Int32 × xS), k35 x0 x3 x4 x6 x7 x8 x9 S = some z → V m_Y_withinTagged D (d + 1) S0 (cvI z) 35 [(0, .inr (.inr x0)), (3, .inl x3), (4, .inl x4), (6, .inl x6), (7, .inl x7), (8, .inr (.inr x8)), (9, .inl x9)] [] S) : ∀ (x0 : Option Nat) (x3 : Int32) (x4 : Int32) (x6 : Int32) (x7 : Int32) (x8 : Option Nat) (x9 : Int32) (S : xS) (z : Int32 × xS), b_Y_withinTagged_35 d k35 x0 x3 x4 x6 x7 x8 x9 S = some z → V m_Y_withinTagged D (d + 1) S0 (cvI z) 35 [(0, .inr (.inr x0)), (3, .inl x3), (4, .inl x4), (6, .inl x6), (7, .inl x7), (8, .inr (.inr x8)), (9, .inl x9)] [] S := by
  intro x0 x3 x4 x6 x7 x8 x9 S z h
  unfold b_Y_withinTagged_35 at h
  refine x_iload 6 d_Y_withinTagged_35 rfl ?_
  refine x_iload 3 d_Y_withinTagged_37 rfl ?_
  refine x_icmp_gt (tgt := 117) d_Y_withinTagged_39 (by decide) h (fun h => ?_) (fun h => ?_)
  · refine x_iload 4 d_Y_withinTagged_117 rfl ?_
    cases h
    exact x_iret rfl d_Y_withinTagged_119
  · refine x_aload_n 0 d_Y_withinTagged_42 rfl rfl ?_
    refine x_iload 6 d_Y_withinTagged_43 rfl ?_
    refine x_callS' (M' := m_R_numbered) (ax := [.inr (.inr x0), .inl x9]) (cv := cvR) (host := (some "PieceTexts")) (st := []) h (fun q h l => s_R_numbered d x0 x9 S q h l D) rfl d_Y_withinTagged_45 wm_Y_49 wc_R_numbered rfl (Nat.le_of_ble_eq_true rfl) (fun q1 h => ?_)
    show V _ _ _ _ _ _ _ (va_rf q1.1 :: []) _
    refine x_astore (lv' := [(10, .inr (.inr q1.1)), (0, .inr (.inr x0)), (3, .inl x3), (4, .inl x4), (6, .inl x6), (7, .inl x7), (8, .inr (.inr x8)), (9, .inl x9)]) d_Y_withinTagged_48 (by decide) rfl ?_
    refine x_aload 6 d_Y_withinTagged_50 rfl ?_
    refine x_ifnull (tgt := 104) d_Y_withinTagged_52 (by decide) h (fun _ h => ?_) (fun _ _ h => ?_)
    · refine x_ls [1, 2, 3, 4, 5, 7, 0] rfl ?_
      exact tb_Y_withinTagged_104 hk35 x0 x3 x4 x6 x7 x9 q1.1 q1.2 _ h
    · refine x_aload 0 d_Y_withinTagged_55 rfl ?_
      refine x_ifnull (tgt := 104) d_Y_withinTagged_57 (by decide) h (fun _ h => ?_) (fun _ _ h => ?_)
      · refine x_ls [1, 2, 3, 4, 5, 7, 0] rfl ?_
        exact tb_Y_withinTagged_104 hk35 x0 x3 x4 x6 x7 x9 q1.1 q1.2 _ h
      · refine x_aload 6 d_Y_withinTagged_60 rfl ?_
        refine x_getI (host := (some "PieceTexts")) h hc_2 hi_2 (by decide) wf_Y_53 d_Y_withinTagged_62 (fun v4 h => ?_)
        refine x_aload 6 d_Y_withinTagged_65 rfl ?_
        refine x_getI (host := (some "PieceTexts")) h hc_2 hi_2 (by decide) wf_Y_59 d_Y_withinTagged_67 (fun v5 h => ?_)
        refine x_iadd d_Y_withinTagged_70 ?_
        refine x_aload 0 d_Y_withinTagged_71 rfl ?_
        refine x_getI (host := (some "PieceTexts")) h hc_2 hi_2 (by decide) wf_Y_53 d_Y_withinTagged_73 (fun v6 h => ?_)
        refine x_icmp_ne (tgt := 104) d_Y_withinTagged_76 (by decide) h (fun h => ?_) (fun h => ?_)
        · refine x_ls [1, 2, 3, 4, 5, 7, 0] rfl ?_
          exact tb_Y_withinTagged_104 hk35 x0 x3 x4 x6 x7 x9 q1.1 q1.2 _ h
        · refine x_aload 6 d_Y_withinTagged_79 rfl ?_
          refine x_getI (host := (some "PieceTexts")) h hc_2 hi_2 (by decide) wf_Y_62 d_Y_withinTagged_81 (fun v7 h => ?_)
          refine x_iload_n 2 d_Y_withinTagged_84 rfl rfl ?_
          refine x_iload 3 d_Y_withinTagged_85 rfl ?_
          refine x_callS' (M' := m_Y_tagged) (ax := [.inl v7, .inl x3, .inl x4]) (cv := cvI) (host := none) (st := []) h (fun q h l => s_Y_tagged d v7 x3 x4 q1.2 q h l D) rfl d_Y_withinTagged_87 wm_Y_38 wc_Y_tagged rfl (Nat.le_of_ble_eq_true rfl) (fun q8 h => ?_)
          show V _ _ _ _ _ _ _ (.int q8.1 :: []) _
          refine x_aload 0 d_Y_withinTagged_90 rfl ?_
          refine x_getI (host := (some "PieceTexts")) h hc_2 hi_2 (by decide) wf_Y_62 d_Y_withinTagged_92 (fun v9 h => ?_)
          refine x_iload_n 2 d_Y_withinTagged_95 rfl rfl ?_
          refine x_iload 3 d_Y_withinTagged_96 rfl ?_
          refine x_callS' (M' := m_Y_tagged) (ax := [.inl v9, .inl x3, .inl x4]) (cv := cvI) (host := none) (st := [.int q8.1]) h (fun q h l => s_Y_tagged d v9 x3 x4 q8.2 q h l D) rfl d_Y_withinTagged_98 wm_Y_38 wc_Y_tagged rfl (Nat.le_of_ble_eq_true rfl) (fun q10 h => ?_)
          show V _ _ _ _ _ _ _ (.int q10.1 :: .int q8.1 :: []) _
          refine x_icmp_eq (tgt := 107) d_Y_withinTagged_101 (by decide) h (fun h => ?_) (fun h => ?_)
          · refine x_ls [1, 2, 3, 4, 5, 7, 0] rfl ?_
            exact tb_Y_withinTagged_107 hk35 x0 x3 x4 x6 x7 x9 q1.1 q10.2 _ h
          · refine x_ls [1, 2, 3, 4, 5, 7, 0] rfl ?_
            exact tb_Y_withinTagged_104 hk35 x0 x3 x4 x6 x7 x9 q1.1 q10.2 _ h
theorem tl_Y_withinTagged_35 {D : xD} {d : Nat} {S0 : xS} : ∀ (n : Nat) (x0 : Option Nat) (x3 : Int32) (x4 : Int32) (x6 : Int32) (x7 : Int32) (x8 : Option Nat) (x9 : Int32) (S : xS) (z : Int32 × xS), l_Y_withinTagged_35 d n x0 x3 x4 x6 x7 x8 x9 S = some z → V m_Y_withinTagged D (d + 1) S0 (cvI z) 35 [(0, .inr (.inr x0)), (3, .inl x3), (4, .inl x4), (6, .inl x6), (7, .inl x7), (8, .inr (.inr x8)), (9, .inl x9)] [] S := by
  intro n
  induction n with
  | zero =>
    intro x0 x3 x4 x6 x7 x8 x9 S z h
    cases h
  | succ n ih =>
    intro x0 x3 x4 x6 x7 x8 x9 S z h
    exact tb_Y_withinTagged_35  ih x0 x3 x4 x6 x7 x8 x9 S z h
set_option maxRecDepth 100000 in
set_option maxHeartbeats 4000000 in
theorem te_Y_withinTagged {D : xD} {d : Nat} {S0 : xS} : ∀ (p0 : Option Nat) (p1 : Int32) (p2 : Int32) (p3 : Int32) (p4 : Int32) (S : xS) (z : Int32 × xS), e_Y_withinTagged d p0 p1 p2 p3 p4 S = some z → V m_Y_withinTagged D (d + 1) S0 (cvI z) 0 [(0, .inr (.inr p0)), (1, .inl p1), (2, .inl p2), (3, .inl p3), (4, .inl p4)] [] S := by
  intro p0 p1 p2 p3 p4 S z h
  unfold e_Y_withinTagged at h
  refine x_aload_n 0 d_Y_withinTagged_0 rfl rfl ?_
  refine x_iload_n 1 d_Y_withinTagged_1 rfl rfl ?_
  refine x_callS' (M' := m_R_orderAt) (ax := [.inr (.inr p0), .inl p1]) (cv := cvI) (host := (some "PieceTexts")) (st := []) h (fun q h l => s_R_orderAt d p0 p1 S q h l D) rfl d_Y_withinTagged_2 wm_Y_46 wc_R_orderAt rfl (Nat.le_of_ble_eq_true rfl) (fun q1 h => ?_)
  show V _ _ _ _ _ _ _ (.int q1.1 :: []) _
  refine x_istore (lv' := [(5, .inl q1.1), (0, .inr (.inr p0)), (1, .inl p1), (2, .inl p2), (3, .inl p3), (4, .inl p4)]) d_Y_withinTagged_5 (by decide) rfl ?_
  refine x_aload_n 1 d_Y_withinTagged_7 rfl rfl ?_
  refine x_iload_n 2 d_Y_withinTagged_8 rfl rfl ?_
  refine x_iload_n 3 d_Y_withinTagged_9 rfl rfl ?_
  refine x_iadd d_Y_withinTagged_10 ?_
  refine x_iconst (v := 1) d_Y_withinTagged_11 (by decide) ?_
  refine x_isub d_Y_withinTagged_12 ?_
  refine x_callS' (M' := m_R_orderAt) (ax := [.inr (.inr p0), .inl ((p1 + p2) - 1)]) (cv := cvI) (host := (some "PieceTexts")) (st := []) h (fun q h l => s_R_orderAt d p0 ((p1 + p2) - 1) q1.2 q h l D) rfl d_Y_withinTagged_13 wm_Y_46 wc_R_orderAt rfl (Nat.le_of_ble_eq_true rfl) (fun q2 h => ?_)
  show V _ _ _ _ _ _ _ (.int q2.1 :: []) _
  refine x_istore (lv' := [(6, .inl q2.1), (5, .inl q1.1), (0, .inr (.inr p0)), (1, .inl p1), (2, .inl p2), (3, .inl p3), (4, .inl p4)]) d_Y_withinTagged_16 (by decide) rfl ?_
  refine x_iconst (v := 1) d_Y_withinTagged_18 (by decide) ?_
  refine x_istore (lv' := [(7, .inl 1), (6, .inl q2.1), (5, .inl q1.1), (0, .inr (.inr p0)), (1, .inl p1), (2, .inl p2), (3, .inl p3), (4, .inl p4)]) d_Y_withinTagged_19 (by decide) rfl ?_
  refine x_aload_n 3 d_Y_withinTagged_21 rfl rfl ?_
  refine x_iload 2 d_Y_withinTagged_22 rfl ?_
  refine x_callS' (M' := m_R_numbered) (ax := [.inr (.inr p0), .inl q1.1]) (cv := cvR) (host := (some "PieceTexts")) (st := []) h (fun q h l => s_R_numbered d p0 q1.1 q2.2 q h l D) rfl d_Y_withinTagged_24 wm_Y_49 wc_R_numbered rfl (Nat.le_of_ble_eq_true rfl) (fun q3 h => ?_)
  show V _ _ _ _ _ _ _ (va_rf q3.1 :: []) _
  refine x_astore (lv' := [(8, .inr (.inr q3.1)), (7, .inl 1), (6, .inl q2.1), (5, .inl q1.1), (0, .inr (.inr p0)), (1, .inl p1), (2, .inl p2), (3, .inl p3), (4, .inl p4)]) d_Y_withinTagged_27 (by decide) rfl ?_
  refine x_iload 3 d_Y_withinTagged_29 rfl ?_
  refine x_iconst (v := 1) d_Y_withinTagged_31 (by decide) ?_
  refine x_iadd d_Y_withinTagged_32 ?_
  refine x_istore (lv' := [(9, .inl (q1.1 + 1)), (8, .inr (.inr q3.1)), (7, .inl 1), (6, .inl q2.1), (5, .inl q1.1), (0, .inr (.inr p0)), (1, .inl p1), (2, .inl p2), (3, .inl p3), (4, .inl p4)]) d_Y_withinTagged_33 (by decide) rfl ?_
  refine x_ls [5, 8, 9, 3, 2, 1, 0] rfl ?_
  exact tl_Y_withinTagged_35 xN p0 p3 p4 q2.1 1 q3.1 (q1.1 + 1) q3.2 _ h
theorem s_Y_withinTagged : ∀ (d : Nat) (p0 : Option Nat) (p1 : Int32) (p2 : Int32) (p3 : Int32) (p4 : Int32) (S : xS) (z : Int32 × xS), f_Y_withinTagged d p0 p1 p2 p3 p4 S = some z → ∀ (l : Launch) (D : xD), xMet l m_Y_withinTagged D d [.inr (.inr p0), .inl p1, .inl p2, .inl p3, .inl p4] S (cvI z) := by
  intro d
  induction d with
  | zero =>
    intro p0 p1 p2 p3 p4 S z h
    cases h
  | succ d ih =>
    intro p0 p1 p2 p3 p4 S z h l D
    exact x_ofV rfl (by decide) (Nat.le_of_ble_eq_true rfl) (te_Y_withinTagged  p0 p1 p2 p3 p4 S z h)
set_option maxRecDepth 100000 in
set_option maxHeartbeats 4000000 in
theorem te_Y_afterTag {D : xD} {d : Nat} {S0 : xS} : ∀ (p0 : Option Nat) (p1 : Int32) (p2 : Int32) (p3 : Int32) (p4 : Int32) (S : xS) (z : Int32 × xS), e_Y_afterTag d p0 p1 p2 p3 p4 S = some z → V m_Y_afterTag D (d + 1) S0 (cvI z) 0 [(0, .inr (.inr p0)), (1, .inl p1), (2, .inl p2), (3, .inl p3), (4, .inl p4)] [] S := by
  intro p0 p1 p2 p3 p4 S z h
  unfold e_Y_afterTag at h
  refine x_iload_n 2 d_Y_afterTag_0 rfl rfl ?_
  refine x_iconst (v := 1) d_Y_afterTag_1 (by decide) ?_
  refine x_icmp_ge (tgt := 10) d_Y_afterTag_2 (by decide) h (fun h => ?_) (fun h => ?_)
  · refine x_iload_n 1 d_Y_afterTag_10 rfl rfl ?_
    refine x_iload_n 2 d_Y_afterTag_11 rfl rfl ?_
    refine x_iadd d_Y_afterTag_12 ?_
    refine x_iconst (v := 1) d_Y_afterTag_13 (by decide) ?_
    refine x_isub d_Y_afterTag_14 ?_
    refine x_istore (lv' := [(5, .inl ((p1 + p2) - 1)), (0, .inr (.inr p0)), (1, .inl p1), (2, .inl p2), (3, .inl p3), (4, .inl p4)]) d_Y_afterTag_15 (by decide) rfl ?_
    refine x_aload_n 1 d_Y_afterTag_17 rfl rfl ?_
    refine x_iload_n 2 d_Y_afterTag_18 rfl rfl ?_
    refine x_callS' (M' := m_R_tagAt) (ax := [.inr (.inr p0), .inl p1]) (cv := cvI) (host := (some "PieceTexts")) (st := []) h (fun q h l => s_R_tagAt d p0 p1 S q h l D) rfl d_Y_afterTag_19 wm_Y_32 wc_R_tagAt rfl (Nat.le_of_ble_eq_true rfl) (fun q1 h => ?_)
    show V _ _ _ _ _ _ _ (.int q1.1 :: []) _
    refine x_iload_n 4 d_Y_afterTag_22 rfl rfl ?_
    refine x_iload 5 d_Y_afterTag_23 rfl ?_
    refine x_callS' (M' := m_Y_tagged) (ax := [.inl q1.1, .inl p3, .inl p4]) (cv := cvI) (host := none) (st := []) h (fun q h l => s_Y_tagged d q1.1 p3 p4 q1.2 q h l D) rfl d_Y_afterTag_25 wm_Y_38 wc_Y_tagged rfl (Nat.le_of_ble_eq_true rfl) (fun q2 h => ?_)
    show V _ _ _ _ _ _ _ (.int q2.1 :: []) _
    refine x_istore (lv' := [(6, .inl q2.1), (5, .inl ((p1 + p2) - 1)), (0, .inr (.inr p0)), (1, .inl p1), (2, .inl p2), (3, .inl p3), (4, .inl p4)]) d_Y_afterTag_28 (by decide) rfl ?_
    refine x_aload_n 2 d_Y_afterTag_30 rfl rfl ?_
    refine x_iload 1 d_Y_afterTag_31 rfl ?_
    refine x_callS' (M' := m_R_tagAt) (ax := [.inr (.inr p0), .inl ((p1 + p2) - 1)]) (cv := cvI) (host := (some "PieceTexts")) (st := []) h (fun q h l => s_R_tagAt d p0 ((p1 + p2) - 1) q2.2 q h l D) rfl d_Y_afterTag_33 wm_Y_32 wc_R_tagAt rfl (Nat.le_of_ble_eq_true rfl) (fun q3 h => ?_)
    show V _ _ _ _ _ _ _ (.int q3.1 :: []) _
    refine x_iload_n 5 d_Y_afterTag_36 rfl rfl ?_
    refine x_iload 6 d_Y_afterTag_37 rfl ?_
    refine x_callS' (M' := m_Y_tagged) (ax := [.inl q3.1, .inl p3, .inl p4]) (cv := cvI) (host := none) (st := []) h (fun q h l => s_Y_tagged d q3.1 p3 p4 q3.2 q h l D) rfl d_Y_afterTag_39 wm_Y_38 wc_Y_tagged rfl (Nat.le_of_ble_eq_true rfl) (fun q4 h => ?_)
    show V _ _ _ _ _ _ _ (.int q4.1 :: []) _
    refine x_istore (lv' := [(7, .inl q4.1), (6, .inl q2.1), (5, .inl ((p1 + p2) - 1)), (0, .inr (.inr p0)), (1, .inl p1), (2, .inl p2), (3, .inl p3), (4, .inl p4)]) d_Y_afterTag_42 (by decide) rfl ?_
    refine x_aload_n 3 d_Y_afterTag_44 rfl rfl ?_
    refine x_iload_n 4 d_Y_afterTag_45 rfl rfl ?_
    refine x_callS' (M' := m_Y_before) (ax := [.inr (.inr p0), .inl p1]) (cv := cvI) (host := none) (st := []) h (fun q h l => s_Y_before d p0 p1 q4.2 q h l D) rfl d_Y_afterTag_46 wm_Y_7 wc_Y_before rfl (Nat.le_of_ble_eq_true rfl) (fun q5 h => ?_)
    show V _ _ _ _ _ _ _ (.int q5.1 :: []) _
    refine x_aload_n 3 d_Y_afterTag_49 rfl rfl ?_
    refine x_iload_n 4 d_Y_afterTag_50 rfl rfl ?_
    refine x_iload_n 5 d_Y_afterTag_51 rfl rfl ?_
    refine x_iload_n 6 d_Y_afterTag_52 rfl rfl ?_
    refine x_iload 7 d_Y_afterTag_53 rfl ?_
    refine x_callS' (M' := m_Y_withinTagged) (ax := [.inr (.inr p0), .inl p1, .inl p2, .inl p3, .inl p4]) (cv := cvI) (host := none) (st := [.int q5.1]) h (fun q h l => s_Y_withinTagged d p0 p1 p2 p3 p4 q5.2 q h l D) rfl d_Y_afterTag_55 wm_Y_42 wc_Y_withinTagged rfl (Nat.le_of_ble_eq_true rfl) (fun q6 h => ?_)
    show V _ _ _ _ _ _ _ (.int q6.1 :: .int q5.1 :: []) _
    refine x_iadd d_Y_afterTag_58 ?_
    refine x_aload_n 3 d_Y_afterTag_59 rfl rfl ?_
    refine x_iload_n 4 d_Y_afterTag_60 rfl rfl ?_
    refine x_iload_n 5 d_Y_afterTag_61 rfl rfl ?_
    refine x_iadd d_Y_afterTag_62 ?_
    refine x_callS' (M' := m_Y_behind) (ax := [.inr (.inr p0), .inl (p1 + p2)]) (cv := cvI) (host := none) (st := [.int (q5.1 + q6.1)]) h (fun q h l => s_Y_behind d p0 (p1 + p2) q6.2 q h l D) rfl d_Y_afterTag_63 wm_Y_13 wc_Y_behind rfl (Nat.le_of_ble_eq_true rfl) (fun q7 h => ?_)
    show V _ _ _ _ _ _ _ (.int q7.1 :: .int (q5.1 + q6.1) :: []) _
    refine x_iadd d_Y_afterTag_66 ?_
    refine x_aload_n 3 d_Y_afterTag_67 rfl rfl ?_
    refine x_iload_n 4 d_Y_afterTag_68 rfl rfl ?_
    refine x_aload_n 3 d_Y_afterTag_69 rfl rfl ?_
    refine x_iload_n 4 d_Y_afterTag_70 rfl rfl ?_
    refine x_callS' (M' := m_R_sourceAt) (ax := [.inr (.inr p0), .inl p1]) (cv := cvI) (host := (some "PieceTexts")) (st := [.int p1, va_rf p0, .int ((q5.1 + q6.1) + q7.1)]) h (fun q h l => s_R_sourceAt d p0 p1 q7.2 q h l D) rfl d_Y_afterTag_71 wm_Y_29 wc_R_sourceAt rfl (Nat.le_of_ble_eq_true rfl) (fun q8 h => ?_)
    show V _ _ _ _ _ _ _ (.int q8.1 :: .int p1 :: va_rf p0 :: .int ((q5.1 + q6.1) + q7.1) :: []) _
    refine x_iload 1 d_Y_afterTag_74 rfl ?_
    refine x_callS' (M' := m_Y_meldsLeft) (ax := [.inr (.inr p0), .inl p1, .inl q8.1, .inl q2.1]) (cv := cvI) (host := none) (st := [.int ((q5.1 + q6.1) + q7.1)]) h (fun q h l => s_Y_meldsLeft d p0 p1 q8.1 q2.1 q8.2 q h l D) rfl d_Y_afterTag_76 wm_Y_16 wc_Y_meldsLeft rfl (Nat.le_of_ble_eq_true rfl) (fun q9 h => ?_)
    show V _ _ _ _ _ _ _ (.int q9.1 :: .int ((q5.1 + q6.1) + q7.1) :: []) _
    refine x_isub d_Y_afterTag_79 ?_
    refine x_aload_n 3 d_Y_afterTag_80 rfl rfl ?_
    refine x_iload_n 4 d_Y_afterTag_81 rfl rfl ?_
    refine x_iload_n 5 d_Y_afterTag_82 rfl rfl ?_
    refine x_iadd d_Y_afterTag_83 ?_
    refine x_aload_n 3 d_Y_afterTag_84 rfl rfl ?_
    refine x_iload 2 d_Y_afterTag_85 rfl ?_
    refine x_callS' (M' := m_R_sourceAt) (ax := [.inr (.inr p0), .inl ((p1 + p2) - 1)]) (cv := cvI) (host := (some "PieceTexts")) (st := [.int (p1 + p2), va_rf p0, .int (((q5.1 + q6.1) + q7.1) - q9.1)]) h (fun q h l => s_R_sourceAt d p0 ((p1 + p2) - 1) q9.2 q h l D) rfl d_Y_afterTag_87 wm_Y_29 wc_R_sourceAt rfl (Nat.le_of_ble_eq_true rfl) (fun q10 h => ?_)
    show V _ _ _ _ _ _ _ (.int q10.1 :: .int (p1 + p2) :: va_rf p0 :: .int (((q5.1 + q6.1) + q7.1) - q9.1) :: []) _
    refine x_iload 0 d_Y_afterTag_90 rfl ?_
    refine x_callS' (M' := m_Y_meldsRight) (ax := [.inr (.inr p0), .inl (p1 + p2), .inl q10.1, .inl q4.1]) (cv := cvI) (host := none) (st := [.int (((q5.1 + q6.1) + q7.1) - q9.1)]) h (fun q h l => s_Y_meldsRight d p0 (p1 + p2) q10.1 q4.1 q10.2 q h l D) rfl d_Y_afterTag_92 wm_Y_20 wc_Y_meldsRight rfl (Nat.le_of_ble_eq_true rfl) (fun q11 h => ?_)
    show V _ _ _ _ _ _ _ (.int q11.1 :: .int (((q5.1 + q6.1) + q7.1) - q9.1) :: []) _
    refine x_isub d_Y_afterTag_95 ?_
    cases h
    exact x_iret rfl d_Y_afterTag_96
  · refine x_aload_n 0 d_Y_afterTag_5 rfl rfl ?_
    refine x_callS' (M' := m_R_piecesOf) (ax := [.inr (.inr p0)]) (cv := cvI) (host := (some "PieceTexts")) (st := []) h (fun q h l => s_R_piecesOf d p0 S q h l D) rfl d_Y_afterTag_6 wm_Y_35 wc_R_piecesOf rfl (Nat.le_of_ble_eq_true rfl) (fun q12 h => ?_)
    show V _ _ _ _ _ _ _ (.int q12.1 :: []) _
    cases h
    exact x_iret rfl d_Y_afterTag_9
theorem s_Y_afterTag : ∀ (d : Nat) (p0 : Option Nat) (p1 : Int32) (p2 : Int32) (p3 : Int32) (p4 : Int32) (S : xS) (z : Int32 × xS), f_Y_afterTag d p0 p1 p2 p3 p4 S = some z → ∀ (l : Launch) (D : xD), xMet l m_Y_afterTag D d [.inr (.inr p0), .inl p1, .inl p2, .inl p3, .inl p4] S (cvI z) := by
  intro d
  induction d with
  | zero =>
    intro p0 p1 p2 p3 p4 S z h
    cases h
  | succ d ih =>
    intro p0 p1 p2 p3 p4 S z h l D
    exact x_ofV rfl (by decide) (Nat.le_of_ble_eq_true rfl) (te_Y_afterTag  p0 p1 p2 p3 p4 S z h)
set_option maxRecDepth 100000 in
set_option maxHeartbeats 4000000 in
theorem te_D_init {D : xD} {d : Nat} {S0 : xS} : ∀ (p0 : Option Nat) (p1 : Option Nat) (p2 : Int32) (S : xS) (z : Unit × xS), e_D_init d p0 p1 p2 S = some z → V m_D_init D (d + 1) S0 (cvV z) 0 [(0, .inr (.inr p0)), (1, .inr (.inr p1)), (2, .inl p2)] [] S := by
  intro p0 p1 p2 S z h
  unfold e_D_init at h
  refine x_aload_n 0 d_D_init_0 rfl rfl ?_
  refine x_objInit' h d_D_init_1 wO_D_1 w_objI w_objC (Nat.le_of_ble_eq_true rfl) (fun h => ?_)
  refine x_aload_n 0 d_D_init_4 rfl rfl ?_
  refine x_aload_n 1 d_D_init_5 rfl rfl ?_
  refine x_putF h hc_3 hi_3 tyX_3 ht_3 hn_3 (by decide) rfl rfl rfl (xnar_o _ _) (xfit_o _ _) wf_D_7p d_D_init_6 (fun S1 h => ?_)
  refine x_aload_n 0 d_D_init_9 rfl rfl ?_
  refine x_aload_n 1 d_D_init_10 rfl rfl ?_
  refine x_iload_n 2 d_D_init_11 rfl rfl ?_
  refine x_callS' (M' := m_R_orderAt) (ax := [.inr (.inr p1), .inl p2]) (cv := cvI) (host := (some "PieceTexts")) (st := [va_rf p0]) h (fun q h l => s_R_orderAt d p1 p2 S1 q h l D) rfl d_D_init_12 wm_D_13 wc_R_orderAt rfl (Nat.le_of_ble_eq_true rfl) (fun q2 h => ?_)
  show V _ _ _ _ _ _ _ (.int q2.1 :: va_rf p0 :: []) _
  refine x_put (host := none) h hc_3 hi_3 tyX_3 ht_3 hn_3 (by decide) rfl rfl rfl wf_D_19 d_D_init_15 (fun S3 h => ?_)
  refine x_aload_n 0 d_D_init_18 rfl rfl ?_
  refine x_aload_n 1 d_D_init_19 rfl rfl ?_
  refine x_aload_n 0 d_D_init_20 rfl rfl ?_
  refine x_getI (host := none) h hc_3 hi_3 (by decide) wf_D_19 d_D_init_21 (fun v4 h => ?_)
  refine x_callS' (M' := m_R_numbered) (ax := [.inr (.inr p1), .inl v4]) (cv := cvR) (host := (some "PieceTexts")) (st := [va_rf p0]) h (fun q h l => s_R_numbered d p1 v4 S3 q h l D) rfl d_D_init_24 wm_D_23 wc_R_numbered rfl (Nat.le_of_ble_eq_true rfl) (fun q5 h => ?_)
  show V _ _ _ _ _ _ _ (va_rf q5.1 :: va_rf p0 :: []) _
  refine x_put (host := none) h hc_3 hi_3 tyX_3 ht_3 hn_3 (by decide) rfl (xnar_o _ _) (xfit_o _ _) wf_D_27 d_D_init_27 (fun S6 h => ?_)
  refine x_aload_n 0 d_D_init_30 rfl rfl ?_
  refine x_iload_n 2 d_D_init_31 rfl rfl ?_
  refine x_aload_n 1 d_D_init_32 rfl rfl ?_
  refine x_aload_n 0 d_D_init_33 rfl rfl ?_
  refine x_getI (host := none) h hc_3 hi_3 (by decide) wf_D_19 d_D_init_34 (fun v7 h => ?_)
  refine x_callS' (M' := m_R_startOf) (ax := [.inr (.inr p1), .inl v7]) (cv := cvI) (host := (some "PieceTexts")) (st := [.int p2, va_rf p0]) h (fun q h l => s_R_startOf d p1 v7 S6 q h l D) rfl d_D_init_37 wm_D_30 wc_R_startOf rfl (Nat.le_of_ble_eq_true rfl) (fun q8 h => ?_)
  show V _ _ _ _ _ _ _ (.int q8.1 :: .int p2 :: va_rf p0 :: []) _
  refine x_isub d_D_init_40 ?_
  refine x_put (host := none) h hc_3 hi_3 tyX_3 ht_3 hn_3 (by decide) rfl rfl rfl wf_D_33 d_D_init_41 (fun S9 h => ?_)
  cases h
  exact x_vret rfl d_D_init_44
theorem s_D_init : ∀ (d : Nat) (p0 : Option Nat) (p1 : Option Nat) (p2 : Int32) (S : xS) (z : Unit × xS), f_D_init d p0 p1 p2 S = some z → ∀ (l : Launch) (D : xD), xMet l m_D_init D d [.inr (.inr p0), .inr (.inr p1), .inl p2] S (cvV z) := by
  intro d
  induction d with
  | zero =>
    intro p0 p1 p2 S z h
    cases h
  | succ d ih =>
    intro p0 p1 p2 S z h l D
    exact x_ofV rfl (by decide) (Nat.le_of_ble_eq_true rfl) (te_D_init  p0 p1 p2 S z h)
set_option maxRecDepth 100000 in
set_option maxHeartbeats 4000000 in
theorem tb_D_nextSource_76 {D : xD} {d : Nat} {S0 : xS} : ∀ (x1 : Int32) (S : xS) (z : Int32 × xS), b_D_nextSource_76 d x1 S = some z → V m_D_nextSource D (d + 1) S0 (cvI z) 76 [(1, .inl x1)] [] S := by
  intro x1 S z h
  unfold b_D_nextSource_76 at h
  refine x_iload_n 0 d_D_nextSource_76 rfl rfl ?_
  cases h
  exact x_iret rfl d_D_nextSource_77
set_option maxRecDepth 100000 in
set_option maxHeartbeats 4000000 in
theorem te_D_nextSource {D : xD} {d : Nat} {S0 : xS} : ∀ (p0 : Option Nat) (S : xS) (z : Int32 × xS), e_D_nextSource d p0 S = some z → V m_D_nextSource D (d + 1) S0 (cvI z) 0 [(0, .inr (.inr p0))] [] S := by
  intro p0 S z h
  unfold e_D_nextSource at h
  refine x_aload_n 0 d_D_nextSource_0 rfl rfl ?_
  refine x_getR (host := none) h hc_3 hi_3 (by decide) wf_D_27 d_D_nextSource_1 (fun v1 h => ?_)
  refine x_ifnonnull (tgt := 9) d_D_nextSource_4 (by decide) h (fun _ _ h => ?_) (fun _ h => ?_)
  · refine x_aload_n 0 d_D_nextSource_9 rfl rfl ?_
    refine x_getR (host := none) h hc_3 hi_3 (by decide) wf_D_27 d_D_nextSource_10 (fun v3 h => ?_)
    refine x_getI (host := (some "PieceTexts")) h hc_2 hi_2 (by decide) wf_D_36 d_D_nextSource_13 (fun v4 h => ?_)
    refine x_aload_n 0 d_D_nextSource_16 rfl rfl ?_
    refine x_getI (host := none) h hc_3 hi_3 (by decide) wf_D_33 d_D_nextSource_17 (fun v5 h => ?_)
    refine x_iadd d_D_nextSource_20 ?_
    refine x_istore_n (lv' := [(1, .inl (v4 + v5)), (0, .inr (.inr p0))]) d_D_nextSource_21 rfl (by decide) rfl ?_
    refine x_aload_n 1 d_D_nextSource_22 rfl rfl ?_
    refine x_dup d_D_nextSource_23 (xcat _) ?_
    refine x_getI (host := none) h hc_3 hi_3 (by decide) wf_D_33 d_D_nextSource_24 (fun v6 h => ?_)
    refine x_iconst (v := 1) d_D_nextSource_27 (by decide) ?_
    refine x_iadd d_D_nextSource_28 ?_
    refine x_put (host := none) h hc_3 hi_3 tyX_3 ht_3 hn_3 (by decide) rfl rfl rfl wf_D_33 d_D_nextSource_29 (fun S7 h => ?_)
    refine x_aload_n 1 d_D_nextSource_32 rfl rfl ?_
    refine x_getI (host := none) h hc_3 hi_3 (by decide) wf_D_33 d_D_nextSource_33 (fun v8 h => ?_)
    refine x_aload_n 1 d_D_nextSource_36 rfl rfl ?_
    refine x_getR (host := none) h hc_3 hi_3 (by decide) wf_D_27 d_D_nextSource_37 (fun v9 h => ?_)
    refine x_getI (host := (some "PieceTexts")) h hc_2 hi_2 (by decide) wf_D_41 d_D_nextSource_40 (fun v10 h => ?_)
    refine x_icmp_lt (tgt := 76) d_D_nextSource_43 (by decide) h (fun h => ?_) (fun h => ?_)
    · refine x_ls [0] rfl ?_
      exact tb_D_nextSource_76 (v4 + v5) S7 _ h
    · refine x_aload_n 1 d_D_nextSource_46 rfl rfl ?_
      refine x_dup d_D_nextSource_47 (xcat _) ?_
      refine x_getI (host := none) h hc_3 hi_3 (by decide) wf_D_19 d_D_nextSource_48 (fun v11 h => ?_)
      refine x_iconst (v := 1) d_D_nextSource_51 (by decide) ?_
      refine x_iadd d_D_nextSource_52 ?_
      refine x_put (host := none) h hc_3 hi_3 tyX_3 ht_3 hn_3 (by decide) rfl rfl rfl wf_D_19 d_D_nextSource_53 (fun S12 h => ?_)
      refine x_aload_n 1 d_D_nextSource_56 rfl rfl ?_
      refine x_aload_n 1 d_D_nextSource_57 rfl rfl ?_
      refine x_getR (host := none) h hc_3 hi_3 (by decide) wf_D_7 d_D_nextSource_58 (fun v13 h => ?_)
      refine x_aload_n 1 d_D_nextSource_61 rfl rfl ?_
      refine x_getI (host := none) h hc_3 hi_3 (by decide) wf_D_19 d_D_nextSource_62 (fun v14 h => ?_)
      refine x_callS' (M' := m_R_numbered) (ax := [.inr (.inr v13), .inl v14]) (cv := cvR) (host := (some "PieceTexts")) (st := [va_rf p0]) h (fun q h l => s_R_numbered d v13 v14 S12 q h l D) rfl d_D_nextSource_65 wm_D_23 wc_R_numbered rfl (Nat.le_of_ble_eq_true rfl) (fun q15 h => ?_)
      show V _ _ _ _ _ _ _ (va_rf q15.1 :: va_rf p0 :: []) _
      refine x_put (host := none) h hc_3 hi_3 tyX_3 ht_3 hn_3 (by decide) rfl (xnar_o _ _) (xfit_o _ _) wf_D_27 d_D_nextSource_68 (fun S16 h => ?_)
      refine x_aload_n 1 d_D_nextSource_71 rfl rfl ?_
      refine x_iconst (v := 0) d_D_nextSource_72 (by decide) ?_
      refine x_put (host := none) h hc_3 hi_3 tyX_3 ht_3 hn_3 (by decide) rfl rfl rfl wf_D_33 d_D_nextSource_73 (fun S17 h => ?_)
      refine x_ls [0] rfl ?_
      exact tb_D_nextSource_76 (v4 + v5) S17 _ h
  · refine x_iconst (v := (-1)) d_D_nextSource_7 (by decide) ?_
    cases h
    exact x_iret rfl d_D_nextSource_8
theorem s_D_nextSource : ∀ (d : Nat) (p0 : Option Nat) (S : xS) (z : Int32 × xS), f_D_nextSource d p0 S = some z → ∀ (l : Launch) (D : xD), xMet l m_D_nextSource D d [.inr (.inr p0)] S (cvI z) := by
  intro d
  induction d with
  | zero =>
    intro p0 S z h
    cases h
  | succ d ih =>
    intro p0 S z h l D
    exact x_ofV rfl (by decide) (Nat.le_of_ble_eq_true rfl) (te_D_nextSource  p0 S z h)
set_option maxRecDepth 100000 in
set_option maxHeartbeats 4000000 in
theorem tb_R_isShallow_43 {D : xD} {d : Nat} {S0 : xS} : ∀ (y0 : Int32) (S : xS) (z : Int32 × xS), b_R_isShallow_43 d y0 S = some z → V m_R_isShallow D (d + 1) S0 (cvI z) 43 [] [.int y0] S := by
  intro y0 S z h
  unfold b_R_isShallow_43 at h
  exact x_zretI h rfl d_R_isShallow_43
set_option maxRecDepth 100000 in
set_option maxHeartbeats 4000000 in
theorem tb_R_isShallow_42 {D : xD} {d : Nat} {S0 : xS} : ∀  (S : xS) (z : Int32 × xS), b_R_isShallow_42 d  S = some z → V m_R_isShallow D (d + 1) S0 (cvI z) 42 [] [] S := by
  intro  S z h
  unfold b_R_isShallow_42 at h
  refine x_iconst (v := 0) d_R_isShallow_42 (by decide) ?_
  refine x_ls [] rfl ?_
  exact tb_R_isShallow_43 0 S _ h
set_option maxRecDepth 100000 in
set_option maxHeartbeats 4000000 in
theorem te_R_isShallow {D : xD} {d : Nat} {S0 : xS} : ∀ (p0 : Option Nat) (S : xS) (z : Int32 × xS), e_R_isShallow d p0 S = some z → V m_R_isShallow D (d + 1) S0 (cvI z) 0 [(0, .inr (.inr p0))] [] S := by
  intro p0 S z h
  unfold e_R_isShallow at h
  refine x_aload_n 0 d_R_isShallow_0 rfl rfl ?_
  refine x_callS' (M' := m_R_heightOf) (ax := [.inr (.inr p0)]) (cv := cvI) (host := none) (st := []) h (fun q h l => s_R_heightOf d p0 S q h l D) rfl d_R_isShallow_1 wm_R_57 wc_R_heightOf rfl (Nat.le_of_ble_eq_true rfl) (fun q1 h => ?_)
  show V _ _ _ _ _ _ _ (.int q1.1 :: []) _
  refine x_istore_n (lv' := [(1, .inl q1.1), (0, .inr (.inr p0))]) d_R_isShallow_4 rfl (by decide) rfl ?_
  refine x_iload_n 0 d_R_isShallow_5 rfl rfl ?_
  refine x_iconst (v := 2) d_R_isShallow_6 (by decide) ?_
  refine x_icmp_gt (tgt := 12) d_R_isShallow_7 (by decide) h (fun h => ?_) (fun h => ?_)
  · refine x_aload_n 1 d_R_isShallow_12 rfl rfl ?_
    refine x_callS' (M' := m_R_piecesOf) (ax := [.inr (.inr p0)]) (cv := cvI) (host := none) (st := []) h (fun q h l => s_R_piecesOf d p0 q1.2 q h l D) rfl d_R_isShallow_13 wm_R_34 wc_R_piecesOf rfl (Nat.le_of_ble_eq_true rfl) (fun q2 h => ?_)
    show V _ _ _ _ _ _ _ (.int q2.1 :: []) _
    refine x_i2l d_R_isShallow_16 ?_
    refine x_lconst (v := 1) d_R_isShallow_17 (by decide) ?_
    refine x_ladd d_R_isShallow_18 ?_
    refine x_lstore_n (lv' := [(2, .inr (.inl (q2.1.toInt64 + ((1 : Int64))))), (1, .inl q1.1), (0, .inr (.inr p0))]) d_R_isShallow_19 rfl (by decide) rfl ?_
    refine x_iload_n 1 d_R_isShallow_20 rfl rfl ?_
    refine x_bipush (v := 40) d_R_isShallow_21 (by decide) ?_
    refine x_icmp_gt (tgt := 42) d_R_isShallow_23 (by decide) h (fun h => ?_) (fun h => ?_)
    · refine x_ls [] rfl ?_
      exact tb_R_isShallow_42 q2.2 _ h
    · refine x_lconst (v := 1) d_R_isShallow_26 (by decide) ?_
      refine x_iload_n 1 d_R_isShallow_27 rfl rfl ?_
      refine x_iconst (v := 2) d_R_isShallow_28 (by decide) ?_
      refine x_isub d_R_isShallow_29 ?_
      refine x_lshl d_R_isShallow_30 ?_
      refine x_lload_n 0 d_R_isShallow_31 rfl rfl ?_
      refine x_lload_n 0 d_R_isShallow_32 rfl rfl ?_
      refine x_lmul d_R_isShallow_33 ?_
      refine x_lcmp d_R_isShallow_34 ?_
      refine x_if_gt (tgt := 42) d_R_isShallow_35 (by decide) h (fun h => ?_) (fun h => ?_)
      · refine x_ls [] rfl ?_
        exact tb_R_isShallow_42 q2.2 _ h
      · refine x_iconst (v := 1) d_R_isShallow_38 (by decide) ?_
        refine x_goto (tgt := 43) d_R_isShallow_39 (by decide) ?_
        refine x_ls [] rfl ?_
        exact tb_R_isShallow_43 1 q2.2 _ h
  · refine x_iconst (v := 1) d_R_isShallow_10 (by decide) ?_
    exact x_zretI h rfl d_R_isShallow_11
theorem s_R_isShallow : ∀ (d : Nat) (p0 : Option Nat) (S : xS) (z : Int32 × xS), f_R_isShallow d p0 S = some z → ∀ (l : Launch) (D : xD), xMet l m_R_isShallow D d [.inr (.inr p0)] S (cvI z) := by
  intro d
  induction d with
  | zero =>
    intro p0 S z h
    cases h
  | succ d ih =>
    intro p0 S z h l D
    exact x_ofV rfl (by decide) (Nat.le_of_ble_eq_true rfl) (te_R_isShallow  p0 S z h)
end
