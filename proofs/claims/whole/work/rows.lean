section
-- ===== PART A: goes FIRST, ahead of the names: the tables' words, and 'selects' of the private methods out of them =====
/-- a private method of a class that the tables say can be made, by its rows of tables_1 -/
def lw_okq (q : MethodName × Nat) : Prop := (q.1.cls ≠ "java/lang/invoke/MethodHandle" ∧ q.1.cls ≠ "java/lang/invoke/VarHandle") ∧ Cond.instantiable q.1.cls q.2 ∈ tables_1 ∧ Cond.privateMethod q.1 ∈ tables_1 ∧ Cond.instanceMethod q.1 ∈ tables_1
theorem lw_p0 : lw_okq (⟨"PieceTexts", "isText", "(I)Z"⟩, 4) := ⟨⟨by decide +kernel, by decide +kernel⟩, List.mem_of_getElem? (i := 17) (by decide +kernel), List.mem_of_getElem? (i := 55) (by decide +kernel), List.mem_of_getElem? (i := 56) (by decide +kernel)⟩
theorem lw_p1 : lw_okq (⟨"PieceTexts", "rootOf", "(I)LPieceTexts$Piece;"⟩, 4) := ⟨⟨by decide +kernel, by decide +kernel⟩, List.mem_of_getElem? (i := 17) (by decide +kernel), List.mem_of_getElem? (i := 59) (by decide +kernel), List.mem_of_getElem? (i := 60) (by decide +kernel)⟩
theorem lw_p2 : lw_okq (⟨"PieceTexts", "charactersInAll", "()I"⟩, 4) := ⟨⟨by decide +kernel, by decide +kernel⟩, List.mem_of_getElem? (i := 17) (by decide +kernel), List.mem_of_getElem? (i := 70) (by decide +kernel), List.mem_of_getElem? (i := 71) (by decide +kernel)⟩
theorem lw_p3 : lw_okq (⟨"PieceTexts", "piecesInAll", "()I"⟩, 4) := ⟨⟨by decide +kernel, by decide +kernel⟩, List.mem_of_getElem? (i := 17) (by decide +kernel), List.mem_of_getElem? (i := 74) (by decide +kernel), List.mem_of_getElem? (i := 75) (by decide +kernel)⟩
theorem lw_p4 : lw_okq (⟨"PieceTexts", "allShallow", "()Z"⟩, 4) := ⟨⟨by decide +kernel, by decide +kernel⟩, List.mem_of_getElem? (i := 17) (by decide +kernel), List.mem_of_getElem? (i := 81) (by decide +kernel), List.mem_of_getElem? (i := 82) (by decide +kernel)⟩
theorem lw_p5 : lw_okq (⟨"java/lang/Throwable", "fillInStackTrace", "(I)Ljava/lang/Throwable;"⟩, 6) := ⟨⟨by decide +kernel, by decide +kernel⟩, List.mem_of_getElem? (i := 143) (by decide +kernel), List.mem_of_getElem? (i := 141) (by decide +kernel), List.mem_of_getElem? (i := 142) (by decide +kernel)⟩
theorem lw_p6 : lw_okq (⟨"PieceTexts", "append", "(B)V"⟩, 4) := ⟨⟨by decide +kernel, by decide +kernel⟩, List.mem_of_getElem? (i := 17) (by decide +kernel), List.mem_of_getElem? (i := 188) (by decide +kernel), List.mem_of_getElem? (i := 189) (by decide +kernel)⟩
theorem lw_p7 : lw_okq (⟨"PieceTexts", "demandEdge", "(II)V"⟩, 4) := ⟨⟨by decide +kernel, by decide +kernel⟩, List.mem_of_getElem? (i := 17) (by decide +kernel), List.mem_of_getElem? (i := 200) (by decide +kernel), List.mem_of_getElem? (i := 201) (by decide +kernel)⟩
theorem lw_p8 : lw_okq (⟨"PieceTexts", "demandText", "(I)V"⟩, 4) := ⟨⟨by decide +kernel, by decide +kernel⟩, List.mem_of_getElem? (i := 17) (by decide +kernel), List.mem_of_getElem? (i := 204) (by decide +kernel), List.mem_of_getElem? (i := 205) (by decide +kernel)⟩
theorem lw_p9 : lw_okq (⟨"PieceTexts", "demandRoom", "(II)V"⟩, 4) := ⟨⟨by decide +kernel, by decide +kernel⟩, List.mem_of_getElem? (i := 17) (by decide +kernel), List.mem_of_getElem? (i := 260) (by decide +kernel), List.mem_of_getElem? (i := 261) (by decide +kernel)⟩
theorem lw_p10 : lw_okq (⟨"PieceTexts$Trees", "part", "(LPieceTexts$Piece;I)LPieceTexts$Halves;"⟩, 1) := ⟨⟨by decide +kernel, by decide +kernel⟩, List.mem_of_getElem? (i := 27) (by decide +kernel), List.mem_of_getElem? (i := 266) (by decide +kernel), List.mem_of_getElem? (i := 267) (by decide +kernel)⟩
theorem lw_p11 : lw_okq (⟨"PieceTexts$Trees", "partInto", "(LPieceTexts$Halves;LPieceTexts$Piece;II)V"⟩, 1) := ⟨⟨by decide +kernel, by decide +kernel⟩, List.mem_of_getElem? (i := 27) (by decide +kernel), List.mem_of_getElem? (i := 285) (by decide +kernel), List.mem_of_getElem? (i := 286) (by decide +kernel)⟩
theorem lw_p12 : lw_okq (⟨"PieceTexts$Trees", "take", "(III)LPieceTexts$Piece;"⟩, 1) := ⟨⟨by decide +kernel, by decide +kernel⟩, List.mem_of_getElem? (i := 27) (by decide +kernel), List.mem_of_getElem? (i := 309) (by decide +kernel), List.mem_of_getElem? (i := 310) (by decide +kernel)⟩
theorem lw_p13 : lw_okq (⟨"PieceTexts$Trees", "meet", "(LPieceTexts$Piece;LPieceTexts$Piece;)LPieceTexts$Piece;"⟩, 1) := ⟨⟨by decide +kernel, by decide +kernel⟩, List.mem_of_getElem? (i := 27) (by decide +kernel), List.mem_of_getElem? (i := 364) (by decide +kernel), List.mem_of_getElem? (i := 365) (by decide +kernel)⟩
theorem lw_p14 : lw_okq (⟨"PieceTexts$Trees", "giveBack", "(LPieceTexts$Piece;)V"⟩, 1) := ⟨⟨by decide +kernel, by decide +kernel⟩, List.mem_of_getElem? (i := 27) (by decide +kernel), List.mem_of_getElem? (i := 377) (by decide +kernel), List.mem_of_getElem? (i := 378) (by decide +kernel)⟩
theorem lw_p15 : lw_okq (⟨"PieceTexts", "become", "(ILPieceTexts$Piece;)I"⟩, 4) := ⟨⟨by decide +kernel, by decide +kernel⟩, List.mem_of_getElem? (i := 17) (by decide +kernel), List.mem_of_getElem? (i := 384) (by decide +kernel), List.mem_of_getElem? (i := 385) (by decide +kernel)⟩
def lw_privs_1 : List (MethodName × Nat) := [(⟨"PieceTexts", "isText", "(I)Z"⟩, 4), (⟨"PieceTexts", "rootOf", "(I)LPieceTexts$Piece;"⟩, 4), (⟨"PieceTexts", "charactersInAll", "()I"⟩, 4), (⟨"PieceTexts", "piecesInAll", "()I"⟩, 4), (⟨"PieceTexts", "allShallow", "()Z"⟩, 4), (⟨"java/lang/Throwable", "fillInStackTrace", "(I)Ljava/lang/Throwable;"⟩, 6), (⟨"PieceTexts", "append", "(B)V"⟩, 4), (⟨"PieceTexts", "demandEdge", "(II)V"⟩, 4), (⟨"PieceTexts", "demandText", "(I)V"⟩, 4), (⟨"PieceTexts", "demandRoom", "(II)V"⟩, 4), (⟨"PieceTexts$Trees", "part", "(LPieceTexts$Piece;I)LPieceTexts$Halves;"⟩, 1), (⟨"PieceTexts$Trees", "partInto", "(LPieceTexts$Halves;LPieceTexts$Piece;II)V"⟩, 1), (⟨"PieceTexts$Trees", "take", "(III)LPieceTexts$Piece;"⟩, 1), (⟨"PieceTexts$Trees", "meet", "(LPieceTexts$Piece;LPieceTexts$Piece;)LPieceTexts$Piece;"⟩, 1), (⟨"PieceTexts$Trees", "giveBack", "(LPieceTexts$Piece;)V"⟩, 1), (⟨"PieceTexts", "become", "(ILPieceTexts$Piece;)I"⟩, 4)]
theorem lw_r1 : ∀ q ∈ lw_privs_1, lw_okq q := List.forall_mem_cons.mpr ⟨lw_p0, List.forall_mem_cons.mpr ⟨lw_p1, List.forall_mem_cons.mpr ⟨lw_p2, List.forall_mem_cons.mpr ⟨lw_p3, List.forall_mem_cons.mpr ⟨lw_p4, List.forall_mem_cons.mpr ⟨lw_p5, List.forall_mem_cons.mpr ⟨lw_p6, List.forall_mem_cons.mpr ⟨lw_p7, List.forall_mem_cons.mpr ⟨lw_p8, List.forall_mem_cons.mpr ⟨lw_p9, List.forall_mem_cons.mpr ⟨lw_p10, List.forall_mem_cons.mpr ⟨lw_p11, List.forall_mem_cons.mpr ⟨lw_p12, List.forall_mem_cons.mpr ⟨lw_p13, List.forall_mem_cons.mpr ⟨lw_p14, List.forall_mem_cons.mpr ⟨lw_p15, fun _ h => absurd h List.not_mem_nil⟩⟩⟩⟩⟩⟩⟩⟩⟩⟩⟩⟩⟩⟩⟩⟩
theorem lw_p16 : lw_okq (⟨"PieceTexts", "demandRange", "(III)V"⟩, 4) := ⟨⟨by decide +kernel, by decide +kernel⟩, List.mem_of_getElem? (i := 17) (by decide +kernel), List.mem_of_getElem? (i := 395) (by decide +kernel), List.mem_of_getElem? (i := 396) (by decide +kernel)⟩
theorem lw_p17 : lw_okq (⟨"PieceTexts", "demandFree", "(II)V"⟩, 4) := ⟨⟨by decide +kernel, by decide +kernel⟩, List.mem_of_getElem? (i := 17) (by decide +kernel), List.mem_of_getElem? (i := 400) (by decide +kernel), List.mem_of_getElem? (i := 401) (by decide +kernel)⟩
theorem lw_p18 : lw_okq (⟨"PieceTexts$Trees", "twin", "(LPieceTexts$Piece;III)LPieceTexts$Piece;"⟩, 1) := ⟨⟨by decide +kernel, by decide +kernel⟩, List.mem_of_getElem? (i := 27) (by decide +kernel), List.mem_of_getElem? (i := 429) (by decide +kernel), List.mem_of_getElem? (i := 430) (by decide +kernel)⟩
theorem lw_p19 : lw_okq (⟨"PieceTexts$Trees", "retag", "(LPieceTexts$Piece;III)LPieceTexts$Piece;"⟩, 1) := ⟨⟨by decide +kernel, by decide +kernel⟩, List.mem_of_getElem? (i := 27) (by decide +kernel), List.mem_of_getElem? (i := 454) (by decide +kernel), List.mem_of_getElem? (i := 455) (by decide +kernel)⟩
theorem lw_p20 : lw_okq (⟨"PieceTexts$Trees", "giveBackAll", "(LPieceTexts$Piece;I)V"⟩, 1) := ⟨⟨by decide +kernel, by decide +kernel⟩, List.mem_of_getElem? (i := 27) (by decide +kernel), List.mem_of_getElem? (i := 468) (by decide +kernel), List.mem_of_getElem? (i := 469) (by decide +kernel)⟩
theorem lw_p21 : lw_okq (⟨"PieceTexts", "byteAt", "(I)I"⟩, 4) := ⟨⟨by decide +kernel, by decide +kernel⟩, List.mem_of_getElem? (i := 17) (by decide +kernel), List.mem_of_getElem? (i := 481) (by decide +kernel), List.mem_of_getElem? (i := 482) (by decide +kernel)⟩
theorem lw_p22 : lw_okq (⟨"PieceTexts$Reader", "nextSource", "()I"⟩, 4) := ⟨⟨by decide +kernel, by decide +kernel⟩, List.mem_of_getElem? (i := 506) (by decide +kernel), List.mem_of_getElem? (i := 528) (by decide +kernel), List.mem_of_getElem? (i := 529) (by decide +kernel)⟩
theorem lw_p23 : lw_okq (⟨"PieceTextsModel", "raise", "(I)I"⟩, 8) := ⟨⟨by decide +kernel, by decide +kernel⟩, List.mem_of_getElem? (i := 540) (by decide +kernel), List.mem_of_getElem? (i := 581) (by decide +kernel), List.mem_of_getElem? (i := 582) (by decide +kernel)⟩
theorem lw_p24 : lw_okq (⟨"PieceTextsModel", "isPlace", "(II)Z"⟩, 8) := ⟨⟨by decide +kernel, by decide +kernel⟩, List.mem_of_getElem? (i := 540) (by decide +kernel), List.mem_of_getElem? (i := 589) (by decide +kernel), List.mem_of_getElem? (i := 590) (by decide +kernel)⟩
theorem lw_p25 : lw_okq (⟨"PieceTextsModel", "size", "(I)I"⟩, 8) := ⟨⟨by decide +kernel, by decide +kernel⟩, List.mem_of_getElem? (i := 540) (by decide +kernel), List.mem_of_getElem? (i := 596) (by decide +kernel), List.mem_of_getElem? (i := 597) (by decide +kernel)⟩
theorem lw_p26 : lw_okq (⟨"PieceTextsModel", "insert", "(III)V"⟩, 8) := ⟨⟨by decide +kernel, by decide +kernel⟩, List.mem_of_getElem? (i := 540) (by decide +kernel), List.mem_of_getElem? (i := 600) (by decide +kernel), List.mem_of_getElem? (i := 601) (by decide +kernel)⟩
theorem lw_p27 : lw_okq (⟨"PieceTextsModel", "allPieces", "()I"⟩, 8) := ⟨⟨by decide +kernel, by decide +kernel⟩, List.mem_of_getElem? (i := 540) (by decide +kernel), List.mem_of_getElem? (i := 604) (by decide +kernel), List.mem_of_getElem? (i := 605) (by decide +kernel)⟩
theorem lw_p28 : lw_okq (⟨"PieceTextsModel", "pieces", "(I)I"⟩, 8) := ⟨⟨by decide +kernel, by decide +kernel⟩, List.mem_of_getElem? (i := 540) (by decide +kernel), List.mem_of_getElem? (i := 608) (by decide +kernel), List.mem_of_getElem? (i := 609) (by decide +kernel)⟩
theorem lw_p29 : lw_okq (⟨"PieceTextsModel", "parts", "(II)Z"⟩, 8) := ⟨⟨by decide +kernel, by decide +kernel⟩, List.mem_of_getElem? (i := 540) (by decide +kernel), List.mem_of_getElem? (i := 612) (by decide +kernel), List.mem_of_getElem? (i := 613) (by decide +kernel)⟩
theorem lw_p30 : lw_okq (⟨"PieceTextsModel", "remove", "(III)V"⟩, 8) := ⟨⟨by decide +kernel, by decide +kernel⟩, List.mem_of_getElem? (i := 540) (by decide +kernel), List.mem_of_getElem? (i := 616) (by decide +kernel), List.mem_of_getElem? (i := 617) (by decide +kernel)⟩
theorem lw_p31 : lw_okq (⟨"PieceTextsModel", "isRange", "(III)Z"⟩, 8) := ⟨⟨by decide +kernel, by decide +kernel⟩, List.mem_of_getElem? (i := 540) (by decide +kernel), List.mem_of_getElem? (i := 624) (by decide +kernel), List.mem_of_getElem? (i := 625) (by decide +kernel)⟩
def lw_privs_2 : List (MethodName × Nat) := [(⟨"PieceTexts", "demandRange", "(III)V"⟩, 4), (⟨"PieceTexts", "demandFree", "(II)V"⟩, 4), (⟨"PieceTexts$Trees", "twin", "(LPieceTexts$Piece;III)LPieceTexts$Piece;"⟩, 1), (⟨"PieceTexts$Trees", "retag", "(LPieceTexts$Piece;III)LPieceTexts$Piece;"⟩, 1), (⟨"PieceTexts$Trees", "giveBackAll", "(LPieceTexts$Piece;I)V"⟩, 1), (⟨"PieceTexts", "byteAt", "(I)I"⟩, 4), (⟨"PieceTexts$Reader", "nextSource", "()I"⟩, 4), (⟨"PieceTextsModel", "raise", "(I)I"⟩, 8), (⟨"PieceTextsModel", "isPlace", "(II)Z"⟩, 8), (⟨"PieceTextsModel", "size", "(I)I"⟩, 8), (⟨"PieceTextsModel", "insert", "(III)V"⟩, 8), (⟨"PieceTextsModel", "allPieces", "()I"⟩, 8), (⟨"PieceTextsModel", "pieces", "(I)I"⟩, 8), (⟨"PieceTextsModel", "parts", "(II)Z"⟩, 8), (⟨"PieceTextsModel", "remove", "(III)V"⟩, 8), (⟨"PieceTextsModel", "isRange", "(III)Z"⟩, 8)]
theorem lw_r2 : ∀ q ∈ lw_privs_2, lw_okq q := List.forall_mem_cons.mpr ⟨lw_p16, List.forall_mem_cons.mpr ⟨lw_p17, List.forall_mem_cons.mpr ⟨lw_p18, List.forall_mem_cons.mpr ⟨lw_p19, List.forall_mem_cons.mpr ⟨lw_p20, List.forall_mem_cons.mpr ⟨lw_p21, List.forall_mem_cons.mpr ⟨lw_p22, List.forall_mem_cons.mpr ⟨lw_p23, List.forall_mem_cons.mpr ⟨lw_p24, List.forall_mem_cons.mpr ⟨lw_p25, List.forall_mem_cons.mpr ⟨lw_p26, List.forall_mem_cons.mpr ⟨lw_p27, List.forall_mem_cons.mpr ⟨lw_p28, List.forall_mem_cons.mpr ⟨lw_p29, List.forall_mem_cons.mpr ⟨lw_p30, List.forall_mem_cons.mpr ⟨lw_p31, fun _ h => absurd h List.not_mem_nil⟩⟩⟩⟩⟩⟩⟩⟩⟩⟩⟩⟩⟩⟩⟩⟩
theorem lw_p32 : lw_okq (⟨"PieceTextsModel", "keep", "(III)V"⟩, 8) := ⟨⟨by decide +kernel, by decide +kernel⟩, List.mem_of_getElem? (i := 540) (by decide +kernel), List.mem_of_getElem? (i := 628) (by decide +kernel), List.mem_of_getElem? (i := 629) (by decide +kernel)⟩
def lw_privs_3 : List (MethodName × Nat) := [(⟨"PieceTextsModel", "keep", "(III)V"⟩, 8)]
theorem lw_r3 : ∀ q ∈ lw_privs_3, lw_okq q := List.forall_mem_cons.mpr ⟨lw_p32, fun _ h => absurd h List.not_mem_nil⟩
def lw_privs : List (MethodName × Nat) := lw_privs_1 ++ (lw_privs_2 ++ (lw_privs_3))
def lw_tbl : List Cond := k2_sels lw_privs ++ tables_1
theorem lw_privs_ok : ∀ q ∈ lw_privs, lw_okq q := by
  show ∀ q ∈ lw_privs_1 ++ (lw_privs_2 ++ (lw_privs_3)), lw_okq q
  exact List.forall_mem_append.mpr ⟨lw_r1, List.forall_mem_append.mpr ⟨lw_r2, lw_r3⟩⟩
end
section
def TX_0 : u_T := fun k => match k with
  | 0 => ("PieceTexts", "buffer", "[B", true)
  | 1 => ("PieceTexts", "filled", "I", false)
  | 2 => ("PieceTexts", "roots", "[LPieceTexts$Piece;", true)
  | _ => ("PieceTexts", "trees", "LPieceTexts$Trees;", true)
def tyX_0 : Nat → FieldType := fun k => match k with
  | 0 => .array (.byte)
  | 1 => .int
  | 2 => .array (.object "PieceTexts$Piece")
  | _ => .object "PieceTexts$Trees"
def TX_1 : u_T := fun k => match k with
  | 0 => ("PieceTexts$Halves", "left", "LPieceTexts$Piece;", false)
  | _ => ("PieceTexts$Halves", "right", "LPieceTexts$Piece;", false)
def tyX_1 : Nat → FieldType := fun k => match k with
  | 0 => .object "PieceTexts$Piece"
  | _ => .object "PieceTexts$Piece"
def TX_2 : u_T := fun k => match k with
  | 0 => ("PieceTexts$Piece", "source", "I", false)
  | 1 => ("PieceTexts$Piece", "size", "I", false)
  | 2 => ("PieceTexts$Piece", "tag", "I", false)
  | 3 => ("PieceTexts$Piece", "left", "LPieceTexts$Piece;", false)
  | 4 => ("PieceTexts$Piece", "right", "LPieceTexts$Piece;", false)
  | 5 => ("PieceTexts$Piece", "height", "I", false)
  | 6 => ("PieceTexts$Piece", "pieces", "I", false)
  | _ => ("PieceTexts$Piece", "characters", "I", false)
def tyX_2 : Nat → FieldType := fun k => match k with
  | 0 => .int
  | 1 => .int
  | 2 => .int
  | 3 => .object "PieceTexts$Piece"
  | 4 => .object "PieceTexts$Piece"
  | 5 => .int
  | 6 => .int
  | _ => .int
def TX_3 : u_T := fun k => match k with
  | 0 => ("PieceTexts$Reader", "root", "LPieceTexts$Piece;", true)
  | 1 => ("PieceTexts$Reader", "order", "I", false)
  | 2 => ("PieceTexts$Reader", "current", "LPieceTexts$Piece;", false)
  | _ => ("PieceTexts$Reader", "offset", "I", false)
def tyX_3 : Nat → FieldType := fun k => match k with
  | 0 => .object "PieceTexts$Piece"
  | 1 => .int
  | 2 => .object "PieceTexts$Piece"
  | _ => .int
def TX_4 : u_T := fun k => match k with
  | _ => ("PieceTexts$Trees", "spare", "LPieceTexts$Piece;", false)
def tyX_4 : Nat → FieldType := fun k => match k with
  | _ => .object "PieceTexts$Piece"
def TX_5 : u_T := fun k => match k with
  | 0 => ("PieceTextsModel", "code", "I", false)
  | 1 => ("PieceTextsModel", "bytes", "I", false)
  | 2 => ("PieceTextsModel", "buffer", "[I", true)
  | 3 => ("PieceTextsModel", "begin", "[I", true)
  | 4 => ("PieceTextsModel", "source", "[I", true)
  | 5 => ("PieceTextsModel", "mark", "[I", true)
  | 6 => ("PieceTextsModel", "keptSource", "[I", true)
  | _ => ("PieceTextsModel", "keptMark", "[I", true)
def tyX_5 : Nat → FieldType := fun k => match k with
  | 0 => .int
  | 1 => .int
  | 2 => .array (.int)
  | 3 => .array (.int)
  | 4 => .array (.int)
  | 5 => .array (.int)
  | 6 => .array (.int)
  | _ => .array (.int)
abbrev xCl : List vw_C := [("PieceTexts", TX_0, 4), ("PieceTexts$Halves", TX_1, 2), ("PieceTexts$Piece", TX_2, 8), ("PieceTexts$Reader", TX_3, 4), ("PieceTexts$Trees", TX_4, 1), ("PieceTextsModel", TX_5, 8)]
def xAT : List FieldType := [.byte, .long, .object "PieceTexts$Piece", .int]
def xE : Nat → String
  | 0 => "java/lang/IllegalArgumentException"
  | 1 => "java/lang/IllegalStateException"
  | _ => "java/lang/IndexOutOfBoundsException"
section VXE
variable {p : Program} {l : Launch} {e : Env} {R : Room} {s : State} {m : MethodId} {args : Array Value} {below : List Frame} {meth : Method} {c : Code} {H : Heap} {locs : List Loc} {cells slots : Nat} {Q : State → Prop}
theorem vx_frame {U : State} {k n : Nat} (h : s.sameButNew ({ U with vm := s.vm } : State) locs k n) : s.heap.size ≤ U.heap.size ∧ ∀ q : Nat, q < s.heap.size → (∀ z ∈ locs, z.base ≠ q) → U.heap[q]? = s.heap[q]? := by
  obtain ⟨-, h2, -, -, -, h6⟩ := h
  refine ⟨h2, fun q hq hz => ?_⟩
  obtain ⟨c9, e1, e2, e3, e4⟩ := h6 q _ (Array.getElem?_eq_getElem hq)
  have hs : c9.slots = (s.heap[q]).slots := Array.ext_getElem? fun i => e4 i fun hm => hz _ hm rfl
  have h9 : c9 = s.heap[q] := by
    rw [hs] at e2
    exact e2
  have e5 : U.heap[q]? = some c9 := e1
  rw [e5, h9, Array.getElem?_eq_getElem hq]
/-- the words of a throw but the four that speak of the heap -/
def vx_no (w : Cond) : Bool := decide (w ≠ .isRef (.static Bundle.tN "UNASSIGNED_STACK" Bundle.steD)) && decide (w ≠ .isRef (.static Bundle.tN "SUPPRESSED_SENTINEL" Bundle.listD)) && decide (w ≠ .laysStatic Bundle.tN "UNASSIGNED_STACK" Bundle.steD) && decide (w ≠ .laysStatic Bundle.tN "SUPPRESSED_SENTINEL" Bundle.listD)
def vx_at0 (own : String) (ic : Nat) (X : String) (names : List String) : List Cond := (Bundle.ownAtoms0 own ic X names).filter vx_no
def vx_atS (own : String) (ic : Nat) (X : String) (names : List String) : List Cond := (Bundle.ownAtoms own ic X names).filter vx_no
/-- a word that the tables alone decide, or a good one -/
def vx_ot (w : Cond) : Bool := w.onTables || goodWord w
theorem vx_ot_at {args a' : Array Value} {s U : State} {w : Cond} (hW : s.WarmedH U.vm) (hvm : s.vm = U.vm) (hg : vx_ot w = true) (h : w.before args s = true) : w.before a' U = true := by
  simp only [vx_ot, Bool.or_eq_true] at hg
  rcases hg with hg | hg
  · exact va_tabs hg hvm h
  · exact word_at hW (good_of_word hg) h
/-- a list's words: the good ones out of the method's own list, the others by premises of their own -/
theorem vx_hat {args : Array Value} {s : State} {L B : List Cond} (h1 : ∀ w ∈ L.filter goodWord, w.before args s = true) (h2 : ∀ w ∈ L.filter (fun w => !goodWord w), w ∈ B) (h3 : ∀ w ∈ B, w.before args s = true) : ∀ w ∈ L, w.before args s = true := by
  intro w hw
  by_cases g : goodWord w = true
  · exact h1 w (List.mem_filter.mpr ⟨hw, g⟩)
  · refine h3 w (h2 w (List.mem_filter.mpr ⟨hw, ?_⟩))
    show (!goodWord w) = true
    cases hgw : goodWord w
    · rfl
    · exact absurd hgw g
theorem vx_c {args : Array Value} {s : State} {w : Cond} {B : List Cond} (h : w.before args s = true) (t : ∀ w ∈ B, w.before args s = true) : ∀ w' ∈ w :: B, w'.before args s = true := fun w' h' => (List.mem_cons.mp h').elim (fun e => by rw [e]; exact h) (t w')
theorem vx_n {args : Array Value} {s : State} : ∀ w ∈ ([] : List Cond), w.before args s = true := fun _ h => nomatch h
theorem vx_own {args : Array Value} {s : State} {L : List Cond} (h1 : ∀ w ∈ L.filter vx_no, w.before args s = true)
    (hU : (Cond.isRef (.static Bundle.tN "UNASSIGNED_STACK" Bundle.steD)).before args s = true) (hN : (Cond.isRef (.static Bundle.tN "SUPPRESSED_SENTINEL" Bundle.listD)).before args s = true)
    (lU : (Cond.laysStatic Bundle.tN "UNASSIGNED_STACK" Bundle.steD).before args s = true) (lN : (Cond.laysStatic Bundle.tN "SUPPRESSED_SENTINEL" Bundle.listD).before args s = true) : ∀ w ∈ L, w.before args s = true := by
  intro w hw
  by_cases e1 : w = .isRef (.static Bundle.tN "UNASSIGNED_STACK" Bundle.steD)
  · rw [e1]; exact hU
  · by_cases e2 : w = .isRef (.static Bundle.tN "SUPPRESSED_SENTINEL" Bundle.listD)
    · rw [e2]; exact hN
    · by_cases e3 : w = .laysStatic Bundle.tN "UNASSIGNED_STACK" Bundle.steD
      · rw [e3]; exact lU
      · by_cases e4 : w = .laysStatic Bundle.tN "SUPPRESSED_SENTINEL" Bundle.listD
        · rw [e4]; exact lN
        · exact h1 w (List.mem_filter.mpr ⟨hw, by unfold vx_no; rw [decide_eq_true e1, decide_eq_true e2, decide_eq_true e3, decide_eq_true e4]; rfl⟩)
/-- where a static field lies, its class's statics cell in H -/
def vx_L (C n d : String) (A : Nat → Prop) (U : State) (H : Heap) : Prop := ∃ (c : ClassId) (k : Class) (i : Nat) (f : Field) (a : Nat) (cell : Cell), U.vm.findClass C = some c ∧ U.fieldFound? C n d = some (c, k, i, f) ∧ f.isStatic = true ∧ k.statics = some a ∧ H[a]? = some cell ∧ cell.vm.isStatics = true ∧ cell.cls = c ∧ f.slot < cell.slots.size ∧ k.staticTypes[f.slot]? = some f.type ∧ ¬ A a
theorem vx_L.moved {C n d : String} {A : Nat → Prop} {u U : State} {H : Heap} (hvm : u.vm.Alike U.vm) (h : vx_L C n d A u H) : vx_L C n d A U H := by
  obtain ⟨c, k, i, f, a, cell, h1, h2, h3, h4, h5, h6, h7, h8, h9, h10⟩ := h
  obtain ⟨k', hi', he⟩ := State.fieldFound?_setVm hvm h2
  exact ⟨c, k', i, f, a, cell, by rw [hvm.findClass]; exact h1, hi', h3, by rw [he]; exact h4, h5, h6, h7, h8, by rw [he]; exact h9, h10⟩
theorem vx_L.kept {C n d : String} {A : Nat → Prop} {U : State} {H H1 : Heap} (h : vx_L C n d A U H) (hq : ∀ a : Nat, a < H.size → ¬ A a → H1[a]? = H[a]?) : vx_L C n d A U H1 := by
  obtain ⟨c, k, i, f, a, cell, h1, h2, h3, h4, h5, h6, h7, h8, h9, h10⟩ := h
  exact ⟨c, k, i, f, a, cell, h1, h2, h3, h4, by rw [hq a (Array.getElem?_eq_some_iff.mp h5).1 h10]; exact h5, h6, h7, h8, h9, h10⟩
theorem vx_L.narrow {C n d : String} {A B : Nat → Prop} {U : State} {H : Heap} (h : vx_L C n d A U H) (hAB : ∀ q, B q → A q) : vx_L C n d B U H := by
  obtain ⟨c, k, i, f, a, cell, h1, h2, h3, h4, h5, h6, h7, h8, h9, h10⟩ := h
  exact ⟨c, k, i, f, a, cell, h1, h2, h3, h4, h5, h6, h7, h8, h9, fun z => h10 (hAB _ z)⟩
theorem vx_L.word {C n d : String} {A : Nat → Prop} {s : State} {args : Array Value} (h : vx_L C n d A s s.heap) : (Cond.laysStatic C n d).before args s = true := by
  obtain ⟨c, k, i, f, a, cell, h1, h2, h3, h4, h5, h6, h7, h8, h9, -⟩ := h
  show (Cond.laysStatic C n d).holds args s none s [] = true
  exact Cond.laysStatic_of h1 h2 h3 h4 h5 h6 h7 h8 h9
/-- .. and what it holds: null or some reference -/
def vx_Zq (C n d : String) (A : Nat → Prop) (U : State) (H : Heap) : Prop := va_Zq C n d A U H ∧ vx_L C n d A U H
theorem vx_Zq.moved {C n d : String} {A : Nat → Prop} {u U : State} {H : Heap} (hvm : u.vm.Alike U.vm) (h : vx_Zq C n d A u H) : vx_Zq C n d A U H := ⟨va_Zq.moved hvm h.1, vx_L.moved hvm h.2⟩
theorem vx_Zq.kept {C n d : String} {A : Nat → Prop} {U : State} {H H1 : Heap} (h : vx_Zq C n d A U H) (hq : ∀ a : Nat, a < H.size → ¬ A a → H1[a]? = H[a]?) : vx_Zq C n d A U H1 := ⟨va_Zq.kept h.1 hq, vx_L.kept h.2 hq⟩
theorem vx_Zq.narrow {C n d : String} {A B : Nat → Prop} {U : State} {H : Heap} (h : vx_Zq C n d A U H) (hAB : ∀ q, B q → A q) : vx_Zq C n d B U H := ⟨va_Zq.narrow h.1 hAB, vx_L.narrow h.2 hAB⟩
theorem vx_Zqof {args : Array Value} {s : State} {C n d : String} {A : Nat → Prop} (hl : (Cond.laysStatic C n d).before args s = true) (hini : (Cond.initialized C).before args s = true) (h : (Cond.isRef (.static C n d)).before args s = true) (hA : ∀ a : Nat, a < s.heap.size → ¬ A a) : vx_Zq C n d A s s.heap := by
  refine ⟨va_Zqof hl hini h hA, ?_⟩
  obtain ⟨c, k, i, f, a, cell, h1, h2, h3, h4, h5, h6, h7, h8, h9⟩ := Cond.laysStatic_spec hl
  exact ⟨c, k, i, f, a, cell, h1, h2, h3, h4, h5, h6, h7, h8, h9, hA a (Array.getElem?_eq_some_iff.mp h5).1⟩
theorem vx_isRef {C n d : String} {v : Value} {A : Nat → Prop} {s : State} {args : Array Value} (h : va_Z C n d v A s s.heap) (hv : v.isRef = true) : (Cond.isRef (.static C n d)).before args s = true := by
  obtain ⟨cf, kf, fi, f, a, cell, h1, h2, h3, h4, h5, h6, h7, -⟩ := h
  have he : (Term.static C n d).eval args s none [] s = some v := by
    simp [Term.eval, State.fieldNamed?, h1, h2, h4, h5, h6, h7]
  simp only [Cond.before, Cond.holds, Cond.value, he]
  cases v <;> simp_all [Value.isRef]
theorem vx_isRefq {C n d : String} {A : Nat → Prop} {s : State} {args : Array Value} (h : va_Zq C n d A s s.heap) : (Cond.isRef (.static C n d)).before args s = true := by
  rcases h with h | ⟨t, h⟩
  · exact vx_isRef h rfl
  · exact vx_isRef h rfl
/-- the same frame, seen from here: as if the method were called anew in this heap -/
theorem vx_rebase {T : State} (X : Stand p l e R s m args below meth c T locs cells slots) {R' : Room} (hf : R'.frames ≤ R.frames) (hl : R'.locals ≤ R.locals) (hc : cells + R'.cells ≤ R.cells) (hs : slots + R'.slots ≤ R.slots) :
    Stand p l e R' ((T.setVm s.vm).setFrames (.invoking m args :: below)) m args below meth c T [] 0 0 := by
  have htop : (T.setVm s.vm).topJava?.isSome := X.here.top
  have hF : ((T.setVm s.vm).setFrames (.invoking m args :: below)).frames = .invoking m args :: below := State.frames_setFrames _ (State.cur_lt_of_top htop)
  obtain ⟨g₀, hg0⟩ := Option.isSome_iff_exists.mp htop
  obtain ⟨r, hr⟩ := State.topJava?_eq_some.mp hg0
  have hl9 : e.platform.stackLimits (T.setVm s.vm).me = e.platform.stackLimits s.me := X.limits
  have hb9 : (T.setVm s.vm).me.stackBytes = s.me.stackBytes := X.bytes
  refine ⟨X.admits, X.cas, X.clock, hF, ?_, X.hears, X.method, X.code, X.here, X.tail, X.warmed, ?_, ?_, ?_⟩
  · have h := X.room
    have hU : ((T.setVm s.vm).setFrames (.invoking m args :: below)).localsInUse = s.localsInUse := by
      rw [State.localsInUse_invoking hF (meth := meth) (c := c) X.method X.code, State.localsInUse_invoking X.frames X.method X.code]
    simp only [State.hasRoom, Bool.and_eq_true, decide_eq_true_eq] at h ⊢
    obtain ⟨⟨⟨⟨h1, h2, h3, h4, h5, h6⟩, h7⟩, h8⟩, h9⟩ := h
    rw [X.frames, List.length_cons] at h2 h3
    have q1 := X.heapSize
    have q2 := X.used
    simp only [hF, hU, List.length_cons, State.stackLimits_setFrames, State.stackBytes_setFrames, hl9, hb9]
    refine ⟨⟨⟨⟨by omega, by omega, by omega, by omega, by omega, h6⟩, ?_⟩, ?_⟩, X.book⟩
    · show T.heap.size + R'.cells ≤ e.platform.maxCells
      omega
    · show T.slotsUsed + R'.slots ≤ e.platform.maxSlots
      omega
  · rw [State.stackLimits_setFrames]; rfl
  · rw [State.stackBytes_setFrames]; rfl
  · refine ⟨?_, Nat.le_refl _, Nat.le_refl _, ?_, ?_, fun a c9 h9 => ⟨c9, h9, rfl, rfl, fun _ _ => rfl⟩⟩
    · obtain ⟨t, ht, -⟩ := State.frames_cons hr
      show T.setVm s.vm = { ((T.setVm s.vm).setFrames (.invoking m args :: below)).setFrames (T.setVm s.vm).frames with heap := T.heap, slotsUsed := T.slotsUsed }
      rw [State.setFrames_setFrames, State.setFrames_self ht]
      rfl
    · show T.slotsUsed = T.slotsUsed + ((T.heap.toList.drop T.heap.size).map (·.slots.size)).sum
      rw [List.drop_eq_nil_of_le (Nat.le_of_eq Array.length_toList)]
      rfl
    · show ((T.heap.toList.drop T.heap.size).map (·.slots.size)).sum ≤ 0
      rw [List.drop_eq_nil_of_le (Nat.le_of_eq Array.length_toList)]
      exact Nat.le_refl _
end VXE
end
section
/-! THE STATE OF A RUN: the cells that are known, the heap's size, the slots made so far, the most cells, the most slots. An object is its class's number and its fields, an array its type's number, its length and what it holds. -/
abbrev xO : Type := (Nat × vp_A) ⊕ (Nat × List Value)
abbrev xS : Type := (Nat → Option xO) × Nat × Nat × Nat × Nat
abbrev xD : Type := va_G × (Nat → ClassId) × Nat × Nat × (Nat → Int32)
/-- a method: its name, its bytes, its locals, its answer's type, its handlers -/
abbrev xM : Type := MethodName × ByteArray × Nat × Option FieldType × List (Nat × Nat × Nat × Nat)
/-- a value: an int, a long, a reference -/
abbrev xV : Type := Int32 ⊕ Int64 ⊕ Option Nat
def xval : xV → Value
  | .inl x => .int x
  | .inr (.inl x) => .long x
  | .inr (.inr x) => va_rf x
def xtwo : xV → Bool
  | .inr (.inl _) => true
  | _ => false
theorem xval_cat (v : xV) : ((xval v).category == 2) = xtwo v := by
  match v with
  | .inl x => rfl
  | .inr (.inl x) => rfl
  | .inr (.inr none) => rfl
  | .inr (.inr (some a)) => rfl
def xlv (ls : List (Nat × xV)) : List (Nat × Value) := ls.map fun q => (q.1, xval q.2)
theorem xlv_at {ls : List (Nat × xV)} {j i : Nat} {v : xV} (h : ls[j]? = some (i, v)) : (xlv ls)[j]? = some (i, xval v) := by
  rw [xlv, List.getElem?_map, h]
  rfl
def xst1 (ls : List (Nat × xV)) (i : Nat) (v : xV) : List (Nat × xV) := (i, v) :: ls.filter (fun q => !(q.1 == i) && !(q.1 + 1 == i && xtwo q.2))
def xst2 (ls : List (Nat × xV)) (i : Nat) (v : xV) : List (Nat × xV) := (i, v) :: ls.filter (fun q => !(q.1 == i) && (!(q.1 == i + 1) && !(q.1 + 1 == i && xtwo q.2)))
theorem xlv_st1 (ls : List (Nat × xV)) (i : Nat) (v : xV) : (i, xval v) :: (xlv ls).filter (fun q => !(q.1 == i) && !(q.1 + 1 == i && q.2.category == 2)) = xlv (xst1 ls i v) := by
  simp only [xlv, xst1, List.map_cons, List.filter_map, Function.comp_def, xval_cat]
theorem xlv_st2 (ls : List (Nat × xV)) (i : Nat) (v : xV) : (i, xval v) :: (xlv ls).filter (fun q => !(q.1 == i) && (!(q.1 == i + 1) && !(q.1 + 1 == i && q.2.category == 2))) = xlv (xst2 ls i v) := by
  simp only [xlv, xst2, List.map_cons, List.filter_map, Function.comp_def, xval_cat]
def xargs : Nat → List xV → List (Nat × xV)
  | _, [] => []
  | i, v :: vs => (i, v) :: xargs (if xtwo v = true then i + 2 else i + 1) vs
theorem xlv_args (vs : List xV) : ∀ i : Nat, lv_args i (vs.map xval) = xlv (xargs i vs) := by
  induction vs with
  | nil => intro i; rfl
  | cons v vs ih =>
    intro i
    have h : ((xval v).category = 2) = (xtwo v = true) := by rw [← xval_cat]; simp
    simp only [List.map_cons, lv_args, xargs, xlv, List.map_cons]
    rw [ih]
    simp only [h, xlv]
/-- an end: what is returned, or the number of the class that is thrown; and the state -/
abbrev xRes : Type := (Option Value ⊕ Nat) × xS
def x_at (D : xD) (a : Nat) (o : xO) (H : Heap) : Prop := match o with
  | .inl z => H[a]? = some (vp_cell (D.2.1 z.1) z.2)
  | .inr z => ∃ q : vw_C, xCl[z.1]? = some q ∧ t_OB a (D.1.1 z.1) q.2.2 (D.1.2 z.1) H (vp_V z.2)
theorem x_at.kept {D : xD} {a : Nat} {o : xO} {H H1 : Heap} (h : x_at D a o H) (hq : H1[a]? = H[a]?) : x_at D a o H1 := by
  cases o with
  | inl z => exact hq.trans h
  | inr z =>
    obtain ⟨q, h1, h2⟩ := h
    exact ⟨q, h1, h2.kept hq⟩
theorem x_at.lt {D : xD} {a : Nat} {o : xO} {H : Heap} (h : x_at D a o H) : a < H.size := by
  cases o with
  | inl z => exact (Array.getElem?_eq_some_iff.mp h).1
  | inr z =>
    obtain ⟨q, h1, cell, h2, -⟩ := h
    exact (Array.getElem?_eq_some_iff.mp h2).1
def xR (D : xD) (S : xS) (H : Heap) : Prop := H.size = S.2.1 ∧ (∀ (a : Nat) (o : xO), S.1 a = some o → x_at D a o H) ∧ S.2.1 ≤ S.2.2.2.1 ∧ S.2.2.1 ≤ S.2.2.2.2
def xset (S : xS) (a : Nat) (o : xO) : xS := (va_up S.1 a (some o), S.2)
def xpush (S : xS) (o : xO) (n : Nat) : xS := (va_up S.1 S.2.1 (some o), S.2.1 + 1, S.2.2.1 + n, S.2.2.2)
def xskip (S : xS) (n : Nat) : xS := (S.1, S.2.1 + 1, S.2.2.1 + n, S.2.2.2)
theorem xR.set {D : xD} {S : xS} {a : Nat} {o : xO} {H H1 : Heap} (h : xR D S H) (he : x_at D a o H1) (hz : H1.size = H.size) (oq : ∀ q : Nat, q ≠ a → H1[q]? = H[q]?) : xR D (xset S a o) H1 := by
  refine ⟨hz.trans h.1, fun q x hq => ?_, h.2.2⟩
  by_cases e : q = a
  · subst e
    rw [show (xset S q o).1 q = some o from va_up_self ..] at hq
    cases hq
    exact he
  · rw [show (xset S a o).1 q = S.1 q from va_up_ne _ _ e] at hq
    exact (h.2.1 q x hq).kept (oq q e)
theorem xR.push {D : xD} {S : xS} {o : xO} {H H1 : Heap} (n : Nat) (hlim : S.2.1 + 1 ≤ S.2.2.2.1 ∧ S.2.2.1 + n ≤ S.2.2.2.2) (h : xR D S H) (he : x_at D H.size o H1) (hz : H1.size = H.size + 1) (oq : ∀ q : Nat, q < H.size → H1[q]? = H[q]?) : xR D (xpush S o n) H1 := by
  refine ⟨hz.trans (by rw [h.1]; rfl), fun q x hq => ?_, hlim⟩
  by_cases e : q = S.2.1
  · subst e
    rw [show (xpush S o n).1 S.2.1 = some o from va_up_self ..] at hq
    cases hq
    rw [← h.1]
    exact he
  · rw [show (xpush S o n).1 q = S.1 q from va_up_ne _ _ e] at hq
    exact (h.2.1 q x hq).kept (oq q (h.2.1 q x hq).lt)
theorem xR.skip {D : xD} {S : xS} {H H1 : Heap} (n : Nat) (hlim : S.2.1 + 1 ≤ S.2.2.2.1 ∧ S.2.2.1 + n ≤ S.2.2.2.2) (h : xR D S H) (hz : H1.size = H.size + 1) (oq : ∀ q : Nat, q < H.size → H1[q]? = H[q]?) : xR D (xskip S n) H1 :=
  ⟨hz.trans (by rw [h.1]; rfl), fun q x hq => (h.2.1 q x hq).kept (oq q (h.2.1 q x hq).lt), hlim⟩
def xK (D : xD) (U : State) : Prop := va_K D.1 xCl [] U ∧ (∀ (i : Nat) (ty : FieldType), xAT[i]? = some ty → ArrOfT U (D.2.1 i) ty ∧ va_RA U (D.2.1 i) ty) ∧ ∀ i j : Nat, i < 3 → j < 3 → i ≠ j → va_Nc (xE i) (xE j) U
theorem xK.moved {D : xD} {u U : State} (hvm : u.vm.Alike U.vm) (h : xK D u) : xK D U := ⟨va_K.moved hvm h.1, fun i ty hi => ⟨arrOfT_moved hvm (h.2.1 i ty hi).1, (h.2.1 i ty hi).2.moved hvm⟩, fun i j hi hj hij => (h.2.2 i j hi hj hij).moved hvm⟩
/-- the two statics of Throwable that a throw reads -/
def xZ (A : Nat → Prop) (U : State) (H : Heap) : Prop := vx_Zq Bundle.tN "UNASSIGNED_STACK" Bundle.steD A U H ∧ vx_Zq Bundle.tN "SUPPRESSED_SENTINEL" Bundle.listD A U H
theorem xZ.moved {A : Nat → Prop} {u U : State} {H : Heap} (hvm : u.vm.Alike U.vm) (h : xZ A u H) : xZ A U H := ⟨vx_Zq.moved hvm h.1, vx_Zq.moved hvm h.2⟩
theorem xZ.kept {A : Nat → Prop} {U : State} {H H1 : Heap} (h : xZ A U H) (hq : ∀ a : Nat, a < H.size → ¬ A a → H1[a]? = H[a]?) : xZ A U H1 := ⟨h.1.kept hq, h.2.kept hq⟩
theorem xZ.narrow {A B : Nat → Prop} {U : State} {H : Heap} (h : xZ A U H) (hAB : ∀ q, B q → A q) : xZ B U H := ⟨h.1.narrow hAB, h.2.narrow hAB⟩
/-- words that stay true while the tables warm -/
def xGood : Cond → Bool
  | .methodLinkNest .. => true
  | .fieldLinkNest .. => true
  | .castable .. => true
  | .stringRef .. => true
  | .declares .. => true
  | .arrayOver (.object _) => true
  | w => goodWord w
theorem x_word {args a' : Array Value} {s U : State} (hW : s.WarmedH U.vm) {w : Cond} (hg : xGood w = true) (h : w.before args s = true) : w.before a' U = true := by
  by_cases ho : ∃ C, w = .arrayOver (.object C)
  · obtain ⟨C, rfl⟩ := ho
    exact va_AO.use (va_AO.moved hW.alike (va_AO.of h))
  cases w
  case declares a => exact va_Nw.use rfl (va_Nw.warmD hW (va_Nw.of rfl h))
  case arrayOver t =>
    cases t
    case object C => exact absurd ⟨C, rfl⟩ ho
    all_goals exact word_at hW (good_of_word hg) h
  case methodLinkNest a i x h' => exact va_Nw.use rfl (va_Nw.warmM hW (va_Nw.of rfl h))
  case fieldLinkNest a i b n dd h' => exact va_Nw.use rfl (va_Nw.warmF hW (va_Nw.of rfl h))
  case castable a b => exact va_Nw.use rfl (va_Nw.warmC hW (va_Nw.of rfl h))
  case stringRef a b c =>
    have h1 := Cond.stringRef_warmed hW h
    simp only [Cond.before, Cond.holds, Cond.value, State.names, State.poolOf?, State.resolvedAt?, State.vm_setVm] at h1 ⊢
    exact h1
  all_goals exact word_at hW (good_of_word hg) h
def xT : List Cond := lw_tbl.filter xGood
theorem xT_in {w : Cond} (h : w ∈ lw_tbl) (hg : xGood w = true) : w ∈ xT := List.mem_filter.mpr ⟨h, hg⟩
theorem xT_good {w : Cond} (h : w ∈ xT) : xGood w = true := (List.mem_filter.mp h).2
def xL : Nat := 64
def xA (S : xS) : Nat → Prop := fun q => S.1 q ≠ none ∨ S.2.1 ≤ q
/-- what a walk stands on -/
def xC (M : xM) (D : xD) (d : Nat) (S0 : xS) (p : Program) (l : Launch) (R : Room) (s : State) (m : MethodId) (args : Array Value) (meth : Method) (c : Code) (A : Nat → Prop) : Prop :=
  (p.tables.exec = Jvm.exec ∧ c.code = M.2.1 ∧ c.maxLocals = M.2.2.1 ∧ meth.sig.returnType = M.2.2.2.1 ∧ s.vm.findClass M.1.cls = some m.cls ∧ meth.name = M.1.name ∧ (∀ w ∈ xT, w.before args s = true) ∧ meth.locks = false ∧ c.exceptionTable.toList.map (fun h => (h.startPc, h.endPc, h.handlerPc, h.catchType)) = M.2.2.2.2) ∧
  (xK D s ∧ s.heap.size = S0.2.1 ∧ (∀ q : Nat, s.heap.size ≤ q → A q) ∧ d ≤ R.frames ∧ xL * d ≤ R.locals ∧ S0.2.2.2.1 ≤ S0.2.1 + R.cells ∧ S0.2.2.2.2 ≤ S0.2.2.1 + R.slots ∧ (M.1.name = "law" → va_X D.2.2.1 D.2.2.2.1 D.2.2.2.2 s s.heap ∧ D.2.2.1 < s.heap.size ∧ ¬ A D.2.2.1) ∧ l.stackTraces = false ∧ xZ A s s.heap)
def xX (M : xM) (D : xD) (d : Nat) (S0 : xS) (ls : List (Nat × xV)) (S : xS) (p : Program) (l : Launch) (R : Room) (s : State) (m : MethodId) (args : Array Value) (meth : Method) (c : Code) (A : Nat → Prop) (H : Heap) (locs : List Loc) (k n : Nat) (lsA : Array Slot) : Prop :=
  xC M D d S0 p l R s m args meth c A ∧ xR D S H ∧ va_S A s.heap H locs ∧ (∀ q : Nat, S.1 q ≠ none → A q) ∧ S.2.2.2 = S0.2.2.2 ∧ S0.2.1 + k = S.2.1 ∧ S0.2.2.1 + n = S.2.2.1 ∧ lv_has lsA M.2.2.1 (xlv ls)
def x_out (o' : Option Value ⊕ Nat) (o : Outcome) (t : State) : Prop := match o' with
  | .inl v => o = .returned v
  | .inr e => ∃ (a : Addr) (cell : Cell), o = .threw a ∧ t.heap[a]? = some cell ∧ cell.vm = .none ∧ t.vm.findClass (xE e) = some cell.cls
/-- the end of a method that began in S0 -/
def xEnd (D : xD) (S0 : xS) (r : xRes) (A : Nat → Prop) (s : State) (o : Outcome) (t : State) : Prop :=
  x_out r.1 o t ∧ xR D r.2 t.heap ∧ s.WarmedH t.vm ∧ (∃ (L : List Loc) (k n : Nat), s.sameButNew ({ t with vm := s.vm } : State) L k n ∧ S0.2.1 + k = r.2.2.1 ∧ S0.2.2.1 + n = r.2.2.2.1 ∧ ∀ q ∈ L, A q.base) ∧ (∀ q : Nat, r.2.1 q ≠ none → A q) ∧ va_F A s t ∧ r.2.2.2.2 = S0.2.2.2
def xQ (D : xD) (S0 : xS) (r : xRes) (below : List Frame) (s : State) (A : Nat → Prop) : State → Prop := fun t => ∃ o, t.status = .running ∧ Ended t below o ∧ xEnd D S0 r A s o t
/-- FROM HERE the method that began in S0 comes to the end r -/
def V (M : xM) (D : xD) (d : Nat) (S0 : xS) (r : xRes) (pc : Nat) (ls : List (Nat × xV)) (st : List Value) (S : xS) : Prop :=
  ∀ (p : Program) (l : Launch) (e : Env) (R : Room) (s : State) (m : MethodId) (args : Array Value) (below : List Frame) (meth : Method) (c : Code) (A : Nat → Prop) (H : Heap) (locs : List Loc) (k n : Nat) (lsA : Array Slot),
    xX M D d S0 ls S p l R s m args meth c A H locs k n lsA → W p l e R s m args below meth c H locs k n (xQ D S0 r below s A) (F0 m pc lsA st)
theorem W.mono {p : Program} {l : Launch} {e : Env} {R : Room} {s : State} {m : MethodId} {args : Array Value} {below : List Frame} {meth : Method} {c : Code} {H : Heap} {locs : List Loc} {k n : Nat} {Q Q' : State → Prop} {g : JFrame} (h : ∀ t, Q t → Q' t) (w : W p l e R s m args below meth c H locs k n Q g) : W p l e R s m args below meth c H locs k n Q' g := by
  intro T hT X
  obtain ⟨t, a, b⟩ := w T hT X
  exact ⟨t, a, h t b⟩

def xcase {α : Type} (x : Option Nat) (a : α) (f : Nat → α) : α := match x with
  | none => a
  | some q => f q
theorem xcase_none {α : Type} (a : α) (f : Nat → α) : xcase none a f = a := rfl
theorem xlv_sub {lsA : Array Slot} {nL : Nat} {ls lv' : List (Nat × xV)} (h : lv_has lsA nL (xlv ls)) (js : List Nat) (hl : js.filterMap (fun j => ls[j]?) = lv') : lv_has lsA nL (xlv lv') := by
  subst hl
  refine ⟨h.1, h.2.1, fun q hq => ?_⟩
  obtain ⟨y, hy, rfl⟩ := List.mem_map.mp hq
  obtain ⟨j, -, hj⟩ := List.mem_filterMap.mp hy
  exact h.2.2 _ (List.mem_map.mpr ⟨y, List.mem_of_getElem? hj, rfl⟩)
theorem xcase_some {α : Type} (q : Nat) (a : α) (f : Nat → α) : xcase (some q) a f = f q := rfl
section XROWS
variable {M : xM} {D : xD} {d : Nat} {S0 : xS} {r : xRes} {pc : Nat} {ls : List (Nat × xV)} {st : List Value} {S : xS}
theorem x_iconst {i : Int} {v : Int32} (hd : decode M.2.1 pc = .ok (.iconst i, 1)) (hv : Int32.ofInt i = v) (kk : V M D d S0 r (pc + 1) ls (.int v :: st) S) : V M D d S0 r pc ls st S :=
  fun p l e R s m args below meth c A H locs k n lsA X => lv_iconst X.1.1.1 X.1.1.2.1 hd hv (kk p l e R s m args below meth c A H locs k n lsA X)
theorem x_bipush {i : Int} {v : Int32} (hd : decode M.2.1 pc = .ok (.bipush i, 2)) (hv : (Int8.ofInt i).toInt32 = v) (kk : V M D d S0 r (pc + 2) ls (.int v :: st) S) : V M D d S0 r pc ls st S :=
  fun p l e R s m args below meth c A H locs k n lsA X => lv_bipush X.1.1.1 X.1.1.2.1 hd hv (kk p l e R s m args below meth c A H locs k n lsA X)
theorem x_sipush {i : Int} {v : Int32} (hd : decode M.2.1 pc = .ok (.sipush i, 3)) (hv : (Int16.ofInt i).toInt32 = v) (kk : V M D d S0 r (pc + 3) ls (.int v :: st) S) : V M D d S0 r pc ls st S :=
  fun p l e R s m args below meth c A H locs k n lsA X => lv_sipush X.1.1.1 X.1.1.2.1 hd hv (kk p l e R s m args below meth c A H locs k n lsA X)
theorem x_lconst {i : Fin 2} {v : Int64} (hd : decode M.2.1 pc = .ok (.lconst i, 1)) (hv : Int64.ofNat (i : Nat) = v) (kk : V M D d S0 r (pc + 1) ls (.long v :: st) S) : V M D d S0 r pc ls st S :=
  fun p l e R s m args below meth c A H locs k n lsA X => lv_lconst X.1.1.1 X.1.1.2.1 hd hv (kk p l e R s m args below meth c A H locs k n lsA X)
theorem x_null (hd : decode M.2.1 pc = .ok (.aconst_null, 1)) (kk : V M D d S0 r (pc + 1) ls (va_rf none :: st) S) : V M D d S0 r pc ls st S :=
  fun p l e R s m args below meth c A H locs k n lsA X => lv_null X.1.1.1 X.1.1.2.1 hd (kk p l e R s m args below meth c A H locs k n lsA X)
theorem x_ldc {i : Nat} {v : Int32} (hd : decode M.2.1 pc = .ok (.ldc i, 2)) (hw : Cond.constant M.1.cls i v ∈ xT) (kk : V M D d S0 r (pc + 2) ls (.int v :: st) S) : V M D d S0 r pc ls st S :=
  fun p l e R s m args below meth c A H locs k n lsA X => lv_ldc X.1.1.1 X.1.1.2.1 X.1.1.2.2.2.2.1 (X.1.1.2.2.2.2.2.2.1 _ hw) hd (kk p l e R s m args below meth c A H locs k n lsA X)
theorem x_ldc2 {i : Nat} {v : Int64} (hd : decode M.2.1 pc = .ok (.ldc2_w i, 3)) (hw : Cond.constantLong M.1.cls i v ∈ xT) (kk : V M D d S0 r (pc + 3) ls (.long v :: st) S) : V M D d S0 r pc ls st S :=
  fun p l e R s m args below meth c A H locs k n lsA X => lv_ldc2 X.1.1.1 X.1.1.2.1 X.1.1.2.2.2.2.1 (X.1.1.2.2.2.2.2.2.1 _ hw) hd (kk p l e R s m args below meth c A H locs k n lsA X)
theorem x_iload_n {f : Fin 4} {i : Nat} {x : Int32} (j : Nat) (hd : decode M.2.1 pc = .ok (.iload_n f, 1)) (hi : (f : Nat) = i) (hj : ls[j]? = some (i, (.inl x))) (kk : V M D d S0 r (pc + 1) ls (.int x :: st) S) : V M D d S0 r pc ls st S :=
  fun p l e R s m args below meth c A H locs k n lsA X => lv_iload_n X.1.1.1 X.1.1.2.1 hd hi (lv_at X.2.2.2.2.2.2.2 j (xlv_at hj)) (kk p l e R s m args below meth c A H locs k n lsA X)
theorem x_iload {i : Nat} {x : Int32} (j : Nat) (hd : decode M.2.1 pc = .ok (.iload i, 2)) (hj : ls[j]? = some (i, (.inl x))) (kk : V M D d S0 r (pc + 2) ls (.int x :: st) S) : V M D d S0 r pc ls st S :=
  fun p l e R s m args below meth c A H locs k n lsA X => lv_iload X.1.1.1 X.1.1.2.1 hd (lv_at X.2.2.2.2.2.2.2 j (xlv_at hj)) (kk p l e R s m args below meth c A H locs k n lsA X)
theorem x_lload_n {f : Fin 4} {i : Nat} {x : Int64} (j : Nat) (hd : decode M.2.1 pc = .ok (.lload_n f, 1)) (hi : (f : Nat) = i) (hj : ls[j]? = some (i, (.inr (.inl x)))) (kk : V M D d S0 r (pc + 1) ls (.long x :: st) S) : V M D d S0 r pc ls st S :=
  fun p l e R s m args below meth c A H locs k n lsA X => lv_lload_n X.1.1.1 X.1.1.2.1 hd hi (lv_at X.2.2.2.2.2.2.2 j (xlv_at hj)) (kk p l e R s m args below meth c A H locs k n lsA X)
theorem x_lload {i : Nat} {x : Int64} (j : Nat) (hd : decode M.2.1 pc = .ok (.lload i, 2)) (hj : ls[j]? = some (i, (.inr (.inl x)))) (kk : V M D d S0 r (pc + 2) ls (.long x :: st) S) : V M D d S0 r pc ls st S :=
  fun p l e R s m args below meth c A H locs k n lsA X => lv_lload X.1.1.1 X.1.1.2.1 hd (lv_at X.2.2.2.2.2.2.2 j (xlv_at hj)) (kk p l e R s m args below meth c A H locs k n lsA X)
theorem x_aload_n {f : Fin 4} {i : Nat} {x : Option Nat} (j : Nat) (hd : decode M.2.1 pc = .ok (.aload_n f, 1)) (hi : (f : Nat) = i) (hj : ls[j]? = some (i, (.inr (.inr x)))) (kk : V M D d S0 r (pc + 1) ls (va_rf x :: st) S) : V M D d S0 r pc ls st S := by
  cases x with
  | none => exact fun p l e R s m args below meth c A H locs k n lsA X => lv_aload_nN X.1.1.1 X.1.1.2.1 hd hi (lv_at X.2.2.2.2.2.2.2 j (xlv_at hj)) (kk p l e R s m args below meth c A H locs k n lsA X)
  | some a => exact fun p l e R s m args below meth c A H locs k n lsA X => lv_aload_n X.1.1.1 X.1.1.2.1 hd hi (lv_at X.2.2.2.2.2.2.2 j (xlv_at hj)) (kk p l e R s m args below meth c A H locs k n lsA X)
theorem x_aload {i : Nat} {x : Option Nat} (j : Nat) (hd : decode M.2.1 pc = .ok (.aload i, 2)) (hj : ls[j]? = some (i, (.inr (.inr x)))) (kk : V M D d S0 r (pc + 2) ls (va_rf x :: st) S) : V M D d S0 r pc ls st S := by
  cases x with
  | none => exact fun p l e R s m args below meth c A H locs k n lsA X => lv_aloadN X.1.1.1 X.1.1.2.1 hd (lv_at X.2.2.2.2.2.2.2 j (xlv_at hj)) (kk p l e R s m args below meth c A H locs k n lsA X)
  | some a => exact fun p l e R s m args below meth c A H locs k n lsA X => lv_aload X.1.1.1 X.1.1.2.1 hd (lv_at X.2.2.2.2.2.2.2 j (xlv_at hj)) (kk p l e R s m args below meth c A H locs k n lsA X)
theorem x_istore_n {f : Fin 4} {i : Nat} {x : Int32} {lv' : List (Nat × xV)} (hd : decode M.2.1 pc = .ok (.istore_n f, 1)) (hi : (f : Nat) = i) (hn : i < M.2.2.1) (hl : xst1 ls i (.inl x) = lv') (kk : V M D d S0 r (pc + 1) lv' st S) : V M D d S0 r pc ls (.int x :: st) S := by
  subst hl
  exact fun p l e R s m args below meth c A H locs k n lsA X => lv_istore_n X.1.1.1 X.1.1.2.1 hd hi X.2.2.2.2.2.2.2 hn (xlv_st1 ls i (.inl x)) (fun ls' h => kk p l e R s m args below meth c A H locs k n ls' ⟨X.1, X.2.1, X.2.2.1, X.2.2.2.1, X.2.2.2.2.1, X.2.2.2.2.2.1, X.2.2.2.2.2.2.1, h⟩)
theorem x_istore {i : Nat} {x : Int32} {lv' : List (Nat × xV)} (hd : decode M.2.1 pc = .ok (.istore i, 2)) (hn : i < M.2.2.1) (hl : xst1 ls i (.inl x) = lv') (kk : V M D d S0 r (pc + 2) lv' st S) : V M D d S0 r pc ls (.int x :: st) S := by
  subst hl
  exact fun p l e R s m args below meth c A H locs k n lsA X => lv_istore X.1.1.1 X.1.1.2.1 hd X.2.2.2.2.2.2.2 hn (xlv_st1 ls i (.inl x)) (fun ls' h => kk p l e R s m args below meth c A H locs k n ls' ⟨X.1, X.2.1, X.2.2.1, X.2.2.2.1, X.2.2.2.2.1, X.2.2.2.2.2.1, X.2.2.2.2.2.2.1, h⟩)
theorem x_lstore_n {f : Fin 4} {i : Nat} {x : Int64} {lv' : List (Nat × xV)} (hd : decode M.2.1 pc = .ok (.lstore_n f, 1)) (hi : (f : Nat) = i) (hn : i + 1 < M.2.2.1) (hl : xst2 ls i (.inr (.inl x)) = lv') (kk : V M D d S0 r (pc + 1) lv' st S) : V M D d S0 r pc ls (.long x :: st) S := by
  subst hl
  exact fun p l e R s m args below meth c A H locs k n lsA X => lv_lstore_n X.1.1.1 X.1.1.2.1 hd hi X.2.2.2.2.2.2.2 hn (xlv_st2 ls i (.inr (.inl x))) (fun ls' h => kk p l e R s m args below meth c A H locs k n ls' ⟨X.1, X.2.1, X.2.2.1, X.2.2.2.1, X.2.2.2.2.1, X.2.2.2.2.2.1, X.2.2.2.2.2.2.1, h⟩)
theorem x_lstore {i : Nat} {x : Int64} {lv' : List (Nat × xV)} (hd : decode M.2.1 pc = .ok (.lstore i, 2)) (hn : i + 1 < M.2.2.1) (hl : xst2 ls i (.inr (.inl x)) = lv') (kk : V M D d S0 r (pc + 2) lv' st S) : V M D d S0 r pc ls (.long x :: st) S := by
  subst hl
  exact fun p l e R s m args below meth c A H locs k n lsA X => lv_lstore X.1.1.1 X.1.1.2.1 hd X.2.2.2.2.2.2.2 hn (xlv_st2 ls i (.inr (.inl x))) (fun ls' h => kk p l e R s m args below meth c A H locs k n ls' ⟨X.1, X.2.1, X.2.2.1, X.2.2.2.1, X.2.2.2.2.1, X.2.2.2.2.2.1, X.2.2.2.2.2.2.1, h⟩)
theorem x_astore_n {f : Fin 4} {i : Nat} {x : Option Nat} {lv' : List (Nat × xV)} (hd : decode M.2.1 pc = .ok (.astore_n f, 1)) (hi : (f : Nat) = i) (hn : i < M.2.2.1) (hl : xst1 ls i (.inr (.inr x)) = lv') (kk : V M D d S0 r (pc + 1) lv' st S) : V M D d S0 r pc ls (va_rf x :: st) S := by
  subst hl
  cases x with
  | none => exact fun p l e R s m args below meth c A H locs k n lsA X => lv_astore_nN X.1.1.1 X.1.1.2.1 hd hi X.2.2.2.2.2.2.2 hn (xlv_st1 ls i (.inr (.inr none))) (fun ls' h => kk p l e R s m args below meth c A H locs k n ls' ⟨X.1, X.2.1, X.2.2.1, X.2.2.2.1, X.2.2.2.2.1, X.2.2.2.2.2.1, X.2.2.2.2.2.2.1, h⟩)
  | some a => exact fun p l e R s m args below meth c A H locs k n lsA X => lv_astore_n X.1.1.1 X.1.1.2.1 hd hi X.2.2.2.2.2.2.2 hn (xlv_st1 ls i (.inr (.inr (some a)))) (fun ls' h => kk p l e R s m args below meth c A H locs k n ls' ⟨X.1, X.2.1, X.2.2.1, X.2.2.2.1, X.2.2.2.2.1, X.2.2.2.2.2.1, X.2.2.2.2.2.2.1, h⟩)
theorem x_astore {i : Nat} {x : Option Nat} {lv' : List (Nat × xV)} (hd : decode M.2.1 pc = .ok (.astore i, 2)) (hn : i < M.2.2.1) (hl : xst1 ls i (.inr (.inr x)) = lv') (kk : V M D d S0 r (pc + 2) lv' st S) : V M D d S0 r pc ls (va_rf x :: st) S := by
  subst hl
  cases x with
  | none => exact fun p l e R s m args below meth c A H locs k n lsA X => lv_astoreN X.1.1.1 X.1.1.2.1 hd X.2.2.2.2.2.2.2 hn (xlv_st1 ls i (.inr (.inr none))) (fun ls' h => kk p l e R s m args below meth c A H locs k n ls' ⟨X.1, X.2.1, X.2.2.1, X.2.2.2.1, X.2.2.2.2.1, X.2.2.2.2.2.1, X.2.2.2.2.2.2.1, h⟩)
  | some a => exact fun p l e R s m args below meth c A H locs k n lsA X => lv_astore X.1.1.1 X.1.1.2.1 hd X.2.2.2.2.2.2.2 hn (xlv_st1 ls i (.inr (.inr (some a)))) (fun ls' h => kk p l e R s m args below meth c A H locs k n ls' ⟨X.1, X.2.1, X.2.2.1, X.2.2.2.1, X.2.2.2.2.1, X.2.2.2.2.2.1, X.2.2.2.2.2.2.1, h⟩)
theorem x_iinc {i : Nat} {b : Int} {x v : Int32} {lv' : List (Nat × xV)} (j : Nat) (hd : decode M.2.1 pc = .ok (.iinc i b, 3)) (hj : ls[j]? = some (i, .inl x)) (hv : Int32.ofInt b = v) (hn : i < M.2.2.1) (hl : xst1 ls i (.inl (x + v)) = lv') (kk : V M D d S0 r (pc + 3) lv' st S) : V M D d S0 r pc ls st S := by
  subst hl
  subst hv
  exact fun p l e R s m args below meth c A H locs k n lsA X => lv_iinc X.1.1.1 X.1.1.2.1 hd X.2.2.2.2.2.2.2 (xlv_at hj) rfl hn (xlv_st1 ls i (.inl (x + Int32.ofInt b))) (fun ls' h => kk p l e R s m args below meth c A H locs k n ls' ⟨X.1, X.2.1, X.2.2.1, X.2.2.2.1, X.2.2.2.2.1, X.2.2.2.2.2.1, X.2.2.2.2.2.2.1, h⟩)
theorem x_ls {lv' : List (Nat × xV)} (js : List Nat) (hl : js.filterMap (fun j => ls[j]?) = lv') (kk : V M D d S0 r pc lv' st S) : V M D d S0 r pc ls st S :=
  fun p l e R s m args below meth c A H locs k n lsA X => kk p l e R s m args below meth c A H locs k n lsA ⟨X.1, X.2.1, X.2.2.1, X.2.2.2.1, X.2.2.2.2.1, X.2.2.2.2.2.1, X.2.2.2.2.2.2.1, xlv_sub X.2.2.2.2.2.2.2 js hl⟩
theorem x_iadd {x y : Int32} (hd : decode M.2.1 pc = .ok (.iadd, 1)) (kk : V M D d S0 r (pc + 1) ls (.int (x + y) :: st) S) : V M D d S0 r pc ls (.int y :: .int x :: st) S :=
  fun p l e R s m args below meth c A H locs k n lsA X => lv_iadd X.1.1.1 X.1.1.2.1 hd (kk p l e R s m args below meth c A H locs k n lsA X)
theorem x_isub {x y : Int32} (hd : decode M.2.1 pc = .ok (.isub, 1)) (kk : V M D d S0 r (pc + 1) ls (.int (x - y) :: st) S) : V M D d S0 r pc ls (.int y :: .int x :: st) S :=
  fun p l e R s m args below meth c A H locs k n lsA X => lv_isub X.1.1.1 X.1.1.2.1 hd (kk p l e R s m args below meth c A H locs k n lsA X)
theorem x_imul {x y : Int32} (hd : decode M.2.1 pc = .ok (.imul, 1)) (kk : V M D d S0 r (pc + 1) ls (.int (x * y) :: st) S) : V M D d S0 r pc ls (.int y :: .int x :: st) S :=
  fun p l e R s m args below meth c A H locs k n lsA X => lv_imul X.1.1.1 X.1.1.2.1 hd (kk p l e R s m args below meth c A H locs k n lsA X)
theorem x_iand {x y : Int32} (hd : decode M.2.1 pc = .ok (.iand, 1)) (kk : V M D d S0 r (pc + 1) ls (.int (x &&& y) :: st) S) : V M D d S0 r pc ls (.int y :: .int x :: st) S :=
  fun p l e R s m args below meth c A H locs k n lsA X => lv_iand X.1.1.1 X.1.1.2.1 hd (kk p l e R s m args below meth c A H locs k n lsA X)
theorem x_ior {x y : Int32} (hd : decode M.2.1 pc = .ok (.ior, 1)) (kk : V M D d S0 r (pc + 1) ls (.int (x ||| y) :: st) S) : V M D d S0 r pc ls (.int y :: .int x :: st) S :=
  fun p l e R s m args below meth c A H locs k n lsA X => lv_ior X.1.1.1 X.1.1.2.1 hd (kk p l e R s m args below meth c A H locs k n lsA X)
theorem x_ixor {x y : Int32} (hd : decode M.2.1 pc = .ok (.ixor, 1)) (kk : V M D d S0 r (pc + 1) ls (.int (x ^^^ y) :: st) S) : V M D d S0 r pc ls (.int y :: .int x :: st) S :=
  fun p l e R s m args below meth c A H locs k n lsA X => lv_ixor X.1.1.1 X.1.1.2.1 hd (kk p l e R s m args below meth c A H locs k n lsA X)
theorem x_ishl {x y : Int32} (hd : decode M.2.1 pc = .ok (.ishl, 1)) (kk : V M D d S0 r (pc + 1) ls (.int (x <<< (y &&& 31)) :: st) S) : V M D d S0 r pc ls (.int y :: .int x :: st) S :=
  fun p l e R s m args below meth c A H locs k n lsA X => lv_ishl X.1.1.1 X.1.1.2.1 hd (kk p l e R s m args below meth c A H locs k n lsA X)
theorem x_ishr {x y : Int32} (hd : decode M.2.1 pc = .ok (.ishr, 1)) (kk : V M D d S0 r (pc + 1) ls (.int (x >>> (y &&& 31)) :: st) S) : V M D d S0 r pc ls (.int y :: .int x :: st) S :=
  fun p l e R s m args below meth c A H locs k n lsA X => lv_ishr X.1.1.1 X.1.1.2.1 hd (kk p l e R s m args below meth c A H locs k n lsA X)
theorem x_ineg {x : Int32} (hd : decode M.2.1 pc = .ok (.ineg, 1)) (kk : V M D d S0 r (pc + 1) ls (.int (-x) :: st) S) : V M D d S0 r pc ls (.int x :: st) S :=
  fun p l e R s m args below meth c A H locs k n lsA X => lv_ineg X.1.1.1 X.1.1.2.1 hd (kk p l e R s m args below meth c A H locs k n lsA X)
theorem x_ladd {x y : Int64} (hd : decode M.2.1 pc = .ok (.ladd, 1)) (kk : V M D d S0 r (pc + 1) ls (.long (x + y) :: st) S) : V M D d S0 r pc ls (.long y :: .long x :: st) S :=
  fun p l e R s m args below meth c A H locs k n lsA X => lv_ladd X.1.1.1 X.1.1.2.1 hd (kk p l e R s m args below meth c A H locs k n lsA X)
theorem x_lsub {x y : Int64} (hd : decode M.2.1 pc = .ok (.lsub, 1)) (kk : V M D d S0 r (pc + 1) ls (.long (x - y) :: st) S) : V M D d S0 r pc ls (.long y :: .long x :: st) S :=
  fun p l e R s m args below meth c A H locs k n lsA X => lv_lsub X.1.1.1 X.1.1.2.1 hd (kk p l e R s m args below meth c A H locs k n lsA X)
theorem x_lmul {x y : Int64} (hd : decode M.2.1 pc = .ok (.lmul, 1)) (kk : V M D d S0 r (pc + 1) ls (.long (x * y) :: st) S) : V M D d S0 r pc ls (.long y :: .long x :: st) S :=
  fun p l e R s m args below meth c A H locs k n lsA X => lv_lmul X.1.1.1 X.1.1.2.1 hd (kk p l e R s m args below meth c A H locs k n lsA X)
theorem x_land {x y : Int64} (hd : decode M.2.1 pc = .ok (.land, 1)) (kk : V M D d S0 r (pc + 1) ls (.long (x &&& y) :: st) S) : V M D d S0 r pc ls (.long y :: .long x :: st) S :=
  fun p l e R s m args below meth c A H locs k n lsA X => lv_land X.1.1.1 X.1.1.2.1 hd (kk p l e R s m args below meth c A H locs k n lsA X)
theorem x_lor {x y : Int64} (hd : decode M.2.1 pc = .ok (.lor, 1)) (kk : V M D d S0 r (pc + 1) ls (.long (x ||| y) :: st) S) : V M D d S0 r pc ls (.long y :: .long x :: st) S :=
  fun p l e R s m args below meth c A H locs k n lsA X => lv_lor X.1.1.1 X.1.1.2.1 hd (kk p l e R s m args below meth c A H locs k n lsA X)
theorem x_lxor {x y : Int64} (hd : decode M.2.1 pc = .ok (.lxor, 1)) (kk : V M D d S0 r (pc + 1) ls (.long (x ^^^ y) :: st) S) : V M D d S0 r pc ls (.long y :: .long x :: st) S :=
  fun p l e R s m args below meth c A H locs k n lsA X => lv_lxor X.1.1.1 X.1.1.2.1 hd (kk p l e R s m args below meth c A H locs k n lsA X)
theorem x_i2l {x : Int32} (hd : decode M.2.1 pc = .ok (.i2l, 1)) (kk : V M D d S0 r (pc + 1) ls (.long x.toInt64 :: st) S) : V M D d S0 r pc ls (.int x :: st) S :=
  fun p l e R s m args below meth c A H locs k n lsA X => lv_i2l X.1.1.1 X.1.1.2.1 hd rfl (kk p l e R s m args below meth c A H locs k n lsA X)
theorem x_l2i {x : Int64} (hd : decode M.2.1 pc = .ok (.l2i, 1)) (kk : V M D d S0 r (pc + 1) ls (.int x.toInt32 :: st) S) : V M D d S0 r pc ls (.long x :: st) S :=
  fun p l e R s m args below meth c A H locs k n lsA X => lv_l2i X.1.1.1 X.1.1.2.1 hd rfl (kk p l e R s m args below meth c A H locs k n lsA X)
theorem x_i2b {x : Int32} (hd : decode M.2.1 pc = .ok (.i2b, 1)) (kk : V M D d S0 r (pc + 1) ls (.int x.toInt8.toInt32 :: st) S) : V M D d S0 r pc ls (.int x :: st) S :=
  fun p l e R s m args below meth c A H locs k n lsA X => lv_i2b X.1.1.1 X.1.1.2.1 hd rfl (kk p l e R s m args below meth c A H locs k n lsA X)
theorem x_iushr {x y : Int32} (hd : decode M.2.1 pc = .ok (.iushr, 1)) (kk : V M D d S0 r (pc + 1) ls (.int (x.toUInt32 >>> (y.toUInt32 &&& Int32.toUInt32 31)).toInt32 :: st) S) : V M D d S0 r pc ls (.int y :: .int x :: st) S :=
  fun p l e R s m args below meth c A H locs k n lsA X => lv_iushr X.1.1.1 X.1.1.2.1 hd rfl (kk p l e R s m args below meth c A H locs k n lsA X)
theorem x_lushr {x : Int64} {y : Int32} (hd : decode M.2.1 pc = .ok (.lushr, 1)) (kk : V M D d S0 r (pc + 1) ls (.long (x.toUInt64 >>> (y.toInt64.toUInt64 &&& Int64.toUInt64 63)).toInt64 :: st) S) : V M D d S0 r pc ls (.int y :: .long x :: st) S :=
  fun p l e R s m args below meth c A H locs k n lsA X => lv_lushr X.1.1.1 X.1.1.2.1 hd rfl (kk p l e R s m args below meth c A H locs k n lsA X)
theorem x_lshl {x : Int64} {y : Int32} (hd : decode M.2.1 pc = .ok (.lshl, 1)) (kk : V M D d S0 r (pc + 1) ls (.long (x <<< (y.toInt64 &&& 63)) :: st) S) : V M D d S0 r pc ls (.int y :: .long x :: st) S :=
  fun p l e R s m args below meth c A H locs k n lsA X => lv_lshl X.1.1.1 X.1.1.2.1 hd rfl (kk p l e R s m args below meth c A H locs k n lsA X)
theorem x_lcmp {x y : Int64} (hd : decode M.2.1 pc = .ok (.lcmp, 1)) (kk : V M D d S0 r (pc + 1) ls (.int (lg_cmp x y) :: st) S) : V M D d S0 r pc ls (.long y :: .long x :: st) S :=
  fun p l e R s m args below meth c A H locs k n lsA X => W.lcmp X.1.1.1 X.1.1.2.1 hd (kk p l e R s m args below meth c A H locs k n lsA X)
theorem x_dup {v : Value} (hd : decode M.2.1 pc = .ok (.dup, 1)) (hv : v.category = 1) (kk : V M D d S0 r (pc + 1) ls (v :: v :: st) S) : V M D d S0 r pc ls (v :: st) S :=
  fun p l e R s m args below meth c A H locs k n lsA X => lv_dup X.1.1.1 X.1.1.2.1 hd hv (kk p l e R s m args below meth c A H locs k n lsA X)
theorem x_pop {v : Value} (hd : decode M.2.1 pc = .ok (.pop, 1)) (hv : v.category = 1) (kk : V M D d S0 r (pc + 1) ls st S) : V M D d S0 r pc ls (v :: st) S :=
  fun p l e R s m args below meth c A H locs k n lsA X => lv_pop X.1.1.1 X.1.1.2.1 hd hv (kk p l e R s m args below meth c A H locs k n lsA X)
theorem x_dup_x1 {v w : Value} (hd : decode M.2.1 pc = .ok (.dup_x1, 1)) (hv : v.category = 1) (hw : w.category = 1) (kk : V M D d S0 r (pc + 1) ls (v :: w :: v :: st) S) : V M D d S0 r pc ls (v :: w :: st) S :=
  fun p l e R s m args below meth c A H locs k n lsA X => lv_dup_x1 X.1.1.1 X.1.1.2.1 hd hv hw (kk p l e R s m args below meth c A H locs k n lsA X)
theorem x_dup2 {v w : Value} (hd : decode M.2.1 pc = .ok (.dup2, 1)) (hv : v.category = 1) (hw : w.category = 1) (kk : V M D d S0 r (pc + 1) ls (v :: w :: v :: w :: st) S) : V M D d S0 r pc ls (v :: w :: st) S :=
  fun p l e R s m args below meth c A H locs k n lsA X => lv_dup2_11 X.1.1.1 X.1.1.2.1 hd hv hw (kk p l e R s m args below meth c A H locs k n lsA X)
theorem x_dup_x2 {v w u : Value} (hd : decode M.2.1 pc = .ok (.dup_x2, 1)) (hv : v.category = 1) (hw : w.category = 1) (hu : u.category = 1) (kk : V M D d S0 r (pc + 1) ls (v :: w :: u :: v :: st) S) : V M D d S0 r pc ls (v :: w :: u :: st) S :=
  fun p l e R s m args below meth c A H locs k n lsA X => lv_dup_x2 X.1.1.1 X.1.1.2.1 hd hv hw hu (kk p l e R s m args below meth c A H locs k n lsA X)
theorem x_goto {off : Int} {tgt : Nat} (hd : decode M.2.1 pc = .ok (.goto off, 3)) (ht : (pc : Int) + off = (tgt : Int)) (kk : V M D d S0 r tgt ls st S) : V M D d S0 r pc ls st S :=
  fun p l e R s m args below meth c A H locs k n lsA X => lv_goto X.1.1.1 X.1.1.2.1 hd ht (kk p l e R s m args below meth c A H locs k n lsA X)
theorem xcat (x : Option Nat) : (va_rf x).category = 1 := by cases x <;> rfl
theorem x_if_eq {α : Type} {x : Int32} {off : Int} {tgt : Nat} {Fa Fb : Option α} {z : α} (hd : decode M.2.1 pc = .ok (.ifCond .eq off, 3)) (ht : (pc : Int) + off = (tgt : Int)) (h : (if x = 0 then Fa else Fb) = some z) (kt : Fa = some z → V M D d S0 r tgt ls st S) (kf : Fb = some z → V M D d S0 r (pc + 3) ls st S) : V M D d S0 r pc ls (.int x :: st) S :=
  fun p l e R s m args below meth c A H locs k n lsA X => lv_if_eq X.1.1.1 X.1.1.2.1 hd ht (fun c9 => kt (by rw [if_pos c9] at h; exact h) p l e R s m args below meth c A H locs k n lsA X) (fun c9 => kf (by rw [if_neg c9] at h; exact h) p l e R s m args below meth c A H locs k n lsA X)
theorem x_if_ne {α : Type} {x : Int32} {off : Int} {tgt : Nat} {Fa Fb : Option α} {z : α} (hd : decode M.2.1 pc = .ok (.ifCond .ne off, 3)) (ht : (pc : Int) + off = (tgt : Int)) (h : (if x = 0 then Fa else Fb) = some z) (kt : Fb = some z → V M D d S0 r tgt ls st S) (kf : Fa = some z → V M D d S0 r (pc + 3) ls st S) : V M D d S0 r pc ls (.int x :: st) S :=
  fun p l e R s m args below meth c A H locs k n lsA X => lv_if_ne X.1.1.1 X.1.1.2.1 hd ht (fun c9 => kt (by rw [if_neg c9] at h; exact h) p l e R s m args below meth c A H locs k n lsA X) (fun c9 => kf (by rw [if_pos c9] at h; exact h) p l e R s m args below meth c A H locs k n lsA X)
theorem x_if_lt {α : Type} {x : Int32} {off : Int} {tgt : Nat} {Fa Fb : Option α} {z : α} (hd : decode M.2.1 pc = .ok (.ifCond .lt off, 3)) (ht : (pc : Int) + off = (tgt : Int)) (h : (if x < 0 then Fa else Fb) = some z) (kt : Fa = some z → V M D d S0 r tgt ls st S) (kf : Fb = some z → V M D d S0 r (pc + 3) ls st S) : V M D d S0 r pc ls (.int x :: st) S :=
  fun p l e R s m args below meth c A H locs k n lsA X => lv_if_lt X.1.1.1 X.1.1.2.1 hd ht (fun c9 => kt (by rw [if_pos c9] at h; exact h) p l e R s m args below meth c A H locs k n lsA X) (fun c9 => kf (by rw [if_neg c9] at h; exact h) p l e R s m args below meth c A H locs k n lsA X)
theorem x_if_ge {α : Type} {x : Int32} {off : Int} {tgt : Nat} {Fa Fb : Option α} {z : α} (hd : decode M.2.1 pc = .ok (.ifCond .ge off, 3)) (ht : (pc : Int) + off = (tgt : Int)) (h : (if 0 ≤ x then Fa else Fb) = some z) (kt : Fa = some z → V M D d S0 r tgt ls st S) (kf : Fb = some z → V M D d S0 r (pc + 3) ls st S) : V M D d S0 r pc ls (.int x :: st) S :=
  fun p l e R s m args below meth c A H locs k n lsA X => lv_if_ge X.1.1.1 X.1.1.2.1 hd ht (fun c9 => kt (by rw [if_pos c9] at h; exact h) p l e R s m args below meth c A H locs k n lsA X) (fun c9 => kf (by rw [if_neg c9] at h; exact h) p l e R s m args below meth c A H locs k n lsA X)
theorem x_if_gt {α : Type} {x : Int32} {off : Int} {tgt : Nat} {Fa Fb : Option α} {z : α} (hd : decode M.2.1 pc = .ok (.ifCond .gt off, 3)) (ht : (pc : Int) + off = (tgt : Int)) (h : (if 0 < x then Fa else Fb) = some z) (kt : Fa = some z → V M D d S0 r tgt ls st S) (kf : Fb = some z → V M D d S0 r (pc + 3) ls st S) : V M D d S0 r pc ls (.int x :: st) S :=
  fun p l e R s m args below meth c A H locs k n lsA X => lv_if_gt X.1.1.1 X.1.1.2.1 hd ht (fun c9 => kt (by rw [if_pos c9] at h; exact h) p l e R s m args below meth c A H locs k n lsA X) (fun c9 => kf (by rw [if_neg c9] at h; exact h) p l e R s m args below meth c A H locs k n lsA X)
theorem x_if_le {α : Type} {x : Int32} {off : Int} {tgt : Nat} {Fa Fb : Option α} {z : α} (hd : decode M.2.1 pc = .ok (.ifCond .le off, 3)) (ht : (pc : Int) + off = (tgt : Int)) (h : (if x ≤ 0 then Fa else Fb) = some z) (kt : Fa = some z → V M D d S0 r tgt ls st S) (kf : Fb = some z → V M D d S0 r (pc + 3) ls st S) : V M D d S0 r pc ls (.int x :: st) S :=
  fun p l e R s m args below meth c A H locs k n lsA X => lv_if_le X.1.1.1 X.1.1.2.1 hd ht (fun c9 => kt (by rw [if_pos c9] at h; exact h) p l e R s m args below meth c A H locs k n lsA X) (fun c9 => kf (by rw [if_neg c9] at h; exact h) p l e R s m args below meth c A H locs k n lsA X)
theorem x_icmp_eq {α : Type} {x y : Int32} {off : Int} {tgt : Nat} {Fa Fb : Option α} {z : α} (hd : decode M.2.1 pc = .ok (.if_icmp .eq off, 3)) (ht : (pc : Int) + off = (tgt : Int)) (h : (if x = y then Fa else Fb) = some z) (kt : Fa = some z → V M D d S0 r tgt ls st S) (kf : Fb = some z → V M D d S0 r (pc + 3) ls st S) : V M D d S0 r pc ls (.int y :: .int x :: st) S :=
  fun p l e R s m args below meth c A H locs k n lsA X => lv_icmp_eq X.1.1.1 X.1.1.2.1 hd ht (fun c9 => kt (by rw [if_pos c9] at h; exact h) p l e R s m args below meth c A H locs k n lsA X) (fun c9 => kf (by rw [if_neg c9] at h; exact h) p l e R s m args below meth c A H locs k n lsA X)
theorem x_icmp_ne {α : Type} {x y : Int32} {off : Int} {tgt : Nat} {Fa Fb : Option α} {z : α} (hd : decode M.2.1 pc = .ok (.if_icmp .ne off, 3)) (ht : (pc : Int) + off = (tgt : Int)) (h : (if x = y then Fa else Fb) = some z) (kt : Fb = some z → V M D d S0 r tgt ls st S) (kf : Fa = some z → V M D d S0 r (pc + 3) ls st S) : V M D d S0 r pc ls (.int y :: .int x :: st) S :=
  fun p l e R s m args below meth c A H locs k n lsA X => lv_icmp_ne X.1.1.1 X.1.1.2.1 hd ht (fun c9 => kt (by rw [if_neg c9] at h; exact h) p l e R s m args below meth c A H locs k n lsA X) (fun c9 => kf (by rw [if_pos c9] at h; exact h) p l e R s m args below meth c A H locs k n lsA X)
theorem x_icmp_lt {α : Type} {x y : Int32} {off : Int} {tgt : Nat} {Fa Fb : Option α} {z : α} (hd : decode M.2.1 pc = .ok (.if_icmp .lt off, 3)) (ht : (pc : Int) + off = (tgt : Int)) (h : (if x < y then Fa else Fb) = some z) (kt : Fa = some z → V M D d S0 r tgt ls st S) (kf : Fb = some z → V M D d S0 r (pc + 3) ls st S) : V M D d S0 r pc ls (.int y :: .int x :: st) S :=
  fun p l e R s m args below meth c A H locs k n lsA X => lv_icmp_lt X.1.1.1 X.1.1.2.1 hd ht (fun c9 => kt (by rw [if_pos c9] at h; exact h) p l e R s m args below meth c A H locs k n lsA X) (fun c9 => kf (by rw [if_neg c9] at h; exact h) p l e R s m args below meth c A H locs k n lsA X)
theorem x_icmp_ge {α : Type} {x y : Int32} {off : Int} {tgt : Nat} {Fa Fb : Option α} {z : α} (hd : decode M.2.1 pc = .ok (.if_icmp .ge off, 3)) (ht : (pc : Int) + off = (tgt : Int)) (h : (if y ≤ x then Fa else Fb) = some z) (kt : Fa = some z → V M D d S0 r tgt ls st S) (kf : Fb = some z → V M D d S0 r (pc + 3) ls st S) : V M D d S0 r pc ls (.int y :: .int x :: st) S :=
  fun p l e R s m args below meth c A H locs k n lsA X => lv_icmp_ge X.1.1.1 X.1.1.2.1 hd ht (fun c9 => kt (by rw [if_pos c9] at h; exact h) p l e R s m args below meth c A H locs k n lsA X) (fun c9 => kf (by rw [if_neg c9] at h; exact h) p l e R s m args below meth c A H locs k n lsA X)
theorem x_icmp_gt {α : Type} {x y : Int32} {off : Int} {tgt : Nat} {Fa Fb : Option α} {z : α} (hd : decode M.2.1 pc = .ok (.if_icmp .gt off, 3)) (ht : (pc : Int) + off = (tgt : Int)) (h : (if y < x then Fa else Fb) = some z) (kt : Fa = some z → V M D d S0 r tgt ls st S) (kf : Fb = some z → V M D d S0 r (pc + 3) ls st S) : V M D d S0 r pc ls (.int y :: .int x :: st) S :=
  fun p l e R s m args below meth c A H locs k n lsA X => lv_icmp_gt X.1.1.1 X.1.1.2.1 hd ht (fun c9 => kt (by rw [if_pos c9] at h; exact h) p l e R s m args below meth c A H locs k n lsA X) (fun c9 => kf (by rw [if_neg c9] at h; exact h) p l e R s m args below meth c A H locs k n lsA X)
theorem x_icmp_le {α : Type} {x y : Int32} {off : Int} {tgt : Nat} {Fa Fb : Option α} {z : α} (hd : decode M.2.1 pc = .ok (.if_icmp .le off, 3)) (ht : (pc : Int) + off = (tgt : Int)) (h : (if x ≤ y then Fa else Fb) = some z) (kt : Fa = some z → V M D d S0 r tgt ls st S) (kf : Fb = some z → V M D d S0 r (pc + 3) ls st S) : V M D d S0 r pc ls (.int y :: .int x :: st) S :=
  fun p l e R s m args below meth c A H locs k n lsA X => lv_icmp_le X.1.1.1 X.1.1.2.1 hd ht (fun c9 => kt (by rw [if_pos c9] at h; exact h) p l e R s m args below meth c A H locs k n lsA X) (fun c9 => kf (by rw [if_neg c9] at h; exact h) p l e R s m args below meth c A H locs k n lsA X)
theorem x_acmp_eq {α : Type} {x y : Option Nat} {off : Int} {tgt : Nat} {Fa Fb : Option α} {z : α} (hd : decode M.2.1 pc = .ok (.if_acmp .eq off, 3)) (ht : (pc : Int) + off = (tgt : Int)) (h : (if x = y then Fa else Fb) = some z) (kt : Fa = some z → V M D d S0 r tgt ls st S) (kf : Fb = some z → V M D d S0 r (pc + 3) ls st S) : V M D d S0 r pc ls (va_rf y :: va_rf x :: st) S :=
  fun p l e R s m args below meth c A H locs k n lsA X => lv_acmp_eq X.1.1.1 X.1.1.2.1 hd ht (fun c9 => kt (by rw [if_pos c9] at h; exact h) p l e R s m args below meth c A H locs k n lsA X) (fun c9 => kf (by rw [if_neg c9] at h; exact h) p l e R s m args below meth c A H locs k n lsA X)
theorem x_acmp_ne {α : Type} {x y : Option Nat} {off : Int} {tgt : Nat} {Fa Fb : Option α} {z : α} (hd : decode M.2.1 pc = .ok (.if_acmp .ne off, 3)) (ht : (pc : Int) + off = (tgt : Int)) (h : (if x = y then Fa else Fb) = some z) (kt : Fb = some z → V M D d S0 r tgt ls st S) (kf : Fa = some z → V M D d S0 r (pc + 3) ls st S) : V M D d S0 r pc ls (va_rf y :: va_rf x :: st) S :=
  fun p l e R s m args below meth c A H locs k n lsA X => lv_acmp_ne X.1.1.1 X.1.1.2.1 hd ht (fun c9 => kt (by rw [if_neg c9] at h; exact h) p l e R s m args below meth c A H locs k n lsA X) (fun c9 => kf (by rw [if_pos c9] at h; exact h) p l e R s m args below meth c A H locs k n lsA X)
theorem x_ifnull {α : Type} {x : Option Nat} {off : Int} {tgt : Nat} {Fa : Option α} {Fb : Nat → Option α} {z : α} (hd : decode M.2.1 pc = .ok (.ifnull off, 3)) (ht : (pc : Int) + off = (tgt : Int)) (h : xcase x Fa Fb = some z) (kt : x = none → Fa = some z → V M D d S0 r tgt ls st S) (kf : ∀ a, x = some a → Fb a = some z → V M D d S0 r (pc + 3) ls st S) : V M D d S0 r pc ls (va_rf x :: st) S := by
  cases x with
  | none => exact fun p l e R s m args below meth c A H locs k n lsA X => lv_ifnullN X.1.1.1 X.1.1.2.1 hd ht (kt rfl h p l e R s m args below meth c A H locs k n lsA X)
  | some a => exact fun p l e R s m args below meth c A H locs k n lsA X => lv_ifnull X.1.1.1 X.1.1.2.1 hd (kf a rfl h p l e R s m args below meth c A H locs k n lsA X)
theorem x_ifnonnull {α : Type} {x : Option Nat} {off : Int} {tgt : Nat} {Fa : Option α} {Fb : Nat → Option α} {z : α} (hd : decode M.2.1 pc = .ok (.ifnonnull off, 3)) (ht : (pc : Int) + off = (tgt : Int)) (h : xcase x Fa Fb = some z) (kt : ∀ a, x = some a → Fb a = some z → V M D d S0 r tgt ls st S) (kf : x = none → Fa = some z → V M D d S0 r (pc + 3) ls st S) : V M D d S0 r pc ls (va_rf x :: st) S := by
  cases x with
  | none => exact fun p l e R s m args below meth c A H locs k n lsA X => lv_ifnonnullN X.1.1.1 X.1.1.2.1 hd (kf rfl h p l e R s m args below meth c A H locs k n lsA X)
  | some a => exact fun p l e R s m args below meth c A H locs k n lsA X => lv_ifnonnull X.1.1.1 X.1.1.2.1 hd ht (kt a rfl h p l e R s m args below meth c A H locs k n lsA X)
end XROWS
end
section
/-! READING AND WRITING THE STATE -/
def xobj (S : xS) (x : Option Nat) (ci : Nat) : Option (Nat × List Value) := match x with
  | none => none
  | some a => match S.1 a with
    | some (.inr (c, fs)) => if c = ci then some (a, fs) else none
    | _ => none
theorem xobj_some {S : xS} {x : Option Nat} {ci : Nat} {q : Nat × List Value} (h : xobj S x ci = some q) : x = some q.1 ∧ S.1 q.1 = some (.inr (ci, q.2)) := by
  unfold xobj at h
  split at h
  · cases h
  · split at h
    · rename_i a c fs hs
      split at h
      · rename_i hc
        cases h
        exact ⟨rfl, by rw [hs, hc]⟩
      · cases h
    · cases h
theorem xobj_of {S : xS} {a ci : Nat} {fs : List Value} (h : S.1 a = some (.inr (ci, fs))) : xobj S (some a) ci = some (a, fs) := by
  simp [xobj, h]
def xgI (S : xS) (x : Option Nat) (ci k : Nat) : Option Int32 := (xobj S x ci).bind fun q => match q.2[k]? with
  | some (.int v) => some v
  | _ => none
def xgR (S : xS) (x : Option Nat) (ci k : Nat) : Option (Option Nat) := (xobj S x ci).bind fun q => match q.2[k]? with
  | some (.ref v) => some (some v)
  | some .null => some none
  | _ => none
def xput (S : xS) (x : Option Nat) (ci k : Nat) (v : Value) : Option xS := (xobj S x ci).bind fun q => if k < q.2.length then some (xset S q.1 (.inr (ci, q.2.set k v))) else none
def xnew (S : xS) (ci : Nat) (fs : List Value) : Option (Nat × xS) := if S.2.1 + 1 ≤ S.2.2.2.1 ∧ S.2.2.1 + fs.length ≤ S.2.2.2.2 then some (S.2.1, xpush S (.inr (ci, fs)) fs.length) else none
def xnewa (S : xS) (i : Nat) (n : Int32) (g : (Nat → Int32) ⊕ (Nat → Int64) ⊕ (Nat → UInt32) ⊕ (Nat → UInt64) ⊕ (Nat → Option Nat)) : Option (Nat × xS) := if ¬ n < 0 ∧ n.toNatClampNeg ≤ 1000000 ∧ S.2.1 + 1 ≤ S.2.2.2.1 ∧ S.2.2.1 + n.toNatClampNeg ≤ S.2.2.2.2 then some (S.2.1, xpush S (.inl (i, (n.toNatClampNeg, g))) n.toNatClampNeg) else none
def xarr (S : xS) (x : Option Nat) (i : Nat) : Option (Nat × vp_A) := match x with
  | none => none
  | some a => match S.1 a with
    | some (.inl (j, z)) => if j = i then some (a, z) else none
    | _ => none
theorem xarr_some {S : xS} {x : Option Nat} {i : Nat} {q : Nat × vp_A} (h : xarr S x i = some q) : x = some q.1 ∧ S.1 q.1 = some (.inl (i, q.2)) := by
  unfold xarr at h
  split at h
  · cases h
  · split at h
    · rename_i a j z hs
      split at h
      · rename_i hc
        cases h
        exact ⟨rfl, by rw [hs, hc]⟩
      · cases h
    · cases h
theorem xarr_of {S : xS} {a i : Nat} {z : vp_A} (h : S.1 a = some (.inl (i, z))) : xarr S (some a) i = some (a, z) := by
  simp [xarr, h]
/-- elements: of an array of ints or bytes, of longs, of references -/
def xldI (S : xS) (x : Option Nat) (i : Nat) (j : Int32) : Option Int32 := (xarr S x i).bind fun q => match q.2.2 with
  | .inl f => if ¬ (j < 0 ∨ q.2.1 ≤ j.toNatClampNeg) then some (f j.toNatClampNeg) else none
  | _ => none
def xldL (S : xS) (x : Option Nat) (i : Nat) (j : Int32) : Option Int64 := (xarr S x i).bind fun q => match q.2.2 with
  | .inr (.inl f) => if ¬ (j < 0 ∨ q.2.1 ≤ j.toNatClampNeg) then some (f j.toNatClampNeg) else none
  | _ => none
def xldR (S : xS) (x : Option Nat) (i : Nat) (j : Int32) : Option (Option Nat) := (xarr S x i).bind fun q => match q.2.2 with
  | .inr (.inr (.inr (.inr f))) => if ¬ (j < 0 ∨ q.2.1 ≤ j.toNatClampNeg) then some (f j.toNatClampNeg) else none
  | _ => none
def xstI (S : xS) (x : Option Nat) (i : Nat) (j : Int32) (v : Int32) : Option xS := (xarr S x i).bind fun q => match q.2.2 with
  | .inl f => if ¬ (j < 0 ∨ q.2.1 ≤ j.toNatClampNeg) then some (xset S q.1 (.inl (i, (q.2.1, .inl (upd f j.toNatClampNeg v))))) else none
  | _ => none
def xstL (S : xS) (x : Option Nat) (i : Nat) (j : Int32) (v : Int64) : Option xS := (xarr S x i).bind fun q => match q.2.2 with
  | .inr (.inl f) => if ¬ (j < 0 ∨ q.2.1 ≤ j.toNatClampNeg) then some (xset S q.1 (.inl (i, (q.2.1, .inr (.inl (vp_updL f j.toNatClampNeg v)))))) else none
  | _ => none
/-- a reference goes into an array of references to objects of class ci -/
def xstR (S : xS) (x : Option Nat) (i ci : Nat) (j : Int32) (v : Option Nat) : Option xS := (xarr S x i).bind fun q => match q.2.2 with
  | .inr (.inr (.inr (.inr f))) => if ¬ (j < 0 ∨ q.2.1 ≤ j.toNatClampNeg) ∧ (v = none ∨ (xobj S v ci).isSome = true) then some (xset S q.1 (.inl (i, (q.2.1, .inr (.inr (.inr (.inr (va_up f j.toNatClampNeg v)))))))) else none
  | _ => none
def xlen (S : xS) (x : Option Nat) (i : Nat) : Option Int32 := (xarr S x i).bind fun q => some (Int32.ofNat q.2.1)
section XHEAP
variable {M : xM} {D : xD} {d : Nat} {S0 : xS} {r : xRes} {pc : Nat} {ls : List (Nat × xV)} {st : List Value} {S : xS} {α : Type}
/-- what is known of a field -/
theorem x_field {ci k : Nat} {C : String} {T : u_T} {N : Nat} {a : Nat} {fs : List Value} {s : State} {args : Array Value} {H : Heap} (hts : ∀ w ∈ xT, w.before args s = true) (hK : xK D s) (hR : xR D S H) (hs : S.1 a = some (.inr (ci, fs))) (hc : xCl[ci]? = some (C, T, N)) (hin : ∀ w ∈ u_ws C T N, w ∈ xT) (hk : k < N) :
    ∃ (cell : Cell) (cf : ClassId) (kf : Class) (fi : Nat) (f : Field) (kC : Class), H[a]? = some cell ∧ cell.cls = D.1.1 ci ∧ cell.vm = .none ∧ (∀ j, j < N → cell.slots[D.1.2 ci j]? = some (vp_V fs j)) ∧ s.fieldFound? (T k).1 (T k).2.1 (T k).2.2.1 = some (cf, kf, fi, f) ∧ f.slot = D.1.2 ci k ∧ f.isStatic = false ∧ s.vm.findClass C = some (D.1.1 ci) ∧ s.vm.classes[D.1.1 ci]? = some kC ∧ kC.kind = .ordinary := by
  obtain ⟨q, h1, cell, q1, q2, q3, q4⟩ := hR.2.1 a _ hs
  have hr : q = (C, T, N) := Option.some.inj (h1.symm.trans hc)
  subst hr
  obtain ⟨hS, hfc, kC, hkC, hkind⟩ := hK.1.1 ci _ hc
  obtain ⟨cf, kf, fi, f, hi, hsl⟩ := hS k hk
  exact ⟨cell, cf, kf, fi, f, kC, q1, q2, q3, q4, hi, hsl, (u_facts hfc hkC (u_lays hts hin hk) hi).1, hfc, hkC, hkind⟩
theorem x_get0 {ci index k : Nat} {C : String} {T : u_T} {N : Nat} {a : Nat} {fs : List Value} {v : Value} (hs : S.1 a = some (.inr (ci, fs))) (hv : fs[k]? = some v) (hc : xCl[ci]? = some (C, T, N)) (hin : ∀ w ∈ u_ws C T N, w ∈ xT) (hk : k < N) (hw : Cond.fieldLink M.1.cls index (T k).1 (T k).2.1 (T k).2.2.1 ∈ xT) (hd : decode M.2.1 pc = .ok (.getfield index, 3)) (kk : V M D d S0 r (pc + 3) ls (v :: st) S) : V M D d S0 r pc ls (.ref a :: st) S := by
  intro p l e R s m args below meth c A H locs k' n lsA X
  have hts := X.1.1.2.2.2.2.2.2.1
  obtain ⟨cell, cf, kf, fi, f, kC, q1, q2, q3, q4, hi, hsl, hst, -⟩ := x_field (k := k) hts X.1.2.1 X.2.1 hs hc hin hk
  refine W.getf X.1.1.1 X.1.1.2.1 X.1.1.2.2.2.2.1 (hts _ hw) hi hst q1 (by rw [q3]; exact fun h => by cases h) (v := v) ?_ rfl rfl hd (kk p l e R s m args below meth c A H locs k' n lsA X)
  rw [hsl, q4 k hk]
  simp [vp_V, hv]
theorem x_get1 {ci index k : Nat} {C host : String} {T : u_T} {N : Nat} {a : Nat} {fs : List Value} {v : Value} (hs : S.1 a = some (.inr (ci, fs))) (hv : fs[k]? = some v) (hc : xCl[ci]? = some (C, T, N)) (hin : ∀ w ∈ u_ws C T N, w ∈ xT) (hk : k < N) (hw : Cond.fieldLinkNest M.1.cls index (T k).1 (T k).2.1 (T k).2.2.1 host ∈ xT) (hd : decode M.2.1 pc = .ok (.getfield index, 3)) (kk : V M D d S0 r (pc + 3) ls (v :: st) S) : V M D d S0 r pc ls (.ref a :: st) S := by
  intro p l e R s m args below meth c A H locs k' n lsA X
  have hts := X.1.1.2.2.2.2.2.2.1
  obtain ⟨cell, cf, kf, fi, f, kC, q1, q2, q3, q4, hi, hsl, hst, -⟩ := x_field (k := k) hts X.1.2.1 X.2.1 hs hc hin hk
  refine va_Wgetf X.1.1.1 X.1.1.2.1 X.1.1.2.2.2.2.1 (hts _ hw) hi hst q1 (by rw [q3]; exact fun h => by cases h) (v := v) ?_ rfl rfl hd (kk p l e R s m args below meth c A H locs k' n lsA X)
  rw [hsl, q4 k hk]
  simp [vp_V, hv]
/-- the word by which a field is linked: in its own class, or in a nest mate's -/
def xfl (own : String) (index : Nat) (q : String × String × String × Bool) (host : Option String) : Cond := match host with
  | none => .fieldLink own index q.1 q.2.1 q.2.2.1
  | some h => .fieldLinkNest own index q.1 q.2.1 q.2.2.1 h
theorem x_get {ci index k : Nat} {C : String} {host : Option String} {T : u_T} {N : Nat} {a : Nat} {fs : List Value} {v : Value} (hs : S.1 a = some (.inr (ci, fs))) (hv : fs[k]? = some v) (hc : xCl[ci]? = some (C, T, N)) (hin : ∀ w ∈ u_ws C T N, w ∈ xT) (hk : k < N) (hw : xfl M.1.cls index (T k) host ∈ xT) (hd : decode M.2.1 pc = .ok (.getfield index, 3)) (kk : V M D d S0 r (pc + 3) ls (v :: st) S) : V M D d S0 r pc ls (.ref a :: st) S := by
  cases host with
  | none => exact x_get0 hs hv hc hin hk hw hd kk
  | some h => exact x_get1 hs hv hc hin hk hw hd kk
theorem x_getI {ci index k : Nat} {C : String} {host : Option String} {T : u_T} {N : Nat} {x : Option Nat} {F : Int32 → Option α} {z : α} (h : (xgI S x ci k).bind F = some z) (hc : xCl[ci]? = some (C, T, N)) (hin : ∀ w ∈ u_ws C T N, w ∈ xT) (hk : k < N) (hw : xfl M.1.cls index (T k) host ∈ xT) (hd : decode M.2.1 pc = .ok (.getfield index, 3)) (kk : ∀ v, F v = some z → V M D d S0 r (pc + 3) ls (.int v :: st) S) : V M D d S0 r pc ls (va_rf x :: st) S := by
  obtain ⟨v, h1, h2⟩ := Option.bind_eq_some_iff.mp h
  obtain ⟨q, h3, h4⟩ := Option.bind_eq_some_iff.mp h1
  obtain ⟨rfl, h5⟩ := xobj_some h3
  split at h4
  · rename_i w hw'
    cases h4
    exact x_get h5 hw' hc hin hk hw hd (kk _ h2)
  · cases h4
theorem x_getR {ci index k : Nat} {C : String} {host : Option String} {T : u_T} {N : Nat} {x : Option Nat} {F : Option Nat → Option α} {z : α} (h : (xgR S x ci k).bind F = some z) (hc : xCl[ci]? = some (C, T, N)) (hin : ∀ w ∈ u_ws C T N, w ∈ xT) (hk : k < N) (hw : xfl M.1.cls index (T k) host ∈ xT) (hd : decode M.2.1 pc = .ok (.getfield index, 3)) (kk : ∀ v, F v = some z → V M D d S0 r (pc + 3) ls (va_rf v :: st) S) : V M D d S0 r pc ls (va_rf x :: st) S := by
  obtain ⟨v, h1, h2⟩ := Option.bind_eq_some_iff.mp h
  obtain ⟨q, h3, h4⟩ := Option.bind_eq_some_iff.mp h1
  obtain ⟨rfl, h5⟩ := xobj_some h3
  split at h4
  · rename_i w hw'
    cases h4
    exact x_get h5 hw' hc hin hk hw hd (kk _ h2)
  · rename_i hw'
    cases h4
    exact x_get h5 hw' hc hin hk hw hd (kk _ h2)
  · cases h4
theorem x_apart {ci : Nat} {C : String} {T : u_T} {N : Nat} {s : State} {args : Array Value} (hts : ∀ w ∈ xT, w.before args s = true) (hK : xK D s) (hc : xCl[ci]? = some (C, T, N)) (hin : ∀ w ∈ u_ws C T N, w ∈ xT) (ty0 : Nat → FieldType) (hty : ∀ k, k < N → parseFieldDescriptor (T k).2.2.1 = some (ty0 k)) (hnm : ∀ a, a < N → ∀ b, b < N → a ≠ b → (T a).2.1 ≠ (T b).2.1) : ∀ x y, x < N → y < N → x ≠ y → D.1.2 ci x ≠ D.1.2 ci y := va_apart (own := C) hts hin ty0 hty hnm hK.1 hc
theorem x_put {ci index k : Nat} {C : String} {host : Option String} {T : u_T} {N : Nat} {x : Option Nat} {v : Value} {F : xS → Option α} {z : α} (h : (xput S x ci k v).bind F = some z) (hc : xCl[ci]? = some (C, T, N)) (hin : ∀ w ∈ u_ws C T N, w ∈ xT) (ty0 : Nat → FieldType) (hty : ∀ k, k < N → parseFieldDescriptor (T k).2.2.1 = some (ty0 k)) (hnm : ∀ a, a < N → ∀ b, b < N → a ≠ b → (T a).2.1 ≠ (T b).2.1) (hk : k < N) (hfin : (T k).2.2.2 = false) (hn : narrow (ty0 k) v = v) (hfit : fits (ty0 k) v = true) (hw : xfl M.1.cls index (T k) host ∈ xT) (hd : decode M.2.1 pc = .ok (.putfield index, 3)) (kk : ∀ S1, F S1 = some z → V M D d S0 r (pc + 3) ls st S1) : V M D d S0 r pc ls (v :: va_rf x :: st) S := by
  obtain ⟨S1, h1, h2⟩ := Option.bind_eq_some_iff.mp h
  obtain ⟨q, h3, h4⟩ := Option.bind_eq_some_iff.mp h1
  obtain ⟨rfl, h5⟩ := xobj_some h3
  split at h4
  case isFalse => cases h4
  rename_i hl
  cases h4
  intro p l e R s m args below meth c A H locs k' n lsA X
  have hts := X.1.1.2.2.2.2.2.2.1
  have hap := x_apart hts X.1.2.1 hc hin ty0 hty hnm
  obtain ⟨cell, cf, kf, fi, f, kC, q1, q2, q3, q4, hi, hsl, hst, hfc, hkC, hkind⟩ := x_field (k := k) hts X.1.2.1 X.2.1 h5 hc hin hk
  have hlay := hts _ (hin _ (u_in_lay hk))
  unfold u_lay at hlay
  rw [if_neg (by rw [hfin]; decide)] at hlay
  have h6 := u_store hfc hkC hkind hlay hi (hty k hk) hn hfit
  have go : ∀ H' : Heap, H'[q.1]? = some (cell.setSlot f.slot v) → H'.size = H.size → (∀ y, y ≠ q.1 → H'[y]? = H[y]?) → W p l e R s m args below meth c H' (locs ++ [⟨q.1, f.slot⟩]) k' n (xQ D S0 r below s A) (F0 m (pc + 3) lsA st) := by
    intro H' e1 e2 e3
    rw [hsl] at e1
    have e4 : xR D (xset S q.1 (.inr (ci, q.2.set k v))) H' := X.2.1.set ⟨_, hc, t_OB.to (V := updV (vp_V q.2) k v) ⟨_, e1, q2, q3, t_set q4 hap hk v⟩ (fun j _ => vp_updV_set hl v j)⟩ e2 e3
    have hA : A q.1 := X.2.2.2.1 q.1 (by rw [h5]; exact fun h => by cases h)
    refine kk _ h2 p l e R s m args below meth c A H' _ k' n lsA ⟨X.1, e4, X.2.2.1.put e2 e3 hA, fun y hy => ?_, X.2.2.2.2.1, X.2.2.2.2.2.1, X.2.2.2.2.2.2.1, X.2.2.2.2.2.2.2⟩
    by_cases ey : y = q.1
    · rw [ey]; exact hA
    · exact X.2.2.2.1 y (by rw [← va_up_ne S.1 (some (.inr (ci, q.2.set k v))) ey]; exact hy)
  cases host with
  | none => exact W.putK X.1.1.1 X.1.1.2.1 (f := f) ⟨X.1.1.2.2.2.2.1, hts _ hw, ⟨_, _, _, hi⟩, hst⟩ (by rw [q2]; exact h6) q1 q3 (by rw [hsl]; exact k2_hasslot (q4 k hk)) rfl rfl hd go
  | some hst' => exact va_WputK X.1.1.1 X.1.1.2.1 (f := f) X.1.1.2.2.2.2.1 (hts _ hw) hi hst (by rw [q2]; exact h6) q1 q3 (by rw [hsl]; exact k2_hasslot (q4 k hk)) rfl rfl hd go
theorem x_putF {ci index k : Nat} {C : String} {T : u_T} {N : Nat} {x : Option Nat} {v : Value} {F : xS → Option α} {z : α} (h : (xput S x ci k v).bind F = some z) (hc : xCl[ci]? = some (C, T, N)) (hin : ∀ w ∈ u_ws C T N, w ∈ xT) (ty0 : Nat → FieldType) (hty : ∀ k, k < N → parseFieldDescriptor (T k).2.2.1 = some (ty0 k)) (hnm : ∀ a, a < N → ∀ b, b < N → a ≠ b → (T a).2.1 ≠ (T b).2.1) (hk : k < N) (hfin : (T k).2.2.2 = true) (hinit : M.1.name = "<init>") (hdecl : (T k).1 = M.1.cls) (hn : narrow (ty0 k) v = v) (hfit : fits (ty0 k) v = true) (hw : Cond.fieldLink M.1.cls index (T k).1 (T k).2.1 (T k).2.2.1 ∈ xT) (hd : decode M.2.1 pc = .ok (.putfield index, 3)) (kk : ∀ S1, F S1 = some z → V M D d S0 r (pc + 3) ls st S1) : V M D d S0 r pc ls (v :: va_rf x :: st) S := by
  obtain ⟨S1, h1, h2⟩ := Option.bind_eq_some_iff.mp h
  obtain ⟨q, h3, h4⟩ := Option.bind_eq_some_iff.mp h1
  obtain ⟨rfl, h5⟩ := xobj_some h3
  split at h4
  case isFalse => cases h4
  rename_i hl
  cases h4
  intro p l e R s m args below meth c A H locs k' n lsA X
  have hts := X.1.1.2.2.2.2.2.2.1
  have hap := x_apart hts X.1.2.1 hc hin ty0 hty hnm
  obtain ⟨cell, cf, kf, fi, f, kC, q1, q2, q3, q4, hi, hsl, hst, hfc, hkC, hkind⟩ := x_field (k := k) hts X.1.2.1 X.2.1 h5 hc hin hk
  have hlay := hts _ (hin _ (u_in_lay hk))
  unfold u_lay at hlay
  rw [if_pos hfin] at hlay
  have hcf : m.cls = cf := by
    obtain ⟨_, _, c', _, _, _, -, -, hf', -, -, -, hown2, -⟩ := Cond.laysFinal_spec hlay
    have e1 : c' = cf := by have := hi.symm.trans hf'; simp at this; exact this.1.symm
    rw [hdecl] at hown2
    rw [← e1]; exact Option.some.inj (X.1.1.2.2.2.2.1.symm.trans hown2)
  have h6 := u_fits hfc hkC hkind (Or.inr hlay) hi (hty k hk) hn hfit
  refine W.putFinK X.1.1.1 X.1.1.2.1 X.1.1.2.2.2.2.1 (hts _ hw) hi hst hcf (X.1.1.2.2.2.2.2.1.trans hinit) (by rw [q2]; exact h6) q1 q3 (by rw [hsl]; exact k2_hasslot (q4 k hk)) rfl rfl hd fun H' e1 e2 e3 => ?_
  rw [hsl] at e1
  have e4 : xR D (xset S q.1 (.inr (ci, q.2.set k v))) H' := X.2.1.set ⟨_, hc, t_OB.to (V := updV (vp_V q.2) k v) ⟨_, e1, q2, q3, t_set q4 hap hk v⟩ (fun j _ => vp_updV_set hl v j)⟩ e2 e3
  have hA : A q.1 := X.2.2.2.1 q.1 (by rw [h5]; exact fun h => by cases h)
  refine kk _ h2 p l e R s m args below meth c A H' _ k' n lsA ⟨X.1, e4, X.2.2.1.put e2 e3 hA, fun y hy => ?_, X.2.2.2.2.1, X.2.2.2.2.2.1, X.2.2.2.2.2.2.1, X.2.2.2.2.2.2.2⟩
  by_cases ey : y = q.1
  · rw [ey]; exact hA
  · exact X.2.2.2.1 y (by rw [← va_up_ne S.1 (some (.inr (ci, q.2.set k v))) ey]; exact hy)
end XHEAP

section XMAKE
variable {M : xM} {D : xD} {d : Nat} {S0 : xS} {r : xRes} {pc : Nat} {ls : List (Nat × xV)} {st : List Value} {S : xS} {α : Type}
/-- a write into a known cell goes on -/
theorem x_wrote {p : Program} {l : Launch} {R : Room} {s : State} {m : MethodId} {args : Array Value} {meth : Method} {c : Code} {A : Nat → Prop} {H H' : Heap} {locs : List Loc} {k n : Nat} {lsA : Array Slot} {a i : Nat} {o o' : xO} (X : xX M D d S0 ls S p l R s m args meth c A H locs k n lsA) (h5 : S.1 a = some o) (he : x_at D a o' H') (e2 : H'.size = H.size) (e3 : ∀ y : Nat, y ≠ a → H'[y]? = H[y]?) : xX M D d S0 ls (xset S a o') p l R s m args meth c A H' (locs ++ [⟨a, i⟩]) k n lsA := by
  have hA : A a := X.2.2.2.1 a (by rw [h5]; exact fun h => by cases h)
  refine ⟨X.1, X.2.1.set he e2 e3, X.2.2.1.put e2 e3 hA, fun y hy => ?_, X.2.2.2.2.1, X.2.2.2.2.2.1, X.2.2.2.2.2.2.1, X.2.2.2.2.2.2.2⟩
  by_cases ey : y = a
  · rw [ey]; exact hA
  · exact X.2.2.2.1 y (by rw [← va_up_ne S.1 (some o') ey]; exact hy)
/-- a new cell -/
theorem x_pushed {p : Program} {l : Launch} {R : Room} {s : State} {m : MethodId} {args : Array Value} {meth : Method} {c : Code} {A : Nat → Prop} {H H' : Heap} {locs : List Loc} {k n N : Nat} {lsA : Array Slot} {o : xO} (X : xX M D d S0 ls S p l R s m args meth c A H locs k n lsA) (hlim : S.2.1 + 1 ≤ S.2.2.2.1 ∧ S.2.2.1 + N ≤ S.2.2.2.2) (he : x_at D H.size o H') (e2 : H'.size = H.size + 1) (e3 : ∀ y : Nat, y < H.size → H'[y]? = H[y]?) : xX M D d S0 ls (xpush S o N) p l R s m args meth c A H' locs (k + 1) (n + N) lsA := by
  have hs : s.heap.size ≤ H.size := X.2.2.1.1
  refine ⟨X.1, X.2.1.push N hlim he e2 e3, ⟨by omega, fun q h1 h2 => (e3 q (by omega)).trans (X.2.2.1.2.1 q h1 h2), X.2.2.1.2.2⟩, fun y hy => ?_, X.2.2.2.2.1, ?_, ?_, X.2.2.2.2.2.2.2⟩
  · by_cases ey : y = S.2.1
    · refine X.1.2.2.2.1 y ?_
      rw [ey, ← X.2.1.1]; exact hs
    · exact X.2.2.2.1 y (by rw [← va_up_ne S.1 (some o) ey]; exact hy)
  · show S0.2.1 + (k + 1) = S.2.1 + 1
    have := X.2.2.2.2.2.1
    omega
  · show S0.2.2.1 + (n + N) = S.2.2.1 + N
    have := X.2.2.2.2.2.2.1
    omega
/-- the limits leave room -/
theorem x_fit {p : Program} {l : Launch} {R : Room} {s : State} {m : MethodId} {args : Array Value} {meth : Method} {c : Code} {A : Nat → Prop} {H : Heap} {locs : List Loc} {k n N : Nat} {lsA : Array Slot} (X : xX M D d S0 ls S p l R s m args meth c A H locs k n lsA) (h1 : S.2.1 + 1 ≤ S.2.2.2.1) (h2 : S.2.2.1 + N ≤ S.2.2.2.2) : k + 1 ≤ R.cells ∧ n + N ≤ R.slots := by
  have e := X.2.2.2.2.1
  have e1 : S.2.2.2.1 = S0.2.2.2.1 := by rw [e]
  have e2 : S.2.2.2.2 = S0.2.2.2.2 := by rw [e]
  have a := X.2.2.2.2.2.1
  have b := X.2.2.2.2.2.2.1
  have c1 := X.1.2.2.2.2.2.2.1
  have c2 := X.1.2.2.2.2.2.2.2.1
  omega
theorem x_new {ci index : Nat} {C : String} {T : u_T} {N : Nat} {fs : List Value} {F : Nat × xS → Option α} {z : α} (h : (xnew S ci fs).bind F = some z) (hc : xCl[ci]? = some (C, T, N)) (hin : ∀ w ∈ u_ws C T N, w ∈ xT) (ty0 : Nat → FieldType) (hty : ∀ k, k < N → parseFieldDescriptor (T k).2.2.1 = some (ty0 k)) (hN : fs.length = N) (hfs : ∀ j, j < N → defaultValue (ty0 j) = vp_V fs j) (hcl : Cond.classLink M.1.cls index C ∈ xT) (hinst : Cond.instantiable C N ∈ xT) (hini : Cond.initialized C ∈ xT) (hd : decode M.2.1 pc = .ok (.new index, 3)) (kk : ∀ q, F q = some z → V M D d S0 r (pc + 3) ls (va_rf (some q.1) :: st) q.2) : V M D d S0 r pc ls st S := by
  obtain ⟨q, h1, h2⟩ := Option.bind_eq_some_iff.mp h
  unfold xnew at h1
  split at h1
  case isFalse => cases h1
  rename_i hlim
  cases h1
  intro p l e R s m args below meth c A H locs k n lsA X
  have hts := X.1.1.2.2.2.2.2.2.1
  have hKn := X.1.2.1.1.1 ci _ hc
  have hf := x_fit X hlim.1 hlim.2
  rw [hN] at hf
  refine W.newcK X.1.1.1 X.1.1.2.1 X.1.1.2.2.2.2.1 (hts _ hcl) (hts _ hinst) (hts _ hini) rfl hd hf.1 hf.2 hKn.2.1 rfl fun H1 kC hkC e1 z1 o1 => ?_
  have key := kk _ h2 p l e R s m args below meth c A H1 locs (k + 1) (n + N) lsA (by
    rw [← hN]
    exact x_pushed X hlim ⟨_, hc, (u_born ty0 hts hin hKn hkC e1 hty).to hfs⟩ z1 o1)
  rw [X.2.1.1]
  exact key
/-- an array of numbers -/
theorem x_newa {atype : ArrayType} {i : Nat} {ty : FieldType} {w : Int32} {g : (Nat → Int32) ⊕ (Nat → Int64) ⊕ (Nat → UInt32) ⊕ (Nat → UInt64) ⊕ (Nat → Option Nat)} {F : Nat × xS → Option α} {z : α} (h : (xnewa S i w g).bind F = some z) (hi : xAT[i]? = some ty) (hty : newarray.typeOf atype = ty) (hra : ∀ (U : State) (cA : ClassId), va_RA U cA ty = (U.vm.findClass ("[" ++ ty.toString) = some cA)) (hg : ∀ (cA : ClassId) (N : Nat), vp_cell cA (N, g) = arrV cA N (fun _ => defaultValue ty)) (hcb : componentBytes ty ≤ 8) (hcl : Cond.arrayClass ty ∈ xT) (hd : decode M.2.1 pc = .ok (.newarray atype, 2)) (kk : ∀ q, F q = some z → V M D d S0 r (pc + 2) ls (va_rf (some q.1) :: st) q.2) : V M D d S0 r pc ls (.int w :: st) S := by
  obtain ⟨q, h1, h2⟩ := Option.bind_eq_some_iff.mp h
  unfold xnewa at h1
  split at h1
  case isFalse => cases h1
  rename_i hlim
  cases h1
  subst hty
  intro p l e R s m args below meth c A H locs k n lsA X
  have hts := X.1.1.2.2.2.2.2.2.1
  have hf := x_fit X hlim.2.2.1 hlim.2.2.2
  have hb : w.toNatClampNeg * componentBytes (newarray.typeOf atype) ≤ 536870912 := Nat.le_trans (Nat.mul_le_mul hlim.2.1 hcb) (by decide)
  refine va_newaK X.1.1.1 X.1.1.2.1 (hts _ hcl) rfl hd rfl hlim.1 rfl hb hf.1 hf.2 rfl fun H1 cA e1 z1 o1 hAr hNm => ?_
  have hcA : cA = D.2.1 i := by
    have h3 := (X.1.2.1.2.1 i _ hi).2
    rw [hra] at h3
    exact Option.some.inj (hNm.symm.trans h3)
  subst hcA
  have key := kk _ h2 p l e R s m args below meth c A H1 locs (k + 1) (n + w.toNatClampNeg) lsA (x_pushed X hlim.2.2 (by
    show H1[H.size]? = some (vp_cell _ _)
    rw [hg]
    exact e1) z1 o1)
  rw [X.2.1.1]
  exact key
/-- an array of references -/
theorem x_anew {i index : Nat} {C : String} {w : Int32} {F : Nat × xS → Option α} {z : α} (h : (xnewa S i w (.inr (.inr (.inr (.inr (fun _ => none)))))).bind F = some z) (hi : xAT[i]? = some (.object C)) (hcl : Cond.classLink M.1.cls index C ∈ xT) (hov : Cond.arrayOver (.object C) ∈ xT) (hd : decode M.2.1 pc = .ok (.anewarray index, 3)) (kk : ∀ q, F q = some z → V M D d S0 r (pc + 3) ls (va_rf (some q.1) :: st) q.2) : V M D d S0 r pc ls (.int w :: st) S := by
  obtain ⟨q, h1, h2⟩ := Option.bind_eq_some_iff.mp h
  unfold xnewa at h1
  split at h1
  case isFalse => cases h1
  rename_i hlim
  cases h1
  intro p l e R s m args below meth c A H locs k n lsA X
  have hts := X.1.1.2.2.2.2.2.2.1
  have hf := x_fit X hlim.2.2.1 hlim.2.2.2
  have hb : w.toNatClampNeg * 4 ≤ 536870912 := Nat.le_trans (Nat.mul_le_mul hlim.2.1 (Nat.le_refl 4)) (by decide)
  refine W.anew X.1.1.1 X.1.1.2.1 X.1.1.2.2.2.2.1 (hts _ hcl) (hts _ hov) rfl hd rfl hlim.1 hb hf.1 hf.2 fun cA kA comp f1 f2 f3 f4 => ?_
  generalize hH1 : H.push ({ cls := cA, slots := Array.replicate w.toNatClampNeg .null, vm := .none } : Cell) = H1
  have z1 : H1.size = H.size + 1 := by rw [← hH1, Array.size_push]
  have e1 : H1[H.size]? = some (arrV cA w.toNatClampNeg (fun _ => .null)) := by rw [← hH1, Array.getElem?_push_size, ← arrV_new]
  have o1 : ∀ q : Nat, q < H.size → H1[q]? = H[q]? := fun q hq => by rw [← hH1, Array.getElem?_push, if_neg (Nat.ne_of_lt hq)]
  have hcA : cA = D.2.1 i := by
    obtain ⟨kA', comp', g1, g2, g3, g4⟩ := (X.1.2.1.2.1 i _ hi).2
    exact Option.some.inj (f1.symm.trans g4)
  subst hcA
  have key := kk _ h2 p l e R s m args below meth c A H1 locs (k + 1) (n + w.toNatClampNeg) lsA (x_pushed X hlim.2.2 (by
    show H1[H.size]? = some (vp_cell _ _)
    rw [vp_cell_q]
    exact e1) z1 o1)
  rw [X.2.1.1]
  exact key
theorem x_len {i : Nat} {ty : FieldType} {x : Option Nat} {F : Int32 → Option α} {z : α} (h : (xlen S x i).bind F = some z) (hi : xAT[i]? = some ty) (hd : decode M.2.1 pc = .ok (.arraylength, 1)) (kk : ∀ v, F v = some z → V M D d S0 r (pc + 1) ls (.int v :: st) S) : V M D d S0 r pc ls (va_rf x :: st) S := by
  obtain ⟨v, h1, h2⟩ := Option.bind_eq_some_iff.mp h
  obtain ⟨q, h3, h4⟩ := Option.bind_eq_some_iff.mp h1
  obtain ⟨rfl, h5⟩ := xarr_some h3
  cases h4
  intro p l e R s m args below meth c A H locs k n lsA X
  have hP : va_P D.1 xCl [(q.1, .inl (D.2.1 i, q.2))] H := fun j y hy => by
    have hz : j < 1 := (List.getElem?_eq_some_iff.mp hy).1
    rw [show j = 0 by omega] at hy
    cases hy
    exact X.2.1.2.1 q.1 _ h5
  have hK : va_K D.1 xCl [(D.2.1 i, ty)] s := ⟨X.1.2.1.1.1, fun j y hy => by
    have hz : j < 1 := (List.getElem?_eq_some_iff.mp hy).1
    rw [show j = 0 by omega] at hy
    cases hy
    exact X.1.2.1.2.1 i ty hi⟩
  exact va_alen X.1.1.1 X.1.1.2.1 hK hP 0 0 rfl rfl rfl hd (kk _ h2 p l e R s m args below meth c A H locs k n lsA X)
/-- an element that is an int, of an array of ints or of bytes -/
theorem x_iald {i : Nat} {x : Option Nat} {w : Int32} {F : Int32 → Option α} {z : α} (h : (xldI S x i w).bind F = some z) (hi : xAT[i]? = some .int) (hd : decode M.2.1 pc = .ok (.iaload, 1)) (kk : ∀ v, F v = some z → V M D d S0 r (pc + 1) ls (.int v :: st) S) : V M D d S0 r pc ls (.int w :: va_rf x :: st) S := by
  obtain ⟨v, h1, h2⟩ := Option.bind_eq_some_iff.mp h
  obtain ⟨q, h3, h4⟩ := Option.bind_eq_some_iff.mp h1
  obtain ⟨rfl, h5⟩ := xarr_some h3
  obtain ⟨a, N, g⟩ := q
  split at h4
  case h_2 => cases h4
  rename_i f hf
  split at h4
  case isFalse => cases h4
  rename_i hin
  cases h4
  dsimp only at hf
  subst hf
  intro p l e R s m args below meth c A H locs k n lsA X
  have hlt : w.toNatClampNeg < N := Nat.not_le.mp fun q => hin (Or.inr q)
  exact W.iald (v := .int (f w.toNatClampNeg)) X.1.1.1 X.1.1.2.1 (X.2.1.2.1 a _ h5) ((X.1.2.1.2.1 i _ hi).1 N (fun j => .int (f j))) (fun q => by cases q) (by show ¬ (w < 0 ∨ (arrV _ _ _).slots.size ≤ _); rw [arrV_size]; exact hin) (by show (arrV _ _ _).slots[_]? = _; rw [arrV_read _ _ hlt]) rfl rfl hd (kk _ h2 p l e R s m args below meth c A H locs k n lsA X)
theorem x_bald {i : Nat} {x : Option Nat} {w : Int32} {F : Int32 → Option α} {z : α} (h : (xldI S x i w).bind F = some z) (hi : xAT[i]? = some .byte) (hd : decode M.2.1 pc = .ok (.baload, 1)) (kk : ∀ v, F v = some z → V M D d S0 r (pc + 1) ls (.int v :: st) S) : V M D d S0 r pc ls (.int w :: va_rf x :: st) S := by
  obtain ⟨v, h1, h2⟩ := Option.bind_eq_some_iff.mp h
  obtain ⟨q, h3, h4⟩ := Option.bind_eq_some_iff.mp h1
  obtain ⟨rfl, h5⟩ := xarr_some h3
  obtain ⟨a, N, g⟩ := q
  split at h4
  case h_2 => cases h4
  rename_i f hf
  split at h4
  case isFalse => cases h4
  rename_i hin
  cases h4
  dsimp only at hf
  subst hf
  intro p l e R s m args below meth c A H locs k n lsA X
  have hlt : w.toNatClampNeg < N := Nat.not_le.mp fun q => hin (Or.inr q)
  exact W.bald (v := .int (f w.toNatClampNeg)) X.1.1.1 X.1.1.2.1 (X.2.1.2.1 a _ h5) ((X.1.2.1.2.1 i _ hi).1 N (fun j => .int (f j))) (fun q => by cases q) (by show ¬ (w < 0 ∨ (arrV _ _ _).slots.size ≤ _); rw [arrV_size]; exact hin) (by show (arrV _ _ _).slots[_]? = _; rw [arrV_read _ _ hlt]) rfl rfl hd (kk _ h2 p l e R s m args below meth c A H locs k n lsA X)
theorem x_lald {i : Nat} {x : Option Nat} {w : Int32} {F : Int64 → Option α} {z : α} (h : (xldL S x i w).bind F = some z) (hi : xAT[i]? = some .long) (hd : decode M.2.1 pc = .ok (.laload, 1)) (kk : ∀ v, F v = some z → V M D d S0 r (pc + 1) ls (.long v :: st) S) : V M D d S0 r pc ls (.int w :: va_rf x :: st) S := by
  obtain ⟨v, h1, h2⟩ := Option.bind_eq_some_iff.mp h
  obtain ⟨q, h3, h4⟩ := Option.bind_eq_some_iff.mp h1
  obtain ⟨rfl, h5⟩ := xarr_some h3
  obtain ⟨a, N, g⟩ := q
  split at h4
  case h_2 => cases h4
  rename_i f hf
  split at h4
  case isFalse => cases h4
  rename_i hin
  cases h4
  dsimp only at hf
  subst hf
  intro p l e R s m args below meth c A H locs k n lsA X
  have hlt : w.toNatClampNeg < N := Nat.not_le.mp fun q => hin (Or.inr q)
  exact W.lald (v := .long (f w.toNatClampNeg)) X.1.1.1 X.1.1.2.1 (X.2.1.2.1 a _ h5) ((X.1.2.1.2.1 i _ hi).1 N (fun j => .long (f j))) (fun q => by cases q) (by show ¬ (w < 0 ∨ (arrV _ _ _).slots.size ≤ _); rw [arrV_size]; exact hin) (by show (arrV _ _ _).slots[_]? = _; rw [arrV_read _ _ hlt]) rfl rfl hd (kk _ h2 p l e R s m args below meth c A H locs k n lsA X)
theorem x_aald {i : Nat} {C : String} {x : Option Nat} {w : Int32} {F : Option Nat → Option α} {z : α} (h : (xldR S x i w).bind F = some z) (hi : xAT[i]? = some (.object C)) (hd : decode M.2.1 pc = .ok (.aaload, 1)) (kk : ∀ v, F v = some z → V M D d S0 r (pc + 1) ls (va_rf v :: st) S) : V M D d S0 r pc ls (.int w :: va_rf x :: st) S := by
  obtain ⟨v, h1, h2⟩ := Option.bind_eq_some_iff.mp h
  obtain ⟨q, h3, h4⟩ := Option.bind_eq_some_iff.mp h1
  obtain ⟨rfl, h5⟩ := xarr_some h3
  obtain ⟨a, N, g⟩ := q
  split at h4
  case h_2 => cases h4
  rename_i f hf
  split at h4
  case isFalse => cases h4
  rename_i hin
  cases h4
  dsimp only at hf
  subst hf
  intro p l e R s m args below meth c A H locs k n lsA X
  have hlt : w.toNatClampNeg < N := Nat.not_le.mp fun q => hin (Or.inr q)
  exact W.aald (v := va_rf (f w.toNatClampNeg)) X.1.1.1 X.1.1.2.1 (X.2.1.2.1 a _ h5) ((X.1.2.1.2.1 i _ hi).1 N (fun j => va_rf (f j))) rfl (fun q => by cases q) (by show ¬ (w < 0 ∨ (arrV _ _ _).slots.size ≤ _); rw [arrV_size]; exact hin) (by show (arrV _ _ _).slots[_]? = _; rw [arrV_read _ _ hlt]) rfl rfl hd (kk _ h2 p l e R s m args below meth c A H locs k n lsA X)
theorem x_iast {i : Nat} {x : Option Nat} {w v : Int32} {F : xS → Option α} {z : α} (h : (xstI S x i w v).bind F = some z) (hi : xAT[i]? = some .int) (hd : decode M.2.1 pc = .ok (.iastore, 1)) (kk : ∀ S1, F S1 = some z → V M D d S0 r (pc + 1) ls st S1) : V M D d S0 r pc ls (.int v :: .int w :: va_rf x :: st) S := by
  obtain ⟨S1, h1, h2⟩ := Option.bind_eq_some_iff.mp h
  obtain ⟨q, h3, h4⟩ := Option.bind_eq_some_iff.mp h1
  obtain ⟨rfl, h5⟩ := xarr_some h3
  obtain ⟨a, N, g⟩ := q
  split at h4
  case h_2 => cases h4
  rename_i f hf
  split at h4
  case isFalse => cases h4
  rename_i hin
  cases h4
  dsimp only at hf
  subst hf
  intro p l e R s m args below meth c A H locs k n lsA X
  refine W.iast X.1.1.1 X.1.1.2.1 (X.2.1.2.1 a _ h5) ((X.1.2.1.2.1 i _ hi).1 N (fun j => .int (f j))) (fun q => by cases q) (by show ¬ (w < 0 ∨ (arrV _ _ _).slots.size ≤ _); rw [arrV_size]; exact hin) rfl rfl hd fun H1 e1 z1 oq => kk _ h2 p l e R s m args below meth c A H1 _ k n lsA (x_wrote X h5 ?_ z1 oq)
  show H1[a]? = some (vp_cell _ _)
  rw [e1, vp_cell_i, vp_cell_i, arrV_store]
  congr 2
  funext q
  by_cases hq : q = w.toNatClampNeg
  · subst hq
    simp [updV, upd]
  · simp [updV, upd, hq]
theorem x_bast {i : Nat} {x : Option Nat} {w v : Int32} {F : xS → Option α} {z : α} (h : (xstI S x i w (vp_nar .byte v)).bind F = some z) (hi : xAT[i]? = some .byte) (hd : decode M.2.1 pc = .ok (.bastore, 1)) (kk : ∀ S1, F S1 = some z → V M D d S0 r (pc + 1) ls st S1) : V M D d S0 r pc ls (.int v :: .int w :: va_rf x :: st) S := by
  obtain ⟨S1, h1, h2⟩ := Option.bind_eq_some_iff.mp h
  obtain ⟨q, h3, h4⟩ := Option.bind_eq_some_iff.mp h1
  obtain ⟨rfl, h5⟩ := xarr_some h3
  obtain ⟨a, N, g⟩ := q
  split at h4
  case h_2 => cases h4
  rename_i f hf
  split at h4
  case isFalse => cases h4
  rename_i hin
  cases h4
  dsimp only at hf
  subst hf
  intro p l e R s m args below meth c A H locs k n lsA X
  refine W.bast X.1.1.1 X.1.1.2.1 (X.2.1.2.1 a _ h5) ((X.1.2.1.2.1 i _ hi).1 N (fun j => .int (f j))) (fun q => by cases q) (by show ¬ (w < 0 ∨ (arrV _ _ _).slots.size ≤ _); rw [arrV_size]; exact hin) rfl rfl hd fun H1 e1 z1 oq => kk _ h2 p l e R s m args below meth c A H1 _ k n lsA (x_wrote X h5 ?_ z1 oq)
  show H1[a]? = some (vp_cell _ _)
  rw [e1, vp_cell_i, vp_cell_i, arrV_store]
  congr 2
  funext q
  by_cases hq : q = w.toNatClampNeg
  · subst hq
    simp [updV, upd]
    try rfl
  · simp [updV, upd, hq]
theorem x_last {i : Nat} {x : Option Nat} {w : Int32} {v : Int64} {F : xS → Option α} {z : α} (h : (xstL S x i w v).bind F = some z) (hi : xAT[i]? = some .long) (hd : decode M.2.1 pc = .ok (.lastore, 1)) (kk : ∀ S1, F S1 = some z → V M D d S0 r (pc + 1) ls st S1) : V M D d S0 r pc ls (.long v :: .int w :: va_rf x :: st) S := by
  obtain ⟨S1, h1, h2⟩ := Option.bind_eq_some_iff.mp h
  obtain ⟨q, h3, h4⟩ := Option.bind_eq_some_iff.mp h1
  obtain ⟨rfl, h5⟩ := xarr_some h3
  obtain ⟨a, N, g⟩ := q
  split at h4
  case h_2 => cases h4
  rename_i f hf
  split at h4
  case isFalse => cases h4
  rename_i hin
  cases h4
  dsimp only at hf
  subst hf
  intro p l e R s m args below meth c A H locs k n lsA X
  refine W.last X.1.1.1 X.1.1.2.1 (X.2.1.2.1 a _ h5) ((X.1.2.1.2.1 i _ hi).1 N (fun j => .long (f j))) (fun q => by cases q) (by show ¬ (w < 0 ∨ (arrV _ _ _).slots.size ≤ _); rw [arrV_size]; exact hin) rfl rfl hd fun H1 e1 z1 oq => kk _ h2 p l e R s m args below meth c A H1 _ k n lsA (x_wrote X h5 ?_ z1 oq)
  show H1[a]? = some (vp_cell _ _)
  rw [e1, vp_cell_l, vp_cell_l, arrV_store]
  congr 2
  funext q
  by_cases hq : q = w.toNatClampNeg
  · subst hq
    simp [updV, vp_updL]
  · simp [updV, vp_updL, hq]
theorem x_aast {i ci : Nat} {C : String} {T : u_T} {N' : Nat} {x y : Option Nat} {w : Int32} {F : xS → Option α} {z : α} (h : (xstR S x i ci w y).bind F = some z) (hi : xAT[i]? = some (.object C)) (hc : xCl[ci]? = some (C, T, N')) (hd : decode M.2.1 pc = .ok (.aastore, 1)) (kk : ∀ S1, F S1 = some z → V M D d S0 r (pc + 1) ls st S1) : V M D d S0 r pc ls (va_rf y :: .int w :: va_rf x :: st) S := by
  obtain ⟨S1, h1, h2⟩ := Option.bind_eq_some_iff.mp h
  obtain ⟨q, h3, h4⟩ := Option.bind_eq_some_iff.mp h1
  obtain ⟨rfl, h5⟩ := xarr_some h3
  obtain ⟨a, N, g⟩ := q
  split at h4
  case h_2 => cases h4
  rename_i f hf
  split at h4
  case isFalse => cases h4
  rename_i hin
  cases h4
  dsimp only at hf
  subst hf
  obtain ⟨hin, hy⟩ := hin
  intro p l e R s m args below meth c A H locs k n lsA X
  have hlt : w.toNatClampNeg < N := Nat.not_le.mp fun q => hin (Or.inr q)
  have h0 : ¬ w < 0 := fun q => hin (Or.inl q)
  have fin : ∀ (H1 : Heap) (locs1 : List Loc), H1[a]? = some ((vp_cell (D.2.1 i) (N, .inr (.inr (.inr (.inr f))))).setSlot w.toNatClampNeg (va_rf y)) → H1[a]? = some (vp_cell (D.2.1 i) (N, .inr (.inr (.inr (.inr (va_up f w.toNatClampNeg y)))))) := by
    intro H1 _ e1
    rw [e1, vp_cell_q, vp_cell_q, arrV_store]
    congr 2
    funext q
    by_cases hq : q = w.toNatClampNeg
    · subst hq
      simp [updV, va_up]
    · simp [updV, va_up, hq]
  cases y with
  | none =>
    exact va_WaastN X.1.1.1 X.1.1.2.1 (X.2.1.2.1 a _ h5) ((X.1.2.1.2.1 i _ hi).1 N (fun j => va_rf (f j))) (fun q => by cases q) (by show ¬ (w < 0 ∨ (arrV _ _ _).slots.size ≤ _); rw [arrV_size]; exact hin) rfl rfl hd fun H1 e1 z1 oq => kk _ h2 p l e R s m args below meth c A H1 _ k n lsA (x_wrote X h5 (fin H1 locs e1) z1 oq)
  | some v =>
    have hv : (xobj S (some v) ci).isSome = true := by
      rcases hy with hy | hy
      · cases hy
      · exact hy
    obtain ⟨qv, hqv⟩ := Option.isSome_iff_exists.mp hv
    obtain ⟨ev, h6⟩ := xobj_some hqv
    obtain ⟨r', hr', cellV, g1, g2, g3, -⟩ := X.2.1.2.1 qv.1 _ h6
    have hvv : qv.1 = v := (Option.some.inj ev).symm
    rw [hvv] at g1
    have hcls := (X.1.2.1.1.1 ci _ hc).2
    obtain ⟨kA, comp, k1, k2, k3, -⟩ := (X.1.2.1.2.1 i _ hi).2
    have hcomp : comp = D.1.1 ci := Option.some.inj (k3.symm.trans hcls.1)
    subst hcomp
    obtain ⟨kC, hkC, -⟩ := hcls.2
    exact W.aast X.1.1.1 X.1.1.2.1 (X.2.1.2.1 a _ h5) (fun q h => by cases h) (fun h => by cases h) k1 k2 rfl hkC ⟨h0, by show _ < (arrV _ _ _).slots.size; rw [arrV_size]; exact hlt⟩ g1 (fun q h => by rw [g3] at h; cases h) (by rw [g2]; exact hkC) (by rw [g2]; exact va_assign hcls) rfl rfl hd fun H1 e1 z1 oq => kk _ h2 p l e R s m args below meth c A H1 _ k n lsA (x_wrote X h5 (fin H1 locs e1) z1 oq)
/-! ENDS -/
theorem x_done {p : Program} {l : Launch} {R : Room} {s : State} {m : MethodId} {args : Array Value} {below : List Frame} {meth : Method} {c : Code} {A : Nat → Prop} {H : Heap} {locs : List Loc} {k n : Nat} {lsA : Array Slot} {v : Option Value} (X : xX M D d S0 ls S p l R s m args meth c A H locs k n lsA) (t : State) (h : MQ below (fun _ _ o t => o = .returned v ∧ t.heap = H) args s k n A t) : xQ D S0 (.inl v, S) below s A t := by
  obtain ⟨o, h1, h2, ⟨h3, h4⟩, L, ⟨-, h6, h7⟩, h8⟩ := h
  refine ⟨o, h1, h2, h3, by rw [h4]; exact X.2.1, h6, ⟨L, k, n, h7, X.2.2.2.2.2.1, X.2.2.2.2.2.2.1, h8⟩, X.2.2.2.1, X.2.2.1.F h4, X.2.2.2.2.1⟩
theorem x_iret {v : Int32} (hr : M.2.2.2.1 = some .int) (hd : decode M.2.1 pc = .ok (.ireturn, 1)) : V M D d S0 (.inl (some (.int v)), S) pc ls [.int v] S :=
  fun p l e R s m args below meth c A H locs k n lsA X => W.mono (x_done X) (W.iret (Qc := fun _ _ o t => o = .returned (some (.int v)) ∧ t.heap = H) X.1.1.1 X.1.1.2.1 (X.1.1.2.2.2.1.trans hr) (fun t ht _ => ⟨rfl, ht⟩) X.2.2.1.2.2 hd X.1.1.2.2.2.2.2.2.2.1)
theorem x_zret {v : Int32} (hr : M.2.2.2.1 = some .boolean) (hv : v = 0 ∨ v = 1) (hd : decode M.2.1 pc = .ok (.ireturn, 1)) : V M D d S0 (.inl (some (.int v)), S) pc ls [.int v] S :=
  fun p l e R s m args below meth c A H locs k n lsA X => W.mono (x_done X) (W.zret (Qc := fun _ _ o t => o = .returned (some (.int v)) ∧ t.heap = H) X.1.1.1 X.1.1.2.1 (X.1.1.2.2.2.1.trans hr) (by rcases hv with rfl | rfl <;> decide) (fun t ht _ => ⟨rfl, ht⟩) X.2.2.1.2.2 hd X.1.1.2.2.2.2.2.2.2.1)
theorem x_vret (hr : M.2.2.2.1 = none) (hd : decode M.2.1 pc = .ok (.return_, 1)) : V M D d S0 (.inl none, S) pc ls [] S :=
  fun p l e R s m args below meth c A H locs k n lsA X => W.mono (x_done X) (W.vret (Qc := fun _ _ o t => o = .returned none ∧ t.heap = H) X.1.1.1 X.1.1.2.1 (X.1.1.2.2.2.1.trans hr) (fun t ht _ => ⟨rfl, ht⟩) X.2.2.1.2.2 hd X.1.1.2.2.2.2.2.2.2.1)
theorem x_aret {C : String} {x : Option Nat} (hr : M.2.2.2.1 = some (.object C)) (hd : decode M.2.1 pc = .ok (.areturn, 1)) : V M D d S0 (.inl (some (va_rf x)), S) pc ls [va_rf x] S :=
  fun p l e R s m args below meth c A H locs k n lsA X => W.mono (x_done X) (W.aret (Qc := fun _ _ o t => o = .returned (some (va_rf x)) ∧ t.heap = H) X.1.1.1 X.1.1.2.1 (X.1.1.2.2.2.1.trans hr) (Or.inl ⟨_, rfl⟩) (va_rf_or x) (fun t ht _ => ⟨rfl, ht⟩) X.2.2.1.2.2 hd X.1.1.2.2.2.2.2.2.2.1)
/-- the script -/
def xsld (sc : Nat × Nat × (Nat → Int32)) (w : Int32) : Option Int32 := if ¬ (w < 0 ∨ sc.2.1 ≤ w.toNatClampNeg) then some (sc.2.2 w.toNatClampNeg) else none
theorem x_sld {w : Int32} {F : Int32 → Option α} {z : α} (hm : M.1.name = "law") (h : (xsld D.2.2 w).bind F = some z) (hd : decode M.2.1 pc = .ok (.iaload, 1)) (kk : ∀ v, F v = some z → V M D d S0 r (pc + 1) ls (.int v :: st) S) : V M D d S0 r pc ls (.int w :: va_rf (some D.2.2.1) :: st) S := by
  obtain ⟨v, h1, h2⟩ := Option.bind_eq_some_iff.mp h
  unfold xsld at h1
  split at h1
  case isFalse => cases h1
  rename_i hin
  cases h1
  intro p l e R s m args below meth c A H locs k n lsA X
  have hl := X.1.2.2.2.2.2.2.2.2.1 hm
  exact va_sld X.1.1.1 X.1.1.2.1 hl.1 hl.2.1 hl.2.2 X.2.2.1 hin hd (kk _ h2 p l e R s m args below meth c A H locs k n lsA X)
theorem x_slen (hm : M.1.name = "law") (hd : decode M.2.1 pc = .ok (.arraylength, 1)) (kk : V M D d S0 r (pc + 1) ls (.int (Int32.ofNat D.2.2.2.1) :: st) S) : V M D d S0 r pc ls (va_rf (some D.2.2.1) :: st) S := by
  intro p l e R s m args below meth c A H locs k n lsA X
  have hl := X.1.2.2.2.2.2.2.2.2.1 hm
  exact va_slen X.1.1.1 X.1.1.2.1 hl.1 hl.2.1 hl.2.2 X.2.2.1 hd (kk p l e R s m args below meth c A H locs k n lsA X)
end XMAKE
end
section
/-! CALLS -/
def xcode (M : xM) : Cond := match M.2.2.2.2 with
  | [] => .code M.1 M.2.1 M.2.2.1 M.2.2.2.1
  | hs => .codeWith M.1 M.2.1 M.2.2.1 M.2.2.2.1 hs
theorem xcode_spec {M : xM} {args : Array Value} {s : State} {m : MethodId} (hn : s.methodNamed? M.1 = some m) (h : (xcode M).before args s = true) :
    ∃ meth c, s.vm.method? m = some meth ∧ meth.code = some c ∧ c.code = M.2.1 ∧ c.maxLocals = M.2.2.1 ∧ meth.sig.returnType = M.2.2.2.1 ∧ meth.locks = false ∧ c.exceptionTable.toList.map (fun h => (h.startPc, h.endPc, h.handlerPc, h.catchType)) = M.2.2.2.2 ∧ parseMethodDescriptor M.1.desc = some meth.sig := by
  obtain ⟨y, cc, nL, ret, hs⟩ := M
  cases hs with
  | nil =>
    obtain ⟨meth, c, h1, h2, h3, h4, h5, h6, h7, h8⟩ := Cond.code_spec (x := y) (bytes := cc) (maxLocals := nL) (ret := ret) hn h
    exact ⟨meth, c, h1, h2, h3, h4, h5, h6, by rw [Array.isEmpty_iff.mp h7]; rfl, h8⟩
  | cons a t =>
    obtain ⟨m', meth, c, e, h1, h2, h3, h4, h5, h6, h7, h8⟩ := Cond.codeWith_spec (x := y) (bytes := cc) (maxLocals := nL) (ret := ret) (handlers := a :: t) h
    cases hn.symm.trans e
    exact ⟨meth, c, h1, h2, h3, h4, h6, h7, h5, h8⟩
theorem xcode_named {M : xM} {args : Array Value} {s : State} (h : (xcode M).before args s = true) : ∃ m, s.methodNamed? M.1 = some m := by
  obtain ⟨y, cc, nL, ret, hs⟩ := M
  cases hs with
  | nil => exact Cond.code_named (x := y) (bytes := cc) (maxLocals := nL) (ret := ret) h
  | cons a t =>
    obtain ⟨m', meth, c, e, -⟩ := Cond.codeWith_spec (x := y) (bytes := cc) (maxLocals := nL) (ret := ret) (handlers := a :: t) h
    exact ⟨m', e⟩
def xRoom (d : Nat) (S : xS) : Room := { frames := d, cells := S.2.2.2.1 - S.2.1, slots := S.2.2.2.2 - S.2.2.1, locals := xL * d }
def xMet (l : Launch) (M : xM) (D : xD) (d : Nat) (ax : List xV) (S : xS) (r : xRes) : Prop := l.stackTraces = false →
  MetFree l M.1 (headSpec (xcode M :: xT) (xRoom d S)) (fun v U => v = (ax.map xval).toArray ∧ xR D S U.heap ∧ xK D U ∧ xZ (xA S) U U.heap) (fun _ _ _ _ _ => True) (fun _ st o t => xEnd D S r (xA S) st o t)
theorem x_ofV {M : xM} {D : xD} {d : Nat} {ax : List xV} {S : xS} {r : xRes} {l : Launch} (hp : plainName M.1.cls = true) (hnl : M.1.name ≠ "law") (hlen : (lg_sl (ax.map xval)).length ≤ M.2.2.1) (h : V M D d S r 0 (xargs 0 ax) [] S) : xMet l M D d ax S r := by
  intro hst
  refine MetFree.of_bodyS (code := M.2.1) (maxLocals := M.2.2.1) (ret := M.2.2.2.1) hp ?_ ?_
  · intro args s m hpre hn
    obtain ⟨meth, c, h1, h2, h3, h4, h5, h6, -, -⟩ := xcode_spec hn (atoms_spec (ws := xcode M :: xT) hpre _ List.mem_cons_self)
    exact ⟨meth, c, h1, h2, h3, h4, h5, h6⟩
  · intro p e s m args below meth c s₁ B hml hP _
    obtain ⟨rfl, hR, hK, hZ⟩ := hP
    have hh0 : s₁.heap = s.heap := by rw [B.state]; rfl
    have hts := atoms_spec (ws := xcode M :: xT) B.pre
    obtain ⟨meth', c', q1, q2, q3, q4, q5, q6, q7, q8⟩ := xcode_spec B.named (hts _ List.mem_cons_self)
    cases B.method.symm.trans q1
    cases (Stand.of_body B).code.symm.trans q2
    have key := h p l e (xRoom d S) s m (ax.map xval).toArray below meth c (xA S) s.heap [] 0 0 _ ⟨⟨⟨B.exec, B.bytes, hml, B.returns, findClass_of_methodNamed B.named, (name_of_methodNamed B.named B.method).1, fun w hw => hts w (List.mem_cons_of_mem _ hw), B.notSynchronized, q7⟩, hK, hR.1, fun q hq => Or.inr (by rw [← hR.1]; exact hq), Nat.le_refl _, Nat.le_refl _, by show _ ≤ _ + (_ - _); omega, by show _ ≤ _ + (_ - _); omega, fun h => absurd h hnl, hst, hZ⟩, hR, va_S.rf, fun q hq => Or.inl hq, rfl, rfl, rfl, by rw [← xlv_args]; exact lv_entry (ax.map xval) hlen⟩
    rw [← lg_entry_eq] at key
    obtain ⟨t, a1, o, b1, b2, b3⟩ := key s₁ hh0 (Stand.of_body B)
    exact ⟨t, o, a1, b1, b2, b3⟩
section XCALL
variable {p : Program} {l : Launch} {e : Env} {R : Room} {s : State} {m : MethodId} {args : Array Value} {below : List Frame} {meth : Method} {c : Code} {T : State} {locs : List Loc} {k n : Nat}
/-- a method that has an end is entered from the frame g and comes to it -/
theorem x_enter (X : Stand p l e R s m args below meth c T locs k n) {M' : xM} {D : xD} {d' : Nat} {ax : List xV} {S : xS} {r1 : xRes} (hM : xMet l M' D d' ax S r1) {g : JFrame} (hg : g.method = m) (hsize : g.locals.size = c.maxLocals) {ig : Instr} {len : Nat} (hdg : decode c.code g.pc = .ok (ig, len)) {mk : MethodId} (hn : s.methodNamed? M'.1 = some mk) (hts : ∀ w ∈ xT, w.before args s = true) (hcode : xcode M' ∈ xT) (hini : Cond.initialized M'.1.cls ∈ xT) (hframes : d' + 1 ≤ R.frames) (hlocals : 2 * g.monitorRoom + (g.stack.map fun v => v.category).sum + (M'.2.2.1 + 11) + xL * d' ≤ R.locals) (hcells : k + (S.2.2.2.1 - S.2.1) ≤ R.cells) (hslots : n + (S.2.2.2.2 - S.2.2.1) ≤ R.slots) (hR : xR D S T.heap) (hK : xK D s) (hst : l.stackTraces = false) (hZ : xZ (xA S) T T.heap) :
    ∃ (o : Outcome) (t : State), Steps p.tables e below (doInvoke e (T.setTop g) [] mk (ax.map xval).toArray).1 t ∧ Ended t (.java g :: below) o ∧ xEnd D S r1 (xA S) (T.calling g mk (ax.map xval).toArray) o t := by
  have hw : ∀ w ∈ xT, ∀ a' : Array Value, w.before a' T = true := fun w h a' => x_word X.warmed (xT_good h) (hts w h)
  have hn' : T.methodNamed? M'.1 = some mk := X.named hn
  obtain ⟨methY, cY, hmY, hcY, -, hlY, -, -, -, -⟩ := xcode_spec hn' (hw _ hcode #[])
  obtain ⟨kY, hkY, -⟩ := className_of_methodNamed hn'
  have hinitY : kY.init = .initialized := Cond.initialized_spec (findClass_of_methodNamed hn') hkY (hw _ hini #[])
  have h : At T g.method c below := by rw [hg]; exact X.here
  have happ : (headSpec (xcode M' :: xT) (xRoom d' S)).appliesLoose M'.1 e.platform (T.calling g mk (ax.map xval).toArray) = true :=
    Spec.appliesLoose_calling (g := g) h hdg hn' hkY hinitY
      (X.room_calling (g := g) (R' := xRoom d' S) hsize hmY hcY hframes (by rw [hlY]; exact hlocals) hcells hslots) (atoms_intro fun w hw' => by
        rcases List.mem_cons.mp hw' with rfl | h1
        · exact hw _ hcode _
        · exact hw _ h1 _)
  obtain ⟨mid, hmid⟩ := h.above
  have hfr : (T.setTop g).frames = (.java g :: mid) ++ below := by rw [State.frames_setTop' g h.top, hmid]; rfl
  obtain ⟨o, s₂, hsteps, -, hend, hq⟩ := Steps.callFree (hM hst) p X.admits X.cas X.clock (acts := []) hfr happ ⟨rfl, hR, xK.moved X.warmed.alike hK, hZ⟩ trivial
  rw [State.frames_setTop' g h.top, X.tail] at hend
  exact ⟨o, s₂, hsteps, hend, hq⟩
end XCALL
section XCALLS
variable {M : xM} {D : xD} {d : Nat} {S0 : xS} {r : xRes} {pc : Nat} {ls : List (Nat × xV)} {st stk : List Value} {S : xS}
/-- the link of a method: in its own class, or in a nest mate's -/
def xml (own : String) (index : Nat) (y : MethodName) (host : Option String) : Cond := match host with
  | none => .methodLink own index y
  | some h => .methodLinkNest own index y h
/-- the handler at hpc is the one that takes a throw of class e at pc -/
def xHnd (own : String) (hs : List (Nat × Nat × Nat × Nat)) (pc e hpc : Nat) : Prop := e < 3 ∧ Cond.castable (xE e) (xE e) ∈ xT ∧ ∃ (pre : List (Nat × Nat × Nat × Nat)) (st en ct : Nat) (suf : List (Nat × Nat × Nat × Nat)), hs = pre ++ (st, en, hpc, ct) :: suf ∧ st ≤ pc ∧ pc < en ∧ ct ≠ 0 ∧ Cond.classLink own ct (xE e) ∈ xT ∧ ∀ q ∈ pre, q.2.2.2 ≠ 0 ∧ ∃ j : Nat, j < 3 ∧ j ≠ e ∧ Cond.classLink own q.2.2.2 (xE j) ∈ xT
/-- what a throw in a method does, at a pc: it leaves a method that has no handlers; else a handler takes it -/
def xThrown (M : xM) (D : xD) (d : Nat) (S0 : xS) (r : xRes) (pc : Nat) (ls : List (Nat × xV)) (e : Nat) (S : xS) : Prop := match M.2.2.2.2 with
  | [] => r = (.inr e, S)
  | hs => ∃ hpc, xHnd M.1.cls hs pc e hpc ∧ ∀ a : Nat, V M D d S0 r hpc ls [va_rf (some a)] S
/-- behind a call -/
def xAfter (M : xM) (D : xD) (d : Nat) (S0 : xS) (r : xRes) (pc : Nat) (ls : List (Nat × xV)) (st : List Value) (r1 : xRes) : Prop := match r1.1 with
  | .inl v => V M D d S0 r (pc + 3) ls (v.toList ++ st) r1.2
  | .inr e => xThrown M D d S0 r pc ls e r1.2
/-- a state that throws, in a method without handlers -/
theorem x_leave {p : Program} {l : Launch} {e : Env} {R : Room} {s : State} {m : MethodId} {args : Array Value} {below : List Frame} {meth : Method} {c : Code} {A : Nat → Prop} {T : State} {locs : List Loc} {k n : Nat} {ls : List (Nat × xV)} {lsA : Array Slot} {ec a : Nat} {cell : Cell} (X : xX M D d S0 ls S p l R s m args meth c A T.heap locs k n lsA) (Xs : Stand p l e R s m args below meth c T locs k n) (hh : M.2.2.2.2 = []) (h1 : T.heap[a]? = some cell) (h2 : cell.vm = .none) (h3 : T.vm.findClass (xE ec) = some cell.cls) :
    ∃ t, Steps p.tables e below ((T.setTop (F0 m pc lsA st)).pushFrame (.throwing a)) t ∧ xQ D S0 (.inr ec, S) below s A t := by
  have hl : meth.locks = false := X.1.1.2.2.2.2.2.2.2.1
  have hout : ∀ x ∈ c.exceptionTable.toList, covers x pc = false := by
    have h := X.1.1.2.2.2.2.2.2.2.2
    rw [hh] at h
    rw [List.map_eq_nil_iff.mp h]
    exact fun x hx => by cases hx
  obtain ⟨l1, l2, l3, l4, l5⟩ := Xs.leaveThrown a (g := F0 m pc lsA st) rfl rfl rfl hout hl
  exact ⟨_, l1, .threw a, l2, l3, ⟨a, cell, rfl, h1, h2, h3⟩, X.2.1, l4, ⟨locs, k, n, l5, X.2.2.2.2.2.1, X.2.2.2.2.2.2.1, X.2.2.1.2.2⟩, X.2.2.2.1, X.2.2.1.F rfl, X.2.2.2.2.1⟩
theorem x_caught {hpc : Nat} {p : Program} {l : Launch} {e : Env} {R : Room} {s : State} {m : MethodId} {args : Array Value} {below : List Frame} {meth : Method} {c : Code} {A : Nat → Prop} {T : State} {locs : List Loc} {k n : Nat} {ls : List (Nat × xV)} {lsA : Array Slot} {ec a : Nat} {cell : Cell} (X : xX M D d S0 ls S p l R s m args meth c A T.heap locs k n lsA) (Xs : Stand p l e R s m args below meth c T locs k n) (hh : xHnd M.1.cls M.2.2.2.2 pc ec hpc) (h1 : T.heap[a]? = some cell) (h2 : cell.vm = .none) (h3 : T.vm.findClass (xE ec) = some cell.cls) (kk : V M D d S0 r hpc ls [va_rf (some a)] S) :
    ∃ t, Steps p.tables e below ((T.setTop (F0 m pc lsA st)).pushFrame (.throwing a)) t ∧ xQ D S0 r below s A t := by
  obtain ⟨he, hcast, pre, sp, en, ct, suf, hsp, hp1, hp2, h0, hlink, hpre⟩ := hh
  have hts := X.1.1.2.2.2.2.2.2.1
  have htab := X.1.1.2.2.2.2.2.2.2.2
  rw [hsp] at htab
  obtain ⟨pre', suf', e1, e2, e3⟩ := List.map_eq_append_iff.mp htab
  obtain ⟨x, suf2, e4, e5, e6⟩ := List.map_eq_cons_iff.mp e3
  have hcl : s.vm.findClass (xE ec) = some cell.cls := by rw [← Xs.warmed.alike.findClass]; exact h3
  have hpl : e.platform.magicAccessors = ({} : Platform).magicAccessors := by rw [Xs.admits.platform]
  obtain ⟨c3, c4, hc3, hc4, hasg⟩ := Cond.castable_spec (hts _ hcast)
  cases Option.some.inj (hc3.symm.trans hcl)
  obtain ⟨c5, hc5, hcl5⟩ := Cond.classLink_spec X.1.1.2.2.2.2.1 (hts _ hlink) e.platform hpl
  cases Option.some.inj (hc4.symm.trans hc5)
  have ex : x.startPc = sp ∧ x.endPc = en ∧ x.handlerPc = hpc ∧ x.catchType = ct := by
    simp only [Prod.mk.injEq] at e5
    exact e5
  obtain ⟨x1, x2, x3, x4⟩ := ex
  obtain ⟨vm', X', stp⟩ := Xs.thenCaughtThrough a (g := F0 m pc lsA st) rfl (Steps.refl _) h1 (by rw [h2]; rfl) (by obtain ⟨k9, h9, -⟩ := Vm.findClass_spec hcl; exact ⟨k9, h9⟩) pre' x suf2 (by rw [e1, e4])
    (fun z hz => by
      obtain ⟨hz0, j, hj, hje, hl1⟩ := hpre _ (by rw [← e2]; exact List.mem_map.mpr ⟨z, hz, rfl⟩)
      obtain ⟨c6, hc6, hcl6⟩ := Cond.classLink_spec X.1.1.2.2.2.2.1 (hts _ hl1) e.platform hpl
      obtain ⟨a8, b8, g1, g2, g3⟩ := X.1.2.1.2.2 ec j he hj (Ne.symm hje)
      cases Option.some.inj (g1.symm.trans hcl)
      cases Option.some.inj (g2.symm.trans hc6)
      exact Or.inr ⟨hz0, _, hcl6, g3⟩) (by simp [covers, x1, x2, hp1, hp2]) (Or.inr ⟨by rw [x4]; exact h0, c4, by rw [x4]; exact hcl5, hasg⟩)
  rw [x3] at stp
  obtain ⟨t, a1, b1⟩ := kk p l e R s m args below meth c A T.heap locs k n lsA X (T.setVm vm') rfl X'
  exact ⟨t, stp.trans a1, b1⟩
/-- behind the step that invokes -/
theorem x_behind {M' : xM} {d' : Nat} {ax : List xV} {r1 : xRes} {p : Program} {l : Launch} {e : Env} {R : Room} {s : State} {m : MethodId} {args : Array Value} {below : List Frame} {meth : Method} {c : Code} {A : Nat → Prop} {T : State} {locs : List Loc} {k n : Nat} {lsA : Array Slot} {vm₁ : Vm} {ig : Instr} {mk : MethodId} {g : JFrame}
    (X : xX M D (d' + 1) S0 ls S p l R s m args meth c A T.heap locs k n lsA) (hM : xMet l M' D d' ax S r1) (X₁ : Stand p l e R s m args below meth c (T.setVm vm₁) locs k n)
    (hstep : ∀ target, (∀ acts, Steps p.tables e below (doInvoke e ((T.setVm vm₁).setTop (F0 m pc lsA st)) acts mk (ax.map xval).toArray).1 target) → Steps p.tables e below (T.setTop g) target)
    (hdg : decode M.2.1 pc = .ok (ig, 3)) (hn : s.methodNamed? M'.1 = some mk) (hcode : xcode M' ∈ xT) (hini : Cond.initialized M'.1.cls ∈ xT) (hst : (st.map fun v => v.category).sum ≤ 8) (hL : M'.2.2.1 + 19 ≤ xL)
    (kk : xAfter M D (d' + 1) S0 r pc ls st r1) : ∃ t, Steps p.tables e below (T.setTop g) t ∧ xQ D S0 r below s A t := by
  have hlv := X.2.2.2.2.2.2.2
  have hsize : lsA.size = c.maxLocals := hlv.1.trans X.1.1.2.2.1.symm
  have hfr : d' + 1 ≤ R.frames := X.1.2.2.2.2.1
  have hlo : xL * (d' + 1) ≤ R.locals := X.1.2.2.2.2.2.1
  have c1 := X.1.2.2.2.2.2.2.1
  have c2 := X.1.2.2.2.2.2.2.2.1
  have e0 := X.2.2.2.2.1
  have e1 : S.2.2.2.1 = S0.2.2.2.1 := by rw [e0]
  have e2 : S.2.2.2.2 = S0.2.2.2.2 := by rw [e0]
  have e3 := X.2.2.2.2.2.1
  have e4 := X.2.2.2.2.2.2.1
  have e5 := X.2.1.2.2
  have hAA : ∀ q, xA S q → A q := fun q hq => by
    rcases hq with hq | hq
    · exact X.2.2.2.1 q hq
    · refine X.1.2.2.2.1 q (Nat.le_trans X.2.2.1.1 ?_)
      rw [X.2.1.1]; exact hq
  have hZ : xZ (xA S) (T.setVm vm₁) (T.setVm vm₁).heap := ((X.1.2.2.2.2.2.2.2.2.2.2.kept (H1 := T.heap) X.2.2.1.2.1).narrow hAA).moved X₁.warmed.alike
  obtain ⟨o, t, hs, hend, hE⟩ := x_enter X₁ hM (g := F0 m pc lsA st) rfl hsize (by rw [X.1.1.2.1]; exact hdg) hn X.1.1.2.2.2.2.2.2.1 hcode hini hfr (by
    have h0 : 2 * (F0 m pc lsA st).monitorRoom + (st.map fun v => v.category).sum ≤ 8 := lv_room (rest := st) hst
    show 2 * (F0 m pc lsA st).monitorRoom + (st.map fun v => v.category).sum + (M'.2.2.1 + 11) + xL * d' ≤ R.locals
    rw [Nat.mul_succ] at hlo
    omega) (by omega) (by omega) X.2.1 X.1.2.1 X.1.2.2.2.2.2.2.2.2.2.1 hZ
  obtain ⟨ho, hR1, hW1, ⟨L, k1, n1, hsame, hk1, hn1, hLA⟩, hdom, hF, hlim⟩ := hE
  have hsz : T.heap.size ≤ t.heap.size := hF.1
  have hS1 : va_S A s.heap t.heap (locs ++ L) := by
    refine ⟨Nat.le_trans X.2.2.1.1 hsz, fun q h1 h2 => ?_, fun y hy => ?_⟩
    · exact (hF.2 q (Nat.lt_of_lt_of_le h1 X.2.2.1.1) (fun h => h2 (hAA q h))).trans (X.2.2.1.2.1 q h1 h2)
    · rcases List.mem_append.mp hy with h | h
      · exact X.2.2.1.2.2 y h
      · exact hAA _ (hLA y h)
  unfold xAfter at kk
  cases hr : r1.1 with
  | inl v =>
    rw [hr] at ho kk
    have kk : V M D (d' + 1) S0 r (pc + 3) ls (v.toList ++ st) r1.2 := kk
    obtain rfl : o = .returned v := ho
    obtain ⟨T', X', hW', hsm, ht⟩ := X₁.outOf (g := F0 m pc lsA st) rfl (by rw [X.1.1.2.1]; exact hdg) hend hW1 hsame
    have hh : t.heap = T'.heap := by rw [ht]; rfl
    rw [hh] at hR1 hS1
    obtain ⟨t2, a1, b1⟩ := kk p l e R s m args below meth c A T'.heap (locs ++ L) (k + k1) (n + n1) lsA ⟨X.1, hR1, hS1, fun q hq => hAA q (hdom q hq), hlim.trans e0, by omega, by omega, hlv⟩ T' rfl X'
    refine ⟨t2, hstep _ (fun acts => ?_), b1⟩
    rw [doInvoke_state]
    refine hs.trans ?_
    rw [ht]
    exact a1
  | inr ec =>
    rw [hr] at ho kk
    have kk : xThrown M D (d' + 1) S0 r pc ls ec r1.2 := kk
    obtain ⟨a, cell, rfl, hc1, hc2, hc3⟩ := ho
    obtain ⟨T', X', hW', hsm, ht⟩ := X₁.outOfThrown (g := F0 m pc lsA st) rfl hend hW1 hsame
    have hh : t.heap = T'.heap := by rw [ht]; rfl
    have hv : t.vm = T'.vm := by rw [ht]; rfl
    rw [hh] at hR1 hS1 hc1
    rw [hv] at hc3
    have X2 : xX M D (d' + 1) S0 ls r1.2 p l R s m args meth c A T'.heap (locs ++ L) (k + k1) (n + n1) lsA := ⟨X.1, hR1, hS1, fun q hq => hAA q (hdom q hq), hlim.trans e0, by omega, by omega, hlv⟩
    have fin : ∃ t2, Steps p.tables e below ((T'.setTop (F0 m pc lsA st)).pushFrame (.throwing a)) t2 ∧ xQ D S0 r below s A t2 := by
      unfold xThrown at kk
      split at kk
      · rename_i hnil
        rw [kk]
        exact x_leave X2 X' hnil hc1 hc2 hc3
      · obtain ⟨hpc, hh1, hh2⟩ := kk
        exact x_caught X2 X' hh1 hc1 hc2 hc3 (hh2 a)
    obtain ⟨t2, a1, b1⟩ := fin
    refine ⟨t2, hstep _ (fun acts => ?_), b1⟩
    rw [doInvoke_state]
    refine hs.trans ?_
    rw [ht]
    exact a1
theorem x_callS {M' : xM} {d' index : Nat} {ax : List xV} {r1 : xRes} {host : Option String} (hM : ∀ l, xMet l M' D d' ax S r1) (hstk : stk = (ax.map xval).reverse ++ st) (hd : decode M.2.1 pc = .ok (.invokestatic index, 3)) (hw : xml M.1.cls index M'.1 host ∈ xT) (hstat : Cond.static M'.1 ∈ xT) (hini : Cond.initialized M'.1.cls ∈ xT) (hcode : xcode M' ∈ xT) (hy : M'.1.cls ≠ "java/lang/invoke/MethodHandle" ∧ M'.1.cls ≠ "java/lang/invoke/VarHandle") (hn : (parseMethodDescriptor M'.1.desc).map (fun q => q.parameters.length) = some ax.length) (hst : (st.map fun v => v.category).sum ≤ 8) (hL : M'.2.2.1 + 19 ≤ xL) (kk : xAfter M D (d' + 1) S0 r pc ls st r1) : V M D (d' + 1) S0 r pc ls stk S := by
  intro p l e R s m args below meth c A H locs k n lsA X T hT Xs
  subst hT
  have hts := X.1.1.2.2.2.2.2.2.1
  obtain ⟨mk, hnamed⟩ := xcode_named (hts _ hcode)
  obtain ⟨methM, cM, hmethM, -, -, -, -, -, -, hsigM⟩ := xcode_spec hnamed (hts _ hcode)
  have hstatic : methM.isStatic = true := Cond.static_spec hnamed hmethM (hts _ hstat)
  obtain ⟨kP, hkP, -⟩ := className_of_methodNamed hnamed
  have hinitP : kP.init = .initialized := Cond.initialized_spec (findClass_of_methodNamed hnamed) hkP (hts _ hini)
  have hlen : (ax.map xval).length = methM.sig.parameters.length := by
    rw [hsigM] at hn
    rw [List.length_map]
    exact (Option.some.inj hn).symm
  have hdc : decode c.code pc = .ok (.invokestatic index, 3) := by rw [X.1.1.2.1]; exact hd
  have h1 : ∃ vm₁, Stand p l e R s m args below meth c (T.setVm vm₁) locs k n ∧ ∀ target, (∀ acts, Steps p.tables e below (doInvoke e ((T.setVm vm₁).setTop (F0 m pc lsA st)) acts mk (ax.map xval).toArray).1 target) → Steps p.tables e below (T.setTop (F0 m pc lsA stk)) target := by
    cases host with
    | none => exact Xs.invokestatic X.1.1.1 X.1.1.2.2.2.2.1 (hts _ hw) hnamed hmethM hstatic hkP hinitP hy (g := F0 m pc lsA stk) rfl (argsL := ax.map xval) (rest := st) hlen hstk hdc
    | some h => exact Xs.invokestaticNest X.1.1.1 X.1.1.2.2.2.2.1 (hts _ hw) hnamed hmethM hstatic hkP hinitP hy (g := F0 m pc lsA stk) rfl (argsL := ax.map xval) (rest := st) hlen hstk hdc
  obtain ⟨vm₁, X₁, hstep₁⟩ := h1
  exact x_behind X (hM l) X₁ hstep₁ hd hnamed hcode hini hst hL kk
theorem x_callV {M' : xM} {d' index ci b : Nat} {C : String} {T0 : u_T} {N : Nat} {fs : List Value} {ax : List xV} {r1 : xRes} {host : Option String} (hM : ∀ l, xMet l M' D d' (.inr (.inr (some b)) :: ax) S r1) (hb : S.1 b = some (.inr (ci, fs))) (hc : xCl[ci]? = some (C, T0, N)) (hstk : stk = (ax.map xval).reverse ++ va_rf (some b) :: st) (hd : decode M.2.1 pc = .ok (.invokevirtual index, 3)) (hw : xml M.1.cls index M'.1 host ∈ xT) (hinst : Cond.instanceMethod M'.1 ∈ xT) (hsel : Cond.selects C M'.1 M'.1 ∈ xT) (hini : Cond.initialized M'.1.cls ∈ xT) (hcode : xcode M' ∈ xT) (hy : M'.1.cls ≠ "java/lang/invoke/MethodHandle" ∧ M'.1.cls ≠ "java/lang/invoke/VarHandle") (hn : (parseMethodDescriptor M'.1.desc).map (fun q => q.parameters.length) = some ax.length) (hst : (st.map fun v => v.category).sum ≤ 8) (hL : M'.2.2.1 + 19 ≤ xL) (kk : xAfter M D (d' + 1) S0 r pc ls st r1) : V M D (d' + 1) S0 r pc ls stk S := by
  intro p l e R s m args below meth c A H locs k n lsA X T hT Xs
  subst hT
  have hts := X.1.1.2.2.2.2.2.2.1
  obtain ⟨mk, methM, hnamed, hmethM, hstM, habM⟩ := Cond.instanceMethod_spec (hts _ hinst)
  obtain ⟨methM', cM, hmethM', -, -, -, -, -, -, hsigM⟩ := xcode_spec hnamed (hts _ hcode)
  cases hmethM.symm.trans hmethM'
  obtain ⟨r', hr', cellB, g1, g2, g3, -⟩ := X.2.1.2.1 b _ hb
  have hcls : s.vm.findClass C = some cellB.cls := by rw [g2]; exact (X.1.2.1.1.1 ci _ hc).2.1
  obtain ⟨c2, r2, m2, q1, q2, q3, q4, kP, hkP, hkPi⟩ := Cond.selects_spec (hts _ hsel)
  cases hcls.symm.trans q1
  cases (State.methodFound?_of_named hnamed hy).symm.trans q2
  cases hnamed.symm.trans q3
  have hselP : selectMethod e.platform s.vm cellB.cls mk = .method mk := by rw [Launch.admits_selectMethod Xs.admits]; exact q4
  have hlen : (ax.map xval).length = methM.sig.parameters.length := by
    rw [hsigM] at hn
    rw [List.length_map]
    exact (Option.some.inj hn).symm
  have hdc : decode c.code pc = .ok (.invokevirtual index, 3) := by rw [X.1.1.2.1]; exact hd
  have h1 : ∃ vm₁, Stand p l e R s m args below meth c (T.setVm vm₁) locs k n ∧ ∀ target, (∀ acts, Steps p.tables e below (doInvoke e ((T.setVm vm₁).setTop (F0 m pc lsA st)) acts mk ((.inr (.inr (some b)) :: ax).map xval).toArray).1 target) → Steps p.tables e below (T.setTop (F0 m pc lsA stk)) target := by
    cases host with
    | none => exact Xs.invokevirtual X.1.1.1 X.1.1.2.2.2.2.1 (hts _ hw) hnamed hmethM hstM hkP hkPi hy (a := b) (cell := cellB) g1 (fun z h => by rw [g3] at h; cases h) hselP hmethM habM hkP hkPi (g := F0 m pc lsA stk) rfl (argsL := ax.map xval) (rest := st) hlen hstk hdc
    | some h => exact Xs.invokevirtualNest X.1.1.1 X.1.1.2.2.2.2.1 (hts _ hw) hnamed hmethM hstM hkP hkPi hy (a := b) (cell := cellB) g1 (fun z h => by rw [g3] at h; cases h) hselP hmethM habM hkP hkPi (g := F0 m pc lsA stk) rfl (argsL := ax.map xval) (rest := st) hlen hstk hdc
  obtain ⟨vm₁, X₁, hstep₁⟩ := h1
  exact x_behind X (hM l) X₁ hstep₁ hd hnamed hcode hini hst hL kk
theorem x_callI {M' : xM} {d' index b : Nat} {bytes : ByteArray} {maxL : Nat} {ax : List xV} {r1 : xRes} {host : Option String} (hM : ∀ l, xMet l M' D d' (.inr (.inr (some b)) :: ax) S r1) (hM0 : xcode M' = .code M'.1 bytes maxL none) (hname : M'.1.name = "<init>") (hstk : stk = (ax.map xval).reverse ++ va_rf (some b) :: st) (hd : decode M.2.1 pc = .ok (.invokespecial index, 3)) (hw : xml M.1.cls index M'.1 host ∈ xT) (hinst : Cond.instanceMethod M'.1 ∈ xT) (hini : Cond.initialized M'.1.cls ∈ xT) (hcode : xcode M' ∈ xT) (hy : M'.1.cls ≠ "java/lang/invoke/MethodHandle" ∧ M'.1.cls ≠ "java/lang/invoke/VarHandle") (hn : (parseMethodDescriptor M'.1.desc).map (fun q => q.parameters.length) = some ax.length) (hst : (st.map fun v => v.category).sum ≤ 8) (hL : M'.2.2.1 + 19 ≤ xL) (kk : xAfter M D (d' + 1) S0 r pc ls st r1) : V M D (d' + 1) S0 r pc ls stk S := by
  intro p l e R s m args below meth c A H locs k n lsA X T hT Xs
  subst hT
  have hts := X.1.1.2.2.2.2.2.2.1
  have hcd := hts _ hcode
  rw [hM0] at hcd
  have hpl : e.platform.magicAccessors = ({} : Platform).magicAccessors := by rw [Xs.admits.platform]
  have hlen : ∀ sig, parseMethodDescriptor M'.1.desc = some sig → (ax.map xval).length = sig.parameters.length := fun sig h => by
    rw [h] at hn
    rw [List.length_map]
    exact (Option.some.inj hn).symm
  have hdc : decode c.code pc = .ok (.invokespecial index, 3) := by rw [X.1.1.2.1]; exact hd
  have h1 : ∃ mk vm₁, s.methodNamed? M'.1 = some mk ∧ Stand p l e R s m args below meth c (T.setVm vm₁) locs k n ∧ ∀ target, (∀ acts, Steps p.tables e below (doInvoke e ((T.setVm vm₁).setTop (F0 m pc lsA st)) acts mk ((.inr (.inr (some b)) :: ax).map xval).toArray).1 target) → Steps p.tables e below (T.setTop (F0 m pc lsA stk)) target := by
    cases host with
    | none =>
      obtain ⟨mk, methM, cM, kP, vm₁, hnamed, -, -, -, -, -, -, -, hW₁, hstep₁⟩ := Steps.initColdArgs (e := e) Xs.here X.1.1.1 Xs.warmed hpl X.1.1.2.2.2.2.1 hname hy (hts _ hw) (hts _ hinst) hcd (f := F0 m pc lsA stk) rfl (a := b) (rest := st) hlen hstk hdc
      exact ⟨mk, vm₁, hnamed, Xs.noted hW₁, hstep₁⟩
    | some h =>
      obtain ⟨mk, methM, cM, kP, vm₁, hnamed, -, -, -, -, -, -, -, hW₁, hstep₁⟩ := Steps.initColdArgsNest (e := e) Xs.here X.1.1.1 Xs.warmed hpl X.1.1.2.2.2.2.1 hname hy (hts _ hw) (hts _ hinst) hcd (f := F0 m pc lsA stk) rfl (a := b) (rest := st) hlen hstk hdc
      exact ⟨mk, vm₁, hnamed, Xs.noted hW₁, hstep₁⟩
  obtain ⟨mk, vm₁, hnamed, X₁, hstep₁⟩ := h1
  exact x_behind X (hM l) X₁ hstep₁ hd hnamed hcode hini hst hL kk
theorem x_cats (st : List Value) (h : st.length ≤ 4) : (st.map fun v => v.category).sum ≤ 8 := by
  have key : ∀ st : List Value, (st.map fun v => v.category).sum ≤ 2 * st.length := by
    intro st
    induction st with
    | nil => simp
    | cons v t ih =>
      have hv : v.category ≤ 2 := by cases v <;> simp [Value.category]
      simp only [List.map_cons, List.sum_cons, List.length_cons]
      omega
  have := key st
  omega
theorem x_vkR {own text : String} {k cur : Nat} {args : Array Value} {s : State} (hcur : s.vm.findClass own = some cur) (h : (Cond.stringRef own k text).before args s = true) : ∃ a, vk_R own k text a s := by
  obtain ⟨_, _, _, a, -, -, -, -, -, he⟩ := Cond.stringRef_spec hcur h
  exact ⟨a, vk_R.of h he⟩
/-- 'throw new E("text")' -/
def xthrow {α : Type} (d e : Nat) (S : xS) : Option ((α ⊕ Nat) × xS) := if 8 ≤ d ∧ S.2.1 + 1 ≤ S.2.2.2.1 ∧ S.2.2.1 + 6 ≤ S.2.2.2.2 then some (.inr e, xskip S 6) else none
set_option maxHeartbeats 1000000 in
theorem x_throw0 {ec ik is ic : Nat} {cls text : String} (hE : xE ec = cls) (h8 : 8 ≤ d) (hlim : S.2.1 + 1 ≤ S.2.2.2.1 ∧ S.2.2.1 + 6 ≤ S.2.2.2.2) (hh : M.2.2.2.2 = []) (hcls : Bundle.fit cls = true)
    (hw1 : Cond.classLink M.1.cls ik cls ∈ xT) (hw2 : Cond.initialized cls ∈ xT) (hw3 : Cond.stringRef M.1.cls is text ∈ xT) (hw4 : ∀ w ∈ vx_atS M.1.cls ic cls ["java/lang/RuntimeException", "java/lang/Exception"], w ∈ xT)
    (d0 : decode M.2.1 pc = .ok (.new ik, 3)) (d3 : decode M.2.1 (pc + 3) = .ok (.dup, 1)) (d4 : decode M.2.1 (pc + 4) = .ok (.ldc is, 2)) (d6 : decode M.2.1 (pc + 6) = .ok (.invokespecial ic, 3)) (d9 : decode M.2.1 (pc + 9) = .ok (.athrow, 1)) (hst : st.length ≤ 4) :
    V M D (d + 1) S0 (.inr ec, xskip S 6) pc ls st S := by
  intro p l e R s m args below meth c A H locs k n lsA X T hT Xs
  subst hT
  have hts := X.1.1.2.2.2.2.2.2.1
  have hlocks : meth.locks = false := X.1.1.2.2.2.2.2.2.2.1
  have hout : ∀ x ∈ c.exceptionTable.toList, covers x (pc + 9) = false := by
    have h := X.1.1.2.2.2.2.2.2.2.2
    rw [hh] at h
    rw [List.map_eq_nil_iff.mp h]
    exact fun x hx => by cases hx
  have hexec := X.1.1.1
  have hb := X.1.1.2.1
  have hown := X.1.1.2.2.2.2.1
  have hfr : d + 1 ≤ R.frames := X.1.2.2.2.2.1
  have hlo : xL * (d + 1) ≤ R.locals := X.1.2.2.2.2.2.1
  have hf := x_fit X hlim.1 hlim.2
  have hstc := x_cats st hst
  obtain ⟨sa, hstr⟩ := x_vkR hown (hts _ hw3)
  have htr : e.platform.stackTraces = false := (show e.platform.stackTraces = l.stackTraces by rw [Xs.admits.platform]).trans X.1.2.2.2.2.2.2.2.2.2.1
  have Y := vx_rebase Xs (R' := { frames := R.frames, locals := R.locals, cells := 1, slots := 6 }) (Nat.le_refl _) (Nat.le_refl _) hf.1 hf.2
  obtain ⟨s', hA⟩ : ∃ z, z = (T.setVm s.vm).setFrames (.invoking m args :: below) := ⟨_, rfl⟩
  rw [← hA] at Y
  have hvm : s'.vm = s.vm := by rw [hA]; rfl
  have hhp : s'.heap = T.heap := by rw [hA]; rfl
  have hW0 : s.WarmedH s'.vm := by rw [hvm]; exact State.WarmedH.refl s
  have hw : ∀ w ∈ xT, w.before args s' = true := fun w h => x_word hW0 (xT_good h) (hts w h)
  have hZ' : xZ A s' s'.heap := by
    rw [hhp]
    exact (X.1.2.2.2.2.2.2.2.2.2.2.kept (H1 := T.heap) X.2.2.1.2.1).moved hW0.alike
  have h : ∀ w ∈ Bundle.ownAtoms M.1.cls ic cls ["java/lang/RuntimeException", "java/lang/Exception"], w.before args s' = true := vx_own (fun w hw9 => hw w (hw4 w hw9)) (vx_isRefq hZ'.1.1) (vx_isRefq hZ'.2.1) hZ'.1.2.word hZ'.2.2.word
  have hown' : s'.vm.findClass M.1.cls = some m.cls := by rw [hvm]; exact hown
  have hins : (Cond.instantiable cls 6).before args s' = true := h _ (by simp [Bundle.ownAtoms])
  obtain ⟨vm₁, cX, kX, hfX, hkX, -, -, X₁, st1⟩ := Y.newCold hexec (own := M.1.cls) (C := cls) (index := ik) (n := 6) hown' (hw _ hw1) hins (hw _ hw2)
    (g := F0 m pc lsA st) rfl (by rw [hb]; exact d0) (Nat.le_refl _) (Nat.le_refl _)
  generalize hT1 : (T.setVm vm₁).pushCell { cls := cX, slots := kX.instanceTypes.map defaultValue, vm := .none } = T1 at X₁ st1
  have hcat : (Value.ref T.heap.size).category = 1 := rfl
  have hcellA : T1.heap[T.heap.size]? = some (freshCell cX kX) := by rw [← hT1]; exact State.heap_pushCell_size _ _
  have d3' : decode c.code (pc + 3) = .ok (.dup, 1) := by rw [hb]; exact d3
  have d4' : decode c.code (pc + 4) = .ok (.ldc is, 2) := by rw [hb]; exact d4
  have hstr' : vk_R M.1.cls is text sa s' := vk_R.warm hW0 hstr
  have hx64 : xL = 64 := rfl
  obtain ⟨U, hsteps, hrun, hend, hW, hsame, ce, hce, hO⟩ := X₁.ctorThrowS hexec htr (own := M.1.cls) (cls := cls) (names := ["java/lang/RuntimeException", "java/lang/Exception"]) (ic := ic) hown' hcls (by decide) h (fun x hx => nomatch hx) hfX hkX hcellA (by rw [hhp]; exact Nat.le_refl _) (msg := .ref sa) rfl
    (g := { method := m, pc := pc + 6, locals := lsA, stack := .ref sa :: .ref T.heap.size :: .ref T.heap.size :: st, locked := none }) rfl (X.2.2.2.2.2.2.2.1.trans X.1.1.2.2.1.symm) rfl rfl (rest := st) rfl
    (by rw [hb]; exact d6) (by rw [hb]; exact d9) hout (by simp; omega) (by
      have h0 : 2 * (F0 m pc lsA st).monitorRoom + (st.map fun v => v.category).sum ≤ 8 := lv_room (rest := st) hstc
      have h1 : xL * (d + 1) ≥ 64 * 9 := by rw [hx64]; omega
      simp only [List.map_cons, List.sum_cons, hcat, List.length_cons, List.length_nil]
      show 2 * 0 + _ + _ ≤ _
      have h2 : (st.map fun v => v.category).sum ≤ 8 := hstc
      omega) hlocks
  obtain ⟨f1, f2⟩ := vx_frame hsame
  rw [hhp] at f1 f2
  have hWs : s.WarmedH U.vm := State.WarmedH.trans hW0 hW
  have hcl : U.vm.findClass cls = some ce.cls := by
    have h9 := hO.cls
    rw [hvm] at h9
    rw [hWs.alike.findClass]
    exact h9
  have hall : s.sameButNew ({ U with vm := s.vm } : State) locs (k + 1) (n + 6) := by
    subst hA
    obtain ⟨e1, e2⟩ := hsame
    rw [State.setFrames_setFrames] at e1
    have h2 : (T.setVm s.vm).sameButNew ({ U with vm := s.vm } : State) [] (0 + 1) (0 + 6) := ⟨e1, e2⟩
    have h3 := Xs.same.trans h2
    rw [List.append_nil] at h3
    exact h3.mono (by omega) (by omega)
  have hsz : U.heap.size = T.heap.size + 1 := by
    have h1 : T.heap.size < U.heap.size := (Array.getElem?_eq_some_iff.mp hce).1
    have h2 : U.heap.size ≤ s'.heap.size + (0 + 1) := hsame.2.2.1
    rw [hhp] at h2
    omega
  have hfr2 : ∀ q : Nat, q < T.heap.size → U.heap[q]? = T.heap[q]? := fun q hq => f2 q hq (fun z hz => nomatch hz)
  refine ⟨U, ?_, .threw T.heap.size, hrun, hend, ⟨T.heap.size, ce, rfl, hce, hO.vm, by rw [hE]; exact hcl⟩, X.2.1.skip 6 hlim hsz hfr2, hWs, ⟨locs, k + 1, n + 6, hall, ?_, ?_, X.2.2.1.2.2⟩, X.2.2.2.1, ?_, X.2.2.2.2.1⟩
  · refine st1 _ ?_
    show Steps p.tables e below (T1.setTop { method := m, pc := pc + 3, locals := lsA, stack := .ref T.heap.size :: st, locked := none }) _
    jvm_step X₁.here [X₁.here.top, hexec, d3', Value.category]
    exact X₁.ldcString hexec (own := M.1.cls) (text := text) (index := is) (a := sa) hown' hstr'.1 hstr'.2
      (g := { method := m, pc := pc + 4, locals := lsA, stack := .ref T.heap.size :: .ref T.heap.size :: st, locked := none }) rfl d4' _ hsteps
  · show S0.2.1 + (k + 1) = S.2.1 + 1
    have := X.2.2.2.2.2.1
    omega
  · show S0.2.2.1 + (n + 6) = S.2.2.1 + 6
    have := X.2.2.2.2.2.2.1
    omega
  · refine ⟨by have := X.2.2.1.1; omega, fun q h1 h2 => ?_⟩
    have := X.2.2.1.1
    exact (hfr2 q (by omega)).trans (X.2.2.1.2.1 q h1 h2)
/-- Object's own constructor -/
theorem x_objInit {index : Nat} {x : Option Nat} (hx : x ≠ none) (hd : decode M.2.1 pc = .ok (.invokespecial index, 3)) (hw : Cond.methodLink M.1.cls index objectInit ∈ xT) (hinst : Cond.instanceMethod objectInit ∈ xT) (hcode : Cond.code objectInit ⟨#[0xb1]⟩ 1 none ∈ xT) (hst : st.length ≤ 4) (kk : V M D (d + 1) S0 r (pc + 3) ls st S) : V M D (d + 1) S0 r pc ls (va_rf x :: st) S := by
  have hst := x_cats st hst
  cases x with
  | none => exact absurd rfl hx
  | some a =>
    intro p l e R s m args below meth c A H locs k n lsA X
    have hts := X.1.1.2.2.2.2.2.2.1
    have hlo : xL * (d + 1) ≤ R.locals := X.1.2.2.2.2.2.1
    refine W.objInit X.1.1.1 X.1.1.2.1 X.1.1.2.2.2.2.1 (hts _ hw) (hts _ hinst) (hts _ hcode) rfl (X.2.2.2.2.2.2.2.1.trans X.1.1.2.2.1.symm) rfl hd (Nat.le_trans (Nat.le_add_left 1 d) X.1.2.2.2.2.1) ?_ (kk p l e R s m args below meth c A H locs k n lsA X)
    have h0 : 2 * (F0 m pc lsA st).monitorRoom + (st.map fun v => v.category).sum ≤ 8 := lv_room (rest := st) hst
    show 2 * (F0 m pc lsA st).monitorRoom + (st.map fun v => v.category).sum + 12 ≤ R.locals
    rw [Nat.mul_succ] at hlo
    have : xL = 64 := rfl
    omega
/-- what is known of a method that is called: static, by its receiver's class, a constructor -/
def xwS (M' : xM) (n : Nat) : Prop := Cond.static M'.1 ∈ xT ∧ Cond.initialized M'.1.cls ∈ xT ∧ xcode M' ∈ xT ∧ (M'.1.cls ≠ "java/lang/invoke/MethodHandle" ∧ M'.1.cls ≠ "java/lang/invoke/VarHandle") ∧ (parseMethodDescriptor M'.1.desc).map (fun q => q.parameters.length) = some n ∧ M'.2.2.1 + 19 ≤ xL
def xwV (M' : xM) (C : String) (n : Nat) : Prop := Cond.instanceMethod M'.1 ∈ xT ∧ Cond.selects C M'.1 M'.1 ∈ xT ∧ Cond.initialized M'.1.cls ∈ xT ∧ xcode M' ∈ xT ∧ (M'.1.cls ≠ "java/lang/invoke/MethodHandle" ∧ M'.1.cls ≠ "java/lang/invoke/VarHandle") ∧ (parseMethodDescriptor M'.1.desc).map (fun q => q.parameters.length) = some n ∧ M'.2.2.1 + 19 ≤ xL
def xwI (M' : xM) (n : Nat) : Prop := Cond.instanceMethod M'.1 ∈ xT ∧ M'.1.name = "<init>" ∧ (∃ (b : ByteArray) (k : Nat), xcode M' = .code M'.1 b k none) ∧ Cond.initialized M'.1.cls ∈ xT ∧ xcode M' ∈ xT ∧ (M'.1.cls ≠ "java/lang/invoke/MethodHandle" ∧ M'.1.cls ≠ "java/lang/invoke/VarHandle") ∧ (parseMethodDescriptor M'.1.desc).map (fun q => q.parameters.length) = some n ∧ M'.2.2.1 + 19 ≤ xL
theorem x_callS' {ζ α : Type} {Fc : Option ζ} {F : ζ → Option α} {z : α} {cv : ζ → xRes} {M' : xM} {d' index n : Nat} {ax : List xV} {host : Option String} (h : Fc.bind F = some z) (hM : ∀ q, Fc = some q → ∀ l, xMet l M' D d' ax S (cv q)) (hstk : stk = (ax.map xval).reverse ++ st) (hd : decode M.2.1 pc = .ok (.invokestatic index, 3)) (hw : xml M.1.cls index M'.1 host ∈ xT) (hc : xwS M' n) (hax : ax.length = n) (hst : st.length ≤ 4) (kk : ∀ q, F q = some z → xAfter M D (d' + 1) S0 r pc ls st (cv q)) : V M D (d' + 1) S0 r pc ls stk S := by
  obtain ⟨q, h1, h2⟩ := Option.bind_eq_some_iff.mp h
  obtain ⟨c1, c2, c3, c4, c5, c6⟩ := hc
  exact x_callS (hM q h1) hstk hd hw c1 c2 c3 c4 (by rw [hax]; exact c5) (x_cats st hst) c6 (kk q h2)
theorem x_callV' {ζ α : Type} {Fc : Option ζ} {F : ζ → Option α} {z : α} {cv : ζ → xRes} {M' : xM} {d' index ci n : Nat} {x : Option Nat} {C : String} {T0 : u_T} {N : Nat} {ax : List xV} {host : Option String} (h : (xobj S x ci).bind (fun _ => Fc.bind F) = some z) (hM : ∀ q, Fc = some q → ∀ l, xMet l M' D d' (.inr (.inr x) :: ax) S (cv q)) (hci : xCl[ci]? = some (C, T0, N)) (hstk : stk = (ax.map xval).reverse ++ va_rf x :: st) (hd : decode M.2.1 pc = .ok (.invokevirtual index, 3)) (hw : xml M.1.cls index M'.1 host ∈ xT) (hc : xwV M' C n) (hax : ax.length = n) (hst : st.length ≤ 4) (kk : ∀ q, F q = some z → xAfter M D (d' + 1) S0 r pc ls st (cv q)) : V M D (d' + 1) S0 r pc ls stk S := by
  obtain ⟨o, h0, h⟩ := Option.bind_eq_some_iff.mp h
  obtain ⟨q, h1, h2⟩ := Option.bind_eq_some_iff.mp h
  obtain ⟨rfl, h5⟩ := xobj_some h0
  obtain ⟨c1, c1', c2, c3, c4, c5, c6⟩ := hc
  exact x_callV (hM q h1) h5 hci hstk hd hw c1 c1' c2 c3 c4 (by rw [hax]; exact c5) (x_cats st hst) c6 (kk q h2)
theorem x_callI' {ζ α : Type} {Fc : Option ζ} {F : ζ → Option α} {z : α} {cv : ζ → xRes} {M' : xM} {d' index b n : Nat} {ax : List xV} {host : Option String} (h : Fc.bind F = some z) (hM : ∀ q, Fc = some q → ∀ l, xMet l M' D d' (.inr (.inr (some b)) :: ax) S (cv q)) (hstk : stk = (ax.map xval).reverse ++ va_rf (some b) :: st) (hd : decode M.2.1 pc = .ok (.invokespecial index, 3)) (hw : xml M.1.cls index M'.1 host ∈ xT) (hc : xwI M' n) (hax : ax.length = n) (hst : st.length ≤ 4) (kk : ∀ q, F q = some z → xAfter M D (d' + 1) S0 r pc ls st (cv q)) : V M D (d' + 1) S0 r pc ls stk S := by
  obtain ⟨q, h1, h2⟩ := Option.bind_eq_some_iff.mp h
  obtain ⟨c1, cn, ⟨b', k', cb⟩, c2, c3, c4, c5, c6⟩ := hc
  exact x_callI (hM q h1) cb cn hstk hd hw c1 c2 c3 c4 (by rw [hax]; exact c5) (x_cats st hst) c6 (kk q h2)
/-! ends as numbers, references, nothing; of a method that may throw -/
abbrev cvI (q : Int32 × xS) : xRes := (.inl (some (.int q.1)), q.2)
abbrev cvR (q : Option Nat × xS) : xRes := (.inl (some (va_rf q.1)), q.2)
abbrev cvV (q : Unit × xS) : xRes := (.inl none, q.2)
def cvT (q : (Int32 ⊕ Nat) × xS) : xRes := match q.1 with
  | .inl v => (.inl (some (.int v)), q.2)
  | .inr e => (.inr e, q.2)
def cvU (q : (Unit ⊕ Nat) × xS) : xRes := match q.1 with
  | .inl _ => (.inl none, q.2)
  | .inr e => (.inr e, q.2)
def xtry {α β : Type} (o : α ⊕ Nat) (a : α → β) (b : Nat → β) : β := match o with
  | .inl v => a v
  | .inr e => b e
theorem x_tryI {α : Type} {q : (Int32 ⊕ Nat) × xS} {Fa : Int32 → Option α} {Fb : Nat → Option α} {z : α} (h : xtry q.1 Fa Fb = some z) (k1 : ∀ v, Fa v = some z → V M D d S0 r (pc + 3) ls (.int v :: st) q.2) (k2 : ∀ e, Fb e = some z → xThrown M D d S0 r pc ls e q.2) : xAfter M D d S0 r pc ls st (cvT q) := by
  obtain ⟨o, S1⟩ := q
  cases o with
  | inl v => exact k1 v h
  | inr e => exact k2 e h
theorem x_tryV {α : Type} {q : (Unit ⊕ Nat) × xS} {Fa : Unit → Option α} {Fb : Nat → Option α} {z : α} (h : xtry q.1 Fa Fb = some z) (k1 : ∀ v, Fa v = some z → V M D d S0 r (pc + 3) ls st q.2) (k2 : ∀ e, Fb e = some z → xThrown M D d S0 r pc ls e q.2) : xAfter M D d S0 r pc ls st (cvU q) := by
  obtain ⟨o, S1⟩ := q
  cases o with
  | inl v => exact k1 v h
  | inr e => exact k2 e h
theorem x_zretI {v : Int32} {z : Int32 × xS} (h : (if v = 0 ∨ v = 1 then some (v, S) else none) = some z) (hr : M.2.2.2.1 = some .boolean) (hd : decode M.2.1 pc = .ok (.ireturn, 1)) : V M D d S0 (cvI z) pc ls [.int v] S := by
  split at h
  case isFalse => cases h
  rename_i hv
  cases h
  exact x_zret hr hv hd
end XCALLS
end
section
section XMORE
variable {M : xM} {D : xD} {d : Nat} {S0 : xS} {r : xRes} {pc : Nat} {ls : List (Nat × xV)} {st : List Value} {S : xS} {α : Type}
theorem x_lshr {x : Int64} {y : Int32} (hd : decode M.2.1 pc = .ok (.lshr, 1)) (kk : V M D d S0 r (pc + 1) ls (.long (x >>> (y.toInt64 &&& 63)) :: st) S) : V M D d S0 r pc ls (.int y :: .long x :: st) S :=
  fun p l e R s m args below meth c A H locs k n lsA X => lv_lshr X.1.1.1 X.1.1.2.1 hd rfl (kk p l e R s m args below meth c A H locs k n lsA X)
theorem x_tabIn {x k : Int32} {dflt lo hi : Int} {offs : Array Int} {len : Nat} {off : Int} {tgt : Nat} (hd : decode M.2.1 pc = .ok (.tableswitch dflt lo hi offs, len)) (e : x = k) (h1 : ¬ k.toInt < lo) (h2 : ¬ hi < k.toInt) (ho : offs[(k.toInt - lo).toNat]? = some off) (ht : (pc : Int) + off = (tgt : Int)) (kk : V M D d S0 r tgt ls st S) : V M D d S0 r pc ls (.int x :: st) S := by
  subst e
  exact fun p l e R s m args below meth c A H locs k n lsA X => lv_tableIn X.1.1.1 X.1.1.2.1 hd h1 h2 ho ht (kk p l e R s m args below meth c A H locs k n lsA X)
theorem x_tabOut {x : Int32} {dflt lo hi : Int} {offs : Array Int} {len : Nat} {tgt : Nat} (hd : decode M.2.1 pc = .ok (.tableswitch dflt lo hi offs, len)) (h : x.toInt < lo ∨ hi < x.toInt) (ht : (pc : Int) + dflt = (tgt : Int)) (kk : V M D d S0 r tgt ls st S) : V M D d S0 r pc ls (.int x :: st) S :=
  fun p l e R s m args below meth c A H locs k n lsA X => lv_tableOut X.1.1.1 X.1.1.2.1 hd h ht (kk p l e R s m args below meth c A H locs k n lsA X)
theorem xtab_n {x : Int32} (n : Nat) (hn : n < 2 ^ 31) (h : ∀ k : Nat, k < n → ¬ x = nI k) : x.toInt < 0 ∨ (n : Int) - 1 < x.toInt := by
  rcases (show x.toInt < 0 ∨ 0 ≤ x.toInt by omega) with h0 | h0
  · exact Or.inl h0
  · rcases (show (n : Int) - 1 < x.toInt ∨ x.toInt ≤ (n : Int) - 1 by omega) with h1 | h1
    · exact Or.inr h1
    · exfalso
      refine h x.toInt.toNat (by omega) (Int32.toInt_inj.mp ?_)
      rw [nI_toInt (by omega)]
      omega
theorem xtab_4 {x : Int32} (e0 : ¬ x = 0) (e1 : ¬ x = 1) (e2 : ¬ x = 2) (e3 : ¬ x = 3) : x.toInt < 0 ∨ 3 < x.toInt := by
  have h := xtab_n (x := x) 4 (by decide) (fun k hk => by
    rcases (show k = 0 ∨ k = 1 ∨ k = 2 ∨ k = 3 by omega) with rfl | rfl | rfl | rfl
    · exact e0
    · exact e1
    · exact e2
    · exact e3)
  simpa using h
theorem xtab_13 {x : Int32} (e0 : ¬ x = 0) (e1 : ¬ x = 1) (e2 : ¬ x = 2) (e3 : ¬ x = 3) (e4 : ¬ x = 4) (e5 : ¬ x = 5) (e6 : ¬ x = 6) (e7 : ¬ x = 7) (e8 : ¬ x = 8) (e9 : ¬ x = 9) (e10 : ¬ x = 10) (e11 : ¬ x = 11) (e12 : ¬ x = 12) : x.toInt < 0 ∨ 12 < x.toInt := by
  have h := xtab_n (x := x) 13 (by decide) (fun k hk => by
    rcases (show k = 0 ∨ k = 1 ∨ k = 2 ∨ k = 3 ∨ k = 4 ∨ k = 5 ∨ k = 6 ∨ k = 7 ∨ k = 8 ∨ k = 9 ∨ k = 10 ∨ k = 11 ∨ k = 12 by omega) with rfl | rfl | rfl | rfl | rfl | rfl | rfl | rfl | rfl | rfl | rfl | rfl | rfl
    · exact e0
    · exact e1
    · exact e2
    · exact e3
    · exact e4
    · exact e5
    · exact e6
    · exact e7
    · exact e8
    · exact e9
    · exact e10
    · exact e11
    · exact e12)
  simpa using h
def xmax (x y : Int32) : Int32 := if x < y then y else x
def xmin (x y : Int32) : Int32 := if y < x then y else x
def xN : Nat := 5000
theorem xnar_o (C : String) (x : Option Nat) : narrow (.object C) (va_rf x) = va_rf x := by cases x <;> rfl
theorem xfit_o (C : String) (x : Option Nat) : fits (.object C) (va_rf x) = true := by cases x <;> rfl
theorem xnar_a (t : FieldType) (x : Option Nat) : narrow (.array t) (va_rf x) = va_rf x := by cases x <;> rfl
theorem xfit_a (t : FieldType) (x : Option Nat) : fits (.array t) (va_rf x) = true := by cases x <;> rfl
theorem x_mmax {index : Nat} {x y : Int32} (hd : decode M.2.1 pc = .ok (.invokestatic index, 3)) (hw : Cond.methodLink M.1.cls index Lib.Math.max.name ∈ xT ∧ Cond.static Lib.Math.max.name ∈ xT ∧ Cond.initialized "java/lang/Math" ∈ xT ∧ Cond.code Lib.Math.max.name Lib.Math.max.code 2 (some .int) ∈ xT) (hst : st.length ≤ 4) (kk : V M D (d + 1) S0 r (pc + 3) ls (.int (xmax x y) :: st) S) : V M D (d + 1) S0 r pc ls (.int y :: .int x :: st) S := by
  intro p l e R s m args below meth c A H locs k n lsA X
  have hts := X.1.1.2.2.2.2.2.2.1
  have hlo : xL * (d + 1) ≤ R.locals := X.1.2.2.2.2.2.1
  have hfr : d + 1 ≤ R.frames := X.1.2.2.2.2.1
  have c1 := X.1.2.2.2.2.2.2.1
  have c2 := X.1.2.2.2.2.2.2.2.1
  have e0 := X.2.2.2.2.1
  have e1 : S.2.2.2.1 = S0.2.2.2.1 := by rw [e0]
  have e2 : S.2.2.2.2 = S0.2.2.2.2 := by rw [e0]
  have e3 := X.2.2.2.2.2.1
  have e4 := X.2.2.2.2.2.2.1
  have e5 := X.2.1.2.2
  have hc := x_cats st hst
  have h64 : xL = 64 := rfl
  exact va_mmax X.1.1.1 X.1.1.2.1 (X.1.1.2.2.1.trans X.2.2.2.2.2.2.2.1.symm) X.1.1.2.2.2.2.1 (hts _ hw.1) (hts _ hw.2.1) (hts _ hw.2.2.1) (hts _ hw.2.2.2) (by omega) (by rw [Nat.mul_succ] at hlo; omega) (by omega) (by omega) hd (kk p l e R s m args below meth c A H locs k n lsA X)
theorem x_mmin {index : Nat} {x y : Int32} (hd : decode M.2.1 pc = .ok (.invokestatic index, 3)) (hw : Cond.methodLink M.1.cls index Lib.Math.min.name ∈ xT ∧ Cond.static Lib.Math.min.name ∈ xT ∧ Cond.initialized "java/lang/Math" ∈ xT ∧ Cond.code Lib.Math.min.name Lib.Math.min.code 2 (some .int) ∈ xT) (hst : st.length ≤ 4) (kk : V M D (d + 1) S0 r (pc + 3) ls (.int (xmin x y) :: st) S) : V M D (d + 1) S0 r pc ls (.int y :: .int x :: st) S := by
  intro p l e R s m args below meth c A H locs k n lsA X
  have hts := X.1.1.2.2.2.2.2.2.1
  have hlo : xL * (d + 1) ≤ R.locals := X.1.2.2.2.2.2.1
  have hfr : d + 1 ≤ R.frames := X.1.2.2.2.2.1
  have c1 := X.1.2.2.2.2.2.2.1
  have c2 := X.1.2.2.2.2.2.2.2.1
  have e0 := X.2.2.2.2.1
  have e1 : S.2.2.2.1 = S0.2.2.2.1 := by rw [e0]
  have e2 : S.2.2.2.2 = S0.2.2.2.2 := by rw [e0]
  have e3 := X.2.2.2.2.2.1
  have e4 := X.2.2.2.2.2.2.1
  have e5 := X.2.1.2.2
  have hc := x_cats st hst
  have h64 : xL = 64 := rfl
  exact va_mmin X.1.1.1 X.1.1.2.1 (X.1.1.2.2.1.trans X.2.2.2.2.2.2.2.1.symm) X.1.1.2.2.2.2.1 (hts _ hw.1) (hts _ hw.2.1) (hts _ hw.2.2.1) (hts _ hw.2.2.2) (by omega) (by rw [Nat.mul_succ] at hlo; omega) (by omega) (by omega) hd (kk p l e R s m args below meth c A H locs k n lsA X)
theorem x_objInit' {index : Nat} {x : Option Nat} {Fa : Option α} {z : α} (h : xcase x none (fun _ => Fa) = some z) (hd : decode M.2.1 pc = .ok (.invokespecial index, 3)) (hw : Cond.methodLink M.1.cls index objectInit ∈ xT) (hinst : Cond.instanceMethod objectInit ∈ xT) (hcode : Cond.code objectInit ⟨#[0xb1]⟩ 1 none ∈ xT) (hst : st.length ≤ 4) (kk : Fa = some z → V M D (d + 1) S0 r (pc + 3) ls st S) : V M D (d + 1) S0 r pc ls (va_rf x :: st) S := by
  cases x with
  | none => cases h
  | some a => exact x_objInit (by simp) hd hw hinst hcode hst (kk h)
theorem x_throwI {ec ik is ic : Nat} {cls text : String} {z : (Int32 ⊕ Nat) × xS} (h : xthrow d ec S = some z) (hE : xE ec = cls) (hh : M.2.2.2.2 = []) (hcls : Bundle.fit cls = true)
    (hw1 : Cond.classLink M.1.cls ik cls ∈ xT) (hw2 : Cond.initialized cls ∈ xT) (hw3 : Cond.stringRef M.1.cls is text ∈ xT) (hw4 : ∀ w ∈ vx_atS M.1.cls ic cls ["java/lang/RuntimeException", "java/lang/Exception"], w ∈ xT)
    (d0 : decode M.2.1 pc = .ok (.new ik, 3)) (d3 : decode M.2.1 (pc + 3) = .ok (.dup, 1)) (d4 : decode M.2.1 (pc + 4) = .ok (.ldc is, 2)) (d6 : decode M.2.1 (pc + 6) = .ok (.invokespecial ic, 3)) (d9 : decode M.2.1 (pc + 9) = .ok (.athrow, 1)) (hst : st.length ≤ 4) : V M D (d + 1) S0 (cvT z) pc ls st S := by
  unfold xthrow at h
  split at h
  case isFalse => cases h
  rename_i hl
  cases h
  exact x_throw0 hE hl.1 hl.2 hh hcls hw1 hw2 hw3 hw4 d0 d3 d4 d6 d9 hst
theorem x_throwV {ec ik is ic : Nat} {cls text : String} {z : (Unit ⊕ Nat) × xS} (h : xthrow d ec S = some z) (hE : xE ec = cls) (hh : M.2.2.2.2 = []) (hcls : Bundle.fit cls = true)
    (hw1 : Cond.classLink M.1.cls ik cls ∈ xT) (hw2 : Cond.initialized cls ∈ xT) (hw3 : Cond.stringRef M.1.cls is text ∈ xT) (hw4 : ∀ w ∈ vx_atS M.1.cls ic cls ["java/lang/RuntimeException", "java/lang/Exception"], w ∈ xT)
    (d0 : decode M.2.1 pc = .ok (.new ik, 3)) (d3 : decode M.2.1 (pc + 3) = .ok (.dup, 1)) (d4 : decode M.2.1 (pc + 4) = .ok (.ldc is, 2)) (d6 : decode M.2.1 (pc + 6) = .ok (.invokespecial ic, 3)) (d9 : decode M.2.1 (pc + 9) = .ok (.athrow, 1)) (hst : st.length ≤ 4) : V M D (d + 1) S0 (cvU z) pc ls st S := by
  unfold xthrow at h
  split at h
  case isFalse => cases h
  rename_i hl
  cases h
  exact x_throw0 hE hl.1 hl.2 hh hcls hw1 hw2 hw3 hw4 d0 d3 d4 d6 d9 hst
theorem xatS_in {L : List Cond} (h : L.all (fun w => decide (w ∈ lw_tbl) && xGood w) = true) : ∀ w ∈ L, w ∈ xT := by
  intro w hw
  have h1 := List.all_eq_true.mp h w hw
  simp only [Bool.and_eq_true, decide_eq_true_eq] at h1
  exact xT_in h1.1 h1.2
end XMORE
end
section
theorem hc_0 : xCl[0]? = some ("PieceTexts", TX_0, 4) := rfl
theorem hi_0 : ∀ w ∈ u_ws "PieceTexts" TX_0 4, w ∈ xT := xatS_in (by decide +kernel)
theorem ht_0 : ∀ k, k < 4 → parseFieldDescriptor (TX_0 k).2.2.1 = some (tyX_0 k) := by decide +kernel
theorem hn_0 : ∀ a, a < 4 → ∀ b, b < 4 → a ≠ b → (TX_0 a).2.1 ≠ (TX_0 b).2.1 := by decide +kernel
theorem hdf_0 : ∀ j, j < 4 → defaultValue (tyX_0 j) = vp_V [.null, .int 0, .null, .null] j := fun j hj => by
  rcases (show j = 0 ∨ j = 1 ∨ j = 2 ∨ j = 3 by omega) with rfl | rfl | rfl | rfl <;> rfl
theorem hc_1 : xCl[1]? = some ("PieceTexts$Halves", TX_1, 2) := rfl
theorem hi_1 : ∀ w ∈ u_ws "PieceTexts$Halves" TX_1 2, w ∈ xT := xatS_in (by decide +kernel)
theorem ht_1 : ∀ k, k < 2 → parseFieldDescriptor (TX_1 k).2.2.1 = some (tyX_1 k) := by decide +kernel
theorem hn_1 : ∀ a, a < 2 → ∀ b, b < 2 → a ≠ b → (TX_1 a).2.1 ≠ (TX_1 b).2.1 := by decide +kernel
theorem hdf_1 : ∀ j, j < 2 → defaultValue (tyX_1 j) = vp_V [.null, .null] j := fun j hj => by
  rcases (show j = 0 ∨ j = 1 by omega) with rfl | rfl <;> rfl
theorem hc_2 : xCl[2]? = some ("PieceTexts$Piece", TX_2, 8) := rfl
theorem hi_2 : ∀ w ∈ u_ws "PieceTexts$Piece" TX_2 8, w ∈ xT := xatS_in (by decide +kernel)
theorem ht_2 : ∀ k, k < 8 → parseFieldDescriptor (TX_2 k).2.2.1 = some (tyX_2 k) := by decide +kernel
theorem hn_2 : ∀ a, a < 8 → ∀ b, b < 8 → a ≠ b → (TX_2 a).2.1 ≠ (TX_2 b).2.1 := by decide +kernel
theorem hdf_2 : ∀ j, j < 8 → defaultValue (tyX_2 j) = vp_V [.int 0, .int 0, .int 0, .null, .null, .int 0, .int 0, .int 0] j := fun j hj => by
  rcases (show j = 0 ∨ j = 1 ∨ j = 2 ∨ j = 3 ∨ j = 4 ∨ j = 5 ∨ j = 6 ∨ j = 7 by omega) with rfl | rfl | rfl | rfl | rfl | rfl | rfl | rfl <;> rfl
theorem hc_3 : xCl[3]? = some ("PieceTexts$Reader", TX_3, 4) := rfl
theorem hi_3 : ∀ w ∈ u_ws "PieceTexts$Reader" TX_3 4, w ∈ xT := xatS_in (by decide +kernel)
theorem ht_3 : ∀ k, k < 4 → parseFieldDescriptor (TX_3 k).2.2.1 = some (tyX_3 k) := by decide +kernel
theorem hn_3 : ∀ a, a < 4 → ∀ b, b < 4 → a ≠ b → (TX_3 a).2.1 ≠ (TX_3 b).2.1 := by decide +kernel
theorem hdf_3 : ∀ j, j < 4 → defaultValue (tyX_3 j) = vp_V [.null, .int 0, .null, .int 0] j := fun j hj => by
  rcases (show j = 0 ∨ j = 1 ∨ j = 2 ∨ j = 3 by omega) with rfl | rfl | rfl | rfl <;> rfl
theorem hc_4 : xCl[4]? = some ("PieceTexts$Trees", TX_4, 1) := rfl
theorem hi_4 : ∀ w ∈ u_ws "PieceTexts$Trees" TX_4 1, w ∈ xT := xatS_in (by decide +kernel)
theorem ht_4 : ∀ k, k < 1 → parseFieldDescriptor (TX_4 k).2.2.1 = some (tyX_4 k) := by decide +kernel
theorem hn_4 : ∀ a, a < 1 → ∀ b, b < 1 → a ≠ b → (TX_4 a).2.1 ≠ (TX_4 b).2.1 := by decide +kernel
theorem hdf_4 : ∀ j, j < 1 → defaultValue (tyX_4 j) = vp_V [.null] j := fun j hj => by
  rcases (show j = 0 by omega) with rfl <;> rfl
theorem hc_5 : xCl[5]? = some ("PieceTextsModel", TX_5, 8) := rfl
theorem hi_5 : ∀ w ∈ u_ws "PieceTextsModel" TX_5 8, w ∈ xT := xatS_in (by decide +kernel)
theorem ht_5 : ∀ k, k < 8 → parseFieldDescriptor (TX_5 k).2.2.1 = some (tyX_5 k) := by decide +kernel
theorem hn_5 : ∀ a, a < 8 → ∀ b, b < 8 → a ≠ b → (TX_5 a).2.1 ≠ (TX_5 b).2.1 := by decide +kernel
theorem hdf_5 : ∀ j, j < 8 → defaultValue (tyX_5 j) = vp_V [.int 0, .int 0, .null, .null, .null, .null, .null, .null] j := fun j hj => by
  rcases (show j = 0 ∨ j = 1 ∨ j = 2 ∨ j = 3 ∨ j = 4 ∨ j = 5 ∨ j = 6 ∨ j = 7 by omega) with rfl | rfl | rfl | rfl | rfl | rfl | rfl | rfl <;> rfl
theorem ha_0 : xAT[0]? = some (.byte) := rfl
theorem ha_1 : xAT[1]? = some (.long) := rfl
theorem ha_2 : xAT[2]? = some (.object "PieceTexts$Piece") := rfl
theorem ha_3 : xAT[3]? = some (.int) := rfl
abbrev m_T_init : xM := (⟨"PieceTexts$Trees", "<init>", "()V"⟩, prog_7_method_1_code, 1, none, [])
abbrev m_P_init : xM := (⟨"PieceTexts", "<init>", "()V"⟩, prog_1_method_1_code, 1, none, [])
abbrev m_P_append : xM := (⟨"PieceTexts", "append", "(B)V"⟩, prog_1_method_16_code, 2, none, [])
abbrev m_P_bytesOf : xM := (⟨"PieceTexts", "bytesOf", "(J)I"⟩, prog_1_method_15_code, 3, some (.int), [])
abbrev m_P_write : xM := (⟨"PieceTexts", "write", "(J)I"⟩, prog_1_method_2_code, 6, some (.int), [])
abbrev m_R_charactersOf : xM := (⟨"PieceTexts$Row", "charactersOf", "(LPieceTexts$Piece;)I"⟩, prog_5_method_4_code, 1, some (.int), [])
abbrev m_P_become : xM := (⟨"PieceTexts", "become", "(ILPieceTexts$Piece;)I"⟩, prog_1_method_20_code, 3, some (.int), [])
abbrev m_P_isText : xM := (⟨"PieceTexts", "isText", "(I)Z"⟩, prog_1_method_18_code, 2, some (.boolean), [])
abbrev m_P_demandText : xM := (⟨"PieceTexts", "demandText", "(I)V"⟩, prog_1_method_24_code, 2, none, [])
abbrev m_P_rootOf : xM := (⟨"PieceTexts", "rootOf", "(I)LPieceTexts$Piece;"⟩, prog_1_method_19_code, 2, some (.object "PieceTexts$Piece"), [])
abbrev m_P_demandEdge : xM := (⟨"PieceTexts", "demandEdge", "(II)V"⟩, prog_1_method_25_code, 3, none, [])
abbrev m_P_charactersInAll : xM := (⟨"PieceTexts", "charactersInAll", "()I"⟩, prog_1_method_21_code, 6, some (.int), [])
abbrev m_R_piecesOf : xM := (⟨"PieceTexts$Row", "piecesOf", "(LPieceTexts$Piece;)I"⟩, prog_5_method_3_code, 1, some (.int), [])
abbrev m_P_piecesInAll : xM := (⟨"PieceTexts", "piecesInAll", "()I"⟩, prog_1_method_22_code, 6, some (.int), [])
abbrev m_P_demandRoom : xM := (⟨"PieceTexts", "demandRoom", "(II)V"⟩, prog_1_method_28_code, 3, none, [])
abbrev m_R_orderAt : xM := (⟨"PieceTexts$Row", "orderAt", "(LPieceTexts$Piece;I)I"⟩, prog_5_method_5_code, 6, some (.int), [])
abbrev m_Y_before : xM := (⟨"PieceTexts$Tally", "before", "(LPieceTexts$Piece;I)I"⟩, prog_6_method_8_code, 2, some (.int), [])
abbrev m_Y_behind : xM := (⟨"PieceTexts$Tally", "behind", "(LPieceTexts$Piece;I)I"⟩, prog_6_method_9_code, 2, some (.int), [])
abbrev m_R_numbered : xM := (⟨"PieceTexts$Row", "numbered", "(LPieceTexts$Piece;I)LPieceTexts$Piece;"⟩, prog_5_method_6_code, 5, some (.object "PieceTexts$Piece"), [])
abbrev m_R_startOf : xM := (⟨"PieceTexts$Row", "startOf", "(LPieceTexts$Piece;I)I"⟩, prog_5_method_7_code, 6, some (.int), [])
abbrev m_R_sourceAt : xM := (⟨"PieceTexts$Row", "sourceAt", "(LPieceTexts$Piece;I)I"⟩, prog_5_method_8_code, 4, some (.int), [])
abbrev m_R_tagAt : xM := (⟨"PieceTexts$Row", "tagAt", "(LPieceTexts$Piece;I)I"⟩, prog_5_method_9_code, 3, some (.int), [])
abbrev m_Y_meldsLeft : xM := (⟨"PieceTexts$Tally", "meldsLeft", "(LPieceTexts$Piece;III)I"⟩, prog_6_method_10_code, 4, some (.int), [])
abbrev m_Y_meldsRight : xM := (⟨"PieceTexts$Tally", "meldsRight", "(LPieceTexts$Piece;III)I"⟩, prog_6_method_11_code, 4, some (.int), [])
abbrev m_Y_afterPut : xM := (⟨"PieceTexts$Tally", "afterPut", "(LPieceTexts$Piece;IIII)I"⟩, prog_6_method_2_code, 5, some (.int), [])
abbrev m_T_firstOf : xM := (⟨"PieceTexts$Trees", "firstOf", "(LPieceTexts$Piece;)LPieceTexts$Piece;"⟩, prog_7_method_11_code, 3, some (.object "PieceTexts$Piece"), [])
abbrev m_T_giveBack : xM := (⟨"PieceTexts$Trees", "giveBack", "(LPieceTexts$Piece;)V"⟩, prog_7_method_3_code, 2, none, [])
abbrev m_R_heightOf : xM := (⟨"PieceTexts$Row", "heightOf", "(LPieceTexts$Piece;)I"⟩, prog_5_method_2_code, 1, some (.int), [])
abbrev m_T_sum : xM := (⟨"PieceTexts$Trees", "sum", "(LPieceTexts$Piece;)V"⟩, prog_7_method_19_code, 6, none, [])
abbrev m_T_raiseLeft : xM := (⟨"PieceTexts$Trees", "raiseLeft", "(LPieceTexts$Piece;)LPieceTexts$Piece;"⟩, prog_7_method_17_code, 2, some (.object "PieceTexts$Piece"), [])
abbrev m_T_raiseRight : xM := (⟨"PieceTexts$Trees", "raiseRight", "(LPieceTexts$Piece;)LPieceTexts$Piece;"⟩, prog_7_method_18_code, 2, some (.object "PieceTexts$Piece"), [])
abbrev m_T_balance : xM := (⟨"PieceTexts$Trees", "balance", "(LPieceTexts$Piece;)LPieceTexts$Piece;"⟩, prog_7_method_16_code, 4, some (.object "PieceTexts$Piece"), [])
abbrev m_T_join : xM := (⟨"PieceTexts$Trees", "join", "(LPieceTexts$Piece;LPieceTexts$Piece;LPieceTexts$Piece;I)LPieceTexts$Piece;"⟩, prog_7_method_15_code, 5, some (.object "PieceTexts$Piece"), [])
abbrev m_T_lastOf : xM := (⟨"PieceTexts$Trees", "lastOf", "(LPieceTexts$Piece;)LPieceTexts$Piece;"⟩, prog_7_method_12_code, 3, some (.object "PieceTexts$Piece"), [])
abbrev m_T_withoutFirst : xM := (⟨"PieceTexts$Trees", "withoutFirst", "(LPieceTexts$Piece;I)LPieceTexts$Piece;"⟩, prog_7_method_13_code, 2, some (.object "PieceTexts$Piece"), [])
abbrev m_T_withoutLast : xM := (⟨"PieceTexts$Trees", "withoutLast", "(LPieceTexts$Piece;I)LPieceTexts$Piece;"⟩, prog_7_method_14_code, 2, some (.object "PieceTexts$Piece"), [])
abbrev m_T_meet : xM := (⟨"PieceTexts$Trees", "meet", "(LPieceTexts$Piece;LPieceTexts$Piece;)LPieceTexts$Piece;"⟩, prog_7_method_7_code, 6, some (.object "PieceTexts$Piece"), [])
abbrev m_H_init : xM := (⟨"PieceTexts$Halves", "<init>", "()V"⟩, prog_2_method_1_code, 1, none, [])
abbrev m_N_init : xM := (⟨"PieceTexts$Piece", "<init>", "()V"⟩, prog_3_method_1_code, 1, none, [])
abbrev m_T_alone : xM := (⟨"PieceTexts$Trees", "alone", "(LPieceTexts$Piece;)LPieceTexts$Piece;"⟩, prog_7_method_10_code, 1, some (.object "PieceTexts$Piece"), [])
abbrev m_T_take : xM := (⟨"PieceTexts$Trees", "take", "(III)LPieceTexts$Piece;"⟩, prog_7_method_2_code, 5, some (.object "PieceTexts$Piece"), [])
abbrev m_T_partInto : xM := (⟨"PieceTexts$Trees", "partInto", "(LPieceTexts$Halves;LPieceTexts$Piece;II)V"⟩, prog_7_method_6_code, 9, none, [])
abbrev m_T_part : xM := (⟨"PieceTexts$Trees", "part", "(LPieceTexts$Piece;I)LPieceTexts$Halves;"⟩, prog_7_method_5_code, 4, some (.object "PieceTexts$Halves"), [])
abbrev m_P_put : xM := (⟨"PieceTexts", "put", "(IIIII)I"⟩, prog_1_method_3_code, 9, some (.int), [])
abbrev m_P_demandFree : xM := (⟨"PieceTexts", "demandFree", "(II)V"⟩, prog_1_method_27_code, 3, none, [])
abbrev m_P_demandRange : xM := (⟨"PieceTexts", "demandRange", "(III)V"⟩, prog_1_method_26_code, 4, none, [])
abbrev m_Y_afterCut : xM := (⟨"PieceTexts$Tally", "afterCut", "(LPieceTexts$Piece;II)I"⟩, prog_6_method_3_code, 5, some (.int), [])
abbrev m_Y_within : xM := (⟨"PieceTexts$Tally", "within", "(LPieceTexts$Piece;II)I"⟩, prog_6_method_6_code, 3, some (.int), [])
abbrev m_P_cut : xM := (⟨"PieceTexts", "cut", "(IIII)I"⟩, prog_1_method_4_code, 8, some (.int), [])
abbrev m_Y_afterPaste : xM := (⟨"PieceTexts$Tally", "afterPaste", "(LPieceTexts$Piece;ILPieceTexts$Piece;)I"⟩, prog_6_method_4_code, 4, some (.int), [])
abbrev m_P_paste : xM := (⟨"PieceTexts", "paste", "(III)I"⟩, prog_1_method_5_code, 7, some (.int), [])
abbrev m_T_twin : xM := (⟨"PieceTexts$Trees", "twin", "(LPieceTexts$Piece;III)LPieceTexts$Piece;"⟩, prog_7_method_8_code, 11, some (.object "PieceTexts$Piece"), [])
abbrev m_P_copy : xM := (⟨"PieceTexts", "copy", "(IIII)I"⟩, prog_1_method_6_code, 6, some (.int), [])
abbrev m_Y_tagged : xM := (⟨"PieceTexts$Tally", "tagged", "(III)I"⟩, prog_6_method_12_code, 3, some (.int), [])
abbrev m_Y_withinTagged : xM := (⟨"PieceTexts$Tally", "withinTagged", "(LPieceTexts$Piece;IIII)I"⟩, prog_6_method_7_code, 11, some (.int), [])
abbrev m_Y_afterTag : xM := (⟨"PieceTexts$Tally", "afterTag", "(LPieceTexts$Piece;IIII)I"⟩, prog_6_method_5_code, 8, some (.int), [])
abbrev m_T_retag : xM := (⟨"PieceTexts$Trees", "retag", "(LPieceTexts$Piece;III)LPieceTexts$Piece;"⟩, prog_7_method_9_code, 7, some (.object "PieceTexts$Piece"), [])
abbrev m_P_tag : xM := (⟨"PieceTexts", "tag", "(IIIII)I"⟩, prog_1_method_7_code, 10, some (.int), [])
abbrev m_T_giveBackAll : xM := (⟨"PieceTexts$Trees", "giveBackAll", "(LPieceTexts$Piece;I)V"⟩, prog_7_method_4_code, 3, none, [])
abbrev m_P_wipe : xM := (⟨"PieceTexts", "wipe", "(I)I"⟩, prog_1_method_8_code, 4, some (.int), [])
abbrev m_P_length : xM := (⟨"PieceTexts", "length", "(I)I"⟩, prog_1_method_9_code, 2, some (.int), [])
abbrev m_P_byteAt : xM := (⟨"PieceTexts", "byteAt", "(I)I"⟩, prog_1_method_17_code, 2, some (.int), [])
abbrev m_P_look : xM := (⟨"PieceTexts", "look", "(III)I"⟩, prog_1_method_10_code, 5, some (.int), [])
abbrev m_P_piece : xM := (⟨"PieceTexts", "piece", "(III)I"⟩, prog_1_method_11_code, 6, some (.int), [])
abbrev m_D_init : xM := (⟨"PieceTexts$Reader", "<init>", "(LPieceTexts$Piece;I)V"⟩, prog_4_method_1_code, 3, none, [])
abbrev m_D_nextSource : xM := (⟨"PieceTexts$Reader", "nextSource", "()I"⟩, prog_4_method_2_code, 2, some (.int), [])
abbrev m_P_find : xM := (⟨"PieceTexts", "find", "(III)I"⟩, prog_1_method_12_code, 8, some (.int), [])
abbrev m_P_differ : xM := (⟨"PieceTexts", "differ", "(II)I"⟩, prog_1_method_13_code, 7, some (.int), [])
abbrev m_R_isShallow : xM := (⟨"PieceTexts$Row", "isShallow", "(LPieceTexts$Piece;)Z"⟩, prog_5_method_10_code, 4, some (.boolean), [])
abbrev m_P_allShallow : xM := (⟨"PieceTexts", "allShallow", "()Z"⟩, prog_1_method_23_code, 5, some (.boolean), [])
abbrev m_P_count : xM := (⟨"PieceTexts", "count", "(I)I"⟩, prog_1_method_14_code, 2, some (.int), [])
abbrev m_M_init : xM := (⟨"PieceTextsModel", "<init>", "()V"⟩, prog_9_method_1_code, 1, none, [])
abbrev m_M_thrown : xM := (⟨"PieceTextsModel", "thrown", "()I"⟩, prog_9_method_2_code, 1, some (.int), [])
abbrev m_M_raise : xM := (⟨"PieceTextsModel", "raise", "(I)I"⟩, prog_9_method_3_code, 2, some (.int), [])
abbrev m_M_isText : xM := (⟨"PieceTextsModel", "isText", "(I)Z"⟩, prog_9_method_4_code, 1, some (.boolean), [])
abbrev m_M_size : xM := (⟨"PieceTextsModel", "size", "(I)I"⟩, prog_9_method_5_code, 2, some (.int), [])
abbrev m_M_isPlace : xM := (⟨"PieceTextsModel", "isPlace", "(II)Z"⟩, prog_9_method_6_code, 3, some (.boolean), [])
abbrev m_M_isRange : xM := (⟨"PieceTextsModel", "isRange", "(III)Z"⟩, prog_9_method_7_code, 4, some (.boolean), [])
abbrev m_M_write : xM := (⟨"PieceTextsModel", "write", "(J)I"⟩, prog_9_method_8_code, 5, some (.int), [])
abbrev m_M_keep : xM := (⟨"PieceTextsModel", "keep", "(III)V"⟩, prog_9_method_9_code, 5, none, [])
abbrev m_M_remove : xM := (⟨"PieceTextsModel", "remove", "(III)V"⟩, prog_9_method_10_code, 5, none, [])
abbrev m_M_insert : xM := (⟨"PieceTextsModel", "insert", "(III)V"⟩, prog_9_method_11_code, 6, none, [])
abbrev m_M_parts : xM := (⟨"PieceTextsModel", "parts", "(II)Z"⟩, prog_9_method_12_code, 3, some (.boolean), [])
abbrev m_M_pieces : xM := (⟨"PieceTextsModel", "pieces", "(I)I"⟩, prog_9_method_13_code, 4, some (.int), [])
abbrev m_M_allPieces : xM := (⟨"PieceTextsModel", "allPieces", "()I"⟩, prog_9_method_14_code, 3, some (.int), [])
abbrev m_M_put : xM := (⟨"PieceTextsModel", "put", "(IIIII)I"⟩, prog_9_method_15_code, 7, some (.int), [])
abbrev m_M_cut : xM := (⟨"PieceTextsModel", "cut", "(IIII)I"⟩, prog_9_method_16_code, 5, some (.int), [])
abbrev m_M_paste : xM := (⟨"PieceTextsModel", "paste", "(III)I"⟩, prog_9_method_17_code, 5, some (.int), [])
abbrev m_M_copy : xM := (⟨"PieceTextsModel", "copy", "(IIII)I"⟩, prog_9_method_18_code, 5, some (.int), [])
abbrev m_M_tag : xM := (⟨"PieceTextsModel", "tag", "(IIIII)I"⟩, prog_9_method_19_code, 8, some (.int), [])
abbrev m_M_wipe : xM := (⟨"PieceTextsModel", "wipe", "(I)I"⟩, prog_9_method_20_code, 3, some (.int), [])
abbrev m_M_length : xM := (⟨"PieceTextsModel", "length", "(I)I"⟩, prog_9_method_21_code, 2, some (.int), [])
abbrev m_M_look : xM := (⟨"PieceTextsModel", "look", "(III)I"⟩, prog_9_method_22_code, 7, some (.int), [])
abbrev m_M_piece : xM := (⟨"PieceTextsModel", "piece", "(III)I"⟩, prog_9_method_23_code, 7, some (.int), [])
abbrev m_M_find : xM := (⟨"PieceTextsModel", "find", "(III)I"⟩, prog_9_method_24_code, 5, some (.int), [])
abbrev m_M_differ : xM := (⟨"PieceTextsModel", "differ", "(II)I"⟩, prog_9_method_25_code, 4, some (.int), [])
abbrev m_M_count : xM := (⟨"PieceTextsModel", "count", "(I)I"⟩, prog_9_method_26_code, 2, some (.int), [])
abbrev m_L_write : xM := (⟨"PieceTextsLaw", "write", "(LPieceTexts;J[J)I"⟩, method_3_code, 5, some (.int), [(0, 9, 12, 13), (0, 9, 16, 15)])
abbrev m_L_put : xM := (⟨"PieceTextsLaw", "put", "(LPieceTexts;IIIII[J)I"⟩, method_4_code, 8, some (.int), [(0, 16, 19, 21), (0, 16, 23, 15)])
abbrev m_L_cut : xM := (⟨"PieceTextsLaw", "cut", "(LPieceTexts;IIII[J)I"⟩, method_5_code, 7, some (.int), [(0, 14, 17, 21), (0, 14, 21, 13), (0, 14, 25, 15)])
abbrev m_L_paste : xM := (⟨"PieceTextsLaw", "paste", "(LPieceTexts;III[J)I"⟩, method_6_code, 6, some (.int), [(0, 12, 15, 21), (0, 12, 19, 13), (0, 12, 23, 15)])
abbrev m_L_copy : xM := (⟨"PieceTextsLaw", "copy", "(LPieceTexts;IIII[J)I"⟩, method_7_code, 7, some (.int), [(0, 14, 17, 21), (0, 14, 21, 13), (0, 14, 25, 15)])
abbrev m_L_tag : xM := (⟨"PieceTextsLaw", "tag", "(LPieceTexts;IIIII[J)I"⟩, method_8_code, 8, some (.int), [(0, 16, 19, 21), (0, 16, 23, 15)])
abbrev m_L_wipe : xM := (⟨"PieceTextsLaw", "wipe", "(LPieceTexts;I[J)I"⟩, method_9_code, 4, some (.int), [(0, 9, 12, 21)])
abbrev m_L_look : xM := (⟨"PieceTextsLaw", "look", "(LPieceTexts;III[J)I"⟩, method_10_code, 6, some (.int), [(0, 12, 15, 21), (0, 12, 19, 13)])
abbrev m_L_piece : xM := (⟨"PieceTextsLaw", "piece", "(LPieceTexts;III[J)I"⟩, method_11_code, 6, some (.int), [(0, 12, 15, 21), (0, 12, 19, 13)])
abbrev m_L_find : xM := (⟨"PieceTextsLaw", "find", "(LPieceTexts;III[J)I"⟩, method_12_code, 6, some (.int), [(0, 12, 15, 21)])
abbrev m_L_differ : xM := (⟨"PieceTextsLaw", "differ", "(LPieceTexts;II[J)I"⟩, method_13_code, 5, some (.int), [(0, 10, 13, 21)])
abbrev m_L_law : xM := (⟨"PieceTextsLaw", "law", "([I)Z"⟩, code, 7, some (.boolean), [])
set_option maxRecDepth 20000 in
theorem w_objI : Cond.instanceMethod objectInit ∈ xT := xT_in (List.mem_append_right _ (List.mem_of_getElem? (i := 22) rfl)) rfl
set_option maxRecDepth 20000 in
theorem w_objC : Cond.code objectInit ⟨#[0xb1]⟩ 1 none ∈ xT := xT_in (List.mem_append_right _ (List.mem_of_getElem? (i := 23) rfl)) rfl
set_option maxRecDepth 20000 in
theorem wO_T_3 : Cond.methodLink "PieceTexts$Trees" 3 objectInit ∈ xT := xT_in (List.mem_append_right _ (List.mem_of_getElem? (i := 31) rfl)) rfl
set_option maxRecDepth 20000 in
theorem wf_P_22p : Cond.fieldLink "PieceTexts" 22 (TX_0 3).1 (TX_0 3).2.1 (TX_0 3).2.2.1 ∈ xT := xT_in (List.mem_append_right _ (List.mem_of_getElem? (i := 40) rfl)) rfl
set_option maxRecDepth 20000 in
theorem wm_P_21 : xml "PieceTexts" 21 m_T_init.1 (some "PieceTexts") ∈ xT := xT_in (List.mem_append_right _ (List.mem_of_getElem? (i := 28) rfl)) rfl
set_option maxRecDepth 20000 in
theorem wi_T : Cond.initialized "PieceTexts$Trees" ∈ xT := xT_in (List.mem_append_right _ (List.mem_of_getElem? (i := 2) rfl)) rfl
set_option maxRecDepth 20000 in
theorem wx_T_init : xcode m_T_init ∈ xT := xT_in (List.mem_append_right _ (List.mem_of_getElem? (i := 30) rfl)) rfl
set_option maxRecDepth 20000 in
theorem wv_T_init : Cond.instanceMethod m_T_init.1 ∈ xT := xT_in (List.mem_append_right _ (List.mem_of_getElem? (i := 29) rfl)) rfl
theorem wc_T_init : xwI m_T_init 0 := ⟨wv_T_init, rfl, ⟨_, _, rfl⟩, wi_T, wx_T_init, ⟨by decide, by decide⟩, by decide +kernel, by decide⟩
set_option maxRecDepth 20000 in
theorem wk_P_19 : Cond.classLink "PieceTexts" 19 "PieceTexts$Trees" ∈ xT := xT_in (List.mem_append_right _ (List.mem_of_getElem? (i := 26) rfl)) rfl
set_option maxRecDepth 20000 in
theorem wn_4 : Cond.instantiable "PieceTexts$Trees" 1 ∈ xT := xT_in (List.mem_append_right _ (List.mem_of_getElem? (i := 27) rfl)) rfl
set_option maxRecDepth 20000 in
theorem wf_P_15p : Cond.fieldLink "PieceTexts" 15 (TX_0 2).1 (TX_0 2).2.1 (TX_0 2).2.2.1 ∈ xT := xT_in (List.mem_append_right _ (List.mem_of_getElem? (i := 39) rfl)) rfl
set_option maxRecDepth 20000 in
theorem wk_P_13 : Cond.classLink "PieceTexts" 13 "PieceTexts$Piece" ∈ xT := xT_in (List.mem_append_right _ (List.mem_of_getElem? (i := 24) rfl)) rfl
set_option maxRecDepth 20000 in
theorem wo_2 : Cond.arrayOver (.object "PieceTexts$Piece") ∈ xT := xT_in (List.mem_append_right _ (List.mem_of_getElem? (i := 25) rfl)) rfl
set_option maxRecDepth 20000 in
theorem wf_P_9p : Cond.fieldLink "PieceTexts" 9 (TX_0 0).1 (TX_0 0).2.1 (TX_0 0).2.2.1 ∈ xT := xT_in (List.mem_append_right _ (List.mem_of_getElem? (i := 37) rfl)) rfl
set_option maxRecDepth 20000 in
theorem wa_0 : Cond.arrayClass .byte ∈ xT := xT_in (List.mem_append_right _ (List.mem_of_getElem? (i := 36) rfl)) rfl
set_option maxRecDepth 20000 in
theorem wO_P_1 : Cond.methodLink "PieceTexts" 1 objectInit ∈ xT := xT_in (List.mem_append_right _ (List.mem_of_getElem? (i := 21) rfl)) rfl
set_option maxRecDepth 20000 in
theorem wf_P_37 : xfl "PieceTexts" 37 (TX_0 1) none ∈ xT := xT_in (List.mem_append_right _ (List.mem_of_getElem? (i := 38) rfl)) rfl
set_option maxRecDepth 20000 in
theorem wf_P_9 : xfl "PieceTexts" 9 (TX_0 0) none ∈ xT := xT_in (List.mem_append_right _ (List.mem_of_getElem? (i := 37) rfl)) rfl
set_option maxRecDepth 20000 in
theorem wl_P_210 : Cond.constantLong "PieceTexts" 210 255 ∈ xT := xT_in (List.mem_append_right _ (List.mem_of_getElem? (i := 103) rfl)) rfl
set_option maxRecDepth 20000 in
theorem wk_P_41 : Cond.classLink "PieceTexts" 41 "java/lang/IllegalStateException" ∈ xT := xT_in (List.mem_append_right _ (List.mem_of_getElem? (i := 171) rfl)) rfl
set_option maxRecDepth 20000 in
theorem wi_IllegalStateException : Cond.initialized "java/lang/IllegalStateException" ∈ xT := xT_in (List.mem_append_right _ (List.mem_of_getElem? (i := 8) rfl)) rfl
set_option maxRecDepth 20000 in
theorem wt_P_43 : Cond.stringRef "PieceTexts" 43 "too many bytes" ∈ xT := xT_in (List.mem_append_right _ (List.mem_of_getElem? (i := 180) rfl)) rfl
set_option maxRecDepth 20000 in
theorem wj_P_45 : ∀ w ∈ vx_atS "PieceTexts" 45 "java/lang/IllegalStateException" ["java/lang/RuntimeException", "java/lang/Exception"], w ∈ xT := xatS_in (by decide +kernel)
set_option maxRecDepth 20000 in
theorem wk_P_30 : Cond.classLink "PieceTexts" 30 "java/lang/IllegalArgumentException" ∈ xT := xT_in (List.mem_append_right _ (List.mem_of_getElem? (i := 104) rfl)) rfl
set_option maxRecDepth 20000 in
theorem wi_IllegalArgumentException : Cond.initialized "java/lang/IllegalArgumentException" ∈ xT := xT_in (List.mem_append_right _ (List.mem_of_getElem? (i := 7) rfl)) rfl
set_option maxRecDepth 20000 in
theorem wt_P_32 : Cond.stringRef "PieceTexts" 32 "the lowest byte is 0" ∈ xT := xT_in (List.mem_append_right _ (List.mem_of_getElem? (i := 145) rfl)) rfl
set_option maxRecDepth 20000 in
theorem wj_P_34 : ∀ w ∈ vx_atS "PieceTexts" 34 "java/lang/IllegalArgumentException" ["java/lang/RuntimeException", "java/lang/Exception"], w ∈ xT := xatS_in (by decide +kernel)
set_option maxRecDepth 20000 in
theorem wm_P_26 : xml "PieceTexts" 26 m_P_bytesOf.1 none ∈ xT := xT_in (List.mem_append_right _ (List.mem_of_getElem? (i := 100) rfl)) rfl
set_option maxRecDepth 20000 in
theorem wi_P : Cond.initialized "PieceTexts" ∈ xT := xT_in (List.mem_append_right _ (List.mem_of_getElem? (i := 1) rfl)) rfl
set_option maxRecDepth 20000 in
theorem wx_P_bytesOf : xcode m_P_bytesOf ∈ xT := xT_in (List.mem_append_right _ (List.mem_of_getElem? (i := 102) rfl)) rfl
set_option maxRecDepth 20000 in
theorem ws_P_bytesOf : Cond.static m_P_bytesOf.1 ∈ xT := xT_in (List.mem_append_right _ (List.mem_of_getElem? (i := 101) rfl)) rfl
theorem wc_P_bytesOf : xwS m_P_bytesOf 1 := ⟨ws_P_bytesOf, wi_P, wx_P_bytesOf, ⟨by decide, by decide⟩, by decide +kernel, by decide⟩
set_option maxRecDepth 20000 in
theorem wm_P_46 : xml "PieceTexts" 46 m_P_append.1 none ∈ xT := xT_in (List.mem_append_right _ (List.mem_of_getElem? (i := 187) rfl)) rfl
set_option maxRecDepth 20000 in
theorem wx_P_append : xcode m_P_append ∈ xT := xT_in (List.mem_append_right _ (List.mem_of_getElem? (i := 190) rfl)) rfl
set_option maxRecDepth 20000 in
theorem wv_P_append : Cond.instanceMethod m_P_append.1 ∈ xT := xT_in (List.mem_append_right _ (List.mem_of_getElem? (i := 189) rfl)) rfl
set_option maxRecDepth 20000 in
theorem wz_P_append : Cond.selects "PieceTexts" m_P_append.1 m_P_append.1 ∈ xT := xT_in (List.mem_append_left _ (List.mem_of_getElem? (i := 6) rfl)) rfl
theorem wc_P_append : xwV m_P_append "PieceTexts" 1 := ⟨wv_P_append, wz_P_append, wi_P, wx_P_append, ⟨by decide, by decide⟩, by decide +kernel, by decide⟩
set_option maxRecDepth 20000 in
theorem wf_R_18 : xfl "PieceTexts$Row" 18 (TX_2 7) (some "PieceTexts") ∈ xT := xT_in (List.mem_append_right _ (List.mem_of_getElem? (i := 340) rfl)) rfl
set_option maxRecDepth 20000 in
theorem wf_P_15 : xfl "PieceTexts" 15 (TX_0 2) none ∈ xT := xT_in (List.mem_append_right _ (List.mem_of_getElem? (i := 39) rfl)) rfl
set_option maxRecDepth 20000 in
theorem wm_P_137 : xml "PieceTexts" 137 m_R_charactersOf.1 (some "PieceTexts") ∈ xT := xT_in (List.mem_append_right _ (List.mem_of_getElem? (i := 62) rfl)) rfl
set_option maxRecDepth 20000 in
theorem wi_R : Cond.initialized "PieceTexts$Row" ∈ xT := xT_in (List.mem_append_right _ (List.mem_of_getElem? (i := 10) rfl)) rfl
set_option maxRecDepth 20000 in
theorem wx_R_charactersOf : xcode m_R_charactersOf ∈ xT := xT_in (List.mem_append_right _ (List.mem_of_getElem? (i := 64) rfl)) rfl
set_option maxRecDepth 20000 in
theorem ws_R_charactersOf : Cond.static m_R_charactersOf.1 ∈ xT := xT_in (List.mem_append_right _ (List.mem_of_getElem? (i := 63) rfl)) rfl
theorem wc_R_charactersOf : xwS m_R_charactersOf 1 := ⟨ws_R_charactersOf, wi_R, wx_R_charactersOf, ⟨by decide, by decide⟩, by decide +kernel, by decide⟩
set_option maxRecDepth 20000 in
theorem wk_P_54 : Cond.classLink "PieceTexts" 54 "java/lang/IndexOutOfBoundsException" ∈ xT := xT_in (List.mem_append_right _ (List.mem_of_getElem? (i := 207) rfl)) rfl
set_option maxRecDepth 20000 in
theorem wi_IndexOutOfBoundsException : Cond.initialized "java/lang/IndexOutOfBoundsException" ∈ xT := xT_in (List.mem_append_right _ (List.mem_of_getElem? (i := 9) rfl)) rfl
set_option maxRecDepth 20000 in
theorem wt_P_216 : Cond.stringRef "PieceTexts" 216 "no such text" ∈ xT := xT_in (List.mem_append_right _ (List.mem_of_getElem? (i := 216) rfl)) rfl
set_option maxRecDepth 20000 in
theorem wj_P_58 : ∀ w ∈ vx_atS "PieceTexts" 58 "java/lang/IndexOutOfBoundsException" ["java/lang/RuntimeException", "java/lang/Exception"], w ∈ xT := xatS_in (by decide +kernel)
set_option maxRecDepth 20000 in
theorem wm_P_144 : xml "PieceTexts" 144 m_P_isText.1 none ∈ xT := xT_in (List.mem_append_right _ (List.mem_of_getElem? (i := 54) rfl)) rfl
set_option maxRecDepth 20000 in
theorem wx_P_isText : xcode m_P_isText ∈ xT := xT_in (List.mem_append_right _ (List.mem_of_getElem? (i := 57) rfl)) rfl
set_option maxRecDepth 20000 in
theorem wv_P_isText : Cond.instanceMethod m_P_isText.1 ∈ xT := xT_in (List.mem_append_right _ (List.mem_of_getElem? (i := 56) rfl)) rfl
set_option maxRecDepth 20000 in
theorem wz_P_isText : Cond.selects "PieceTexts" m_P_isText.1 m_P_isText.1 ∈ xT := xT_in (List.mem_append_left _ (List.mem_of_getElem? (i := 0) rfl)) rfl
theorem wc_P_isText : xwV m_P_isText "PieceTexts" 1 := ⟨wv_P_isText, wz_P_isText, wi_P, wx_P_isText, ⟨by decide, by decide⟩, by decide +kernel, by decide⟩
set_option maxRecDepth 20000 in
theorem wm_P_59 : xml "PieceTexts" 59 m_P_rootOf.1 none ∈ xT := xT_in (List.mem_append_right _ (List.mem_of_getElem? (i := 58) rfl)) rfl
set_option maxRecDepth 20000 in
theorem wx_P_rootOf : xcode m_P_rootOf ∈ xT := xT_in (List.mem_append_right _ (List.mem_of_getElem? (i := 61) rfl)) rfl
set_option maxRecDepth 20000 in
theorem wv_P_rootOf : Cond.instanceMethod m_P_rootOf.1 ∈ xT := xT_in (List.mem_append_right _ (List.mem_of_getElem? (i := 60) rfl)) rfl
set_option maxRecDepth 20000 in
theorem wz_P_rootOf : Cond.selects "PieceTexts" m_P_rootOf.1 m_P_rootOf.1 ∈ xT := xT_in (List.mem_append_left _ (List.mem_of_getElem? (i := 1) rfl)) rfl
theorem wc_P_rootOf : xwV m_P_rootOf "PieceTexts" 1 := ⟨wv_P_rootOf, wz_P_rootOf, wi_P, wx_P_rootOf, ⟨by decide, by decide⟩, by decide +kernel, by decide⟩
set_option maxRecDepth 20000 in
theorem wm_P_107 : xml "PieceTexts" 107 m_P_demandText.1 none ∈ xT := xT_in (List.mem_append_right _ (List.mem_of_getElem? (i := 203) rfl)) rfl
set_option maxRecDepth 20000 in
theorem wx_P_demandText : xcode m_P_demandText ∈ xT := xT_in (List.mem_append_right _ (List.mem_of_getElem? (i := 206) rfl)) rfl
set_option maxRecDepth 20000 in
theorem wv_P_demandText : Cond.instanceMethod m_P_demandText.1 ∈ xT := xT_in (List.mem_append_right _ (List.mem_of_getElem? (i := 205) rfl)) rfl
set_option maxRecDepth 20000 in
theorem wz_P_demandText : Cond.selects "PieceTexts" m_P_demandText.1 m_P_demandText.1 ∈ xT := xT_in (List.mem_append_left _ (List.mem_of_getElem? (i := 8) rfl)) rfl
theorem wc_P_demandText : xwV m_P_demandText "PieceTexts" 1 := ⟨wv_P_demandText, wz_P_demandText, wi_P, wx_P_demandText, ⟨by decide, by decide⟩, by decide +kernel, by decide⟩
set_option maxRecDepth 20000 in
theorem wt_P_148 : Cond.stringRef "PieceTexts" 148 "no such place" ∈ xT := xT_in (List.mem_append_right _ (List.mem_of_getElem? (i := 223) rfl)) rfl
set_option maxRecDepth 20000 in
theorem wf_R_15 : xfl "PieceTexts$Row" 15 (TX_2 6) (some "PieceTexts") ∈ xT := xT_in (List.mem_append_right _ (List.mem_of_getElem? (i := 338) rfl)) rfl
set_option maxRecDepth 20000 in
theorem wm_P_69 : xml "PieceTexts" 69 m_R_piecesOf.1 (some "PieceTexts") ∈ xT := xT_in (List.mem_append_right _ (List.mem_of_getElem? (i := 77) rfl)) rfl
set_option maxRecDepth 20000 in
theorem wx_R_piecesOf : xcode m_R_piecesOf ∈ xT := xT_in (List.mem_append_right _ (List.mem_of_getElem? (i := 79) rfl)) rfl
set_option maxRecDepth 20000 in
theorem ws_R_piecesOf : Cond.static m_R_piecesOf.1 ∈ xT := xT_in (List.mem_append_right _ (List.mem_of_getElem? (i := 78) rfl)) rfl
theorem wc_R_piecesOf : xwS m_R_piecesOf 1 := ⟨ws_R_piecesOf, wi_R, wx_R_piecesOf, ⟨by decide, by decide⟩, by decide +kernel, by decide⟩
set_option maxRecDepth 20000 in
theorem wt_P_224 : Cond.stringRef "PieceTexts" 224 "too many pieces" ∈ xT := xT_in (List.mem_append_right _ (List.mem_of_getElem? (i := 264) rfl)) rfl
set_option maxRecDepth 20000 in
theorem wm_P_203 : xml "PieceTexts" 203 m_P_piecesInAll.1 none ∈ xT := xT_in (List.mem_append_right _ (List.mem_of_getElem? (i := 73) rfl)) rfl
set_option maxRecDepth 20000 in
theorem wx_P_piecesInAll : xcode m_P_piecesInAll ∈ xT := xT_in (List.mem_append_right _ (List.mem_of_getElem? (i := 76) rfl)) rfl
set_option maxRecDepth 20000 in
theorem wv_P_piecesInAll : Cond.instanceMethod m_P_piecesInAll.1 ∈ xT := xT_in (List.mem_append_right _ (List.mem_of_getElem? (i := 75) rfl)) rfl
set_option maxRecDepth 20000 in
theorem wz_P_piecesInAll : Cond.selects "PieceTexts" m_P_piecesInAll.1 m_P_piecesInAll.1 ∈ xT := xT_in (List.mem_append_left _ (List.mem_of_getElem? (i := 3) rfl)) rfl
theorem wc_P_piecesInAll : xwV m_P_piecesInAll "PieceTexts" 0 := ⟨wv_P_piecesInAll, wz_P_piecesInAll, wi_P, wx_P_piecesInAll, ⟨by decide, by decide⟩, by decide +kernel, by decide⟩
set_option maxRecDepth 20000 in
theorem wt_P_222 : Cond.stringRef "PieceTexts" 222 "too many characters" ∈ xT := xT_in (List.mem_append_right _ (List.mem_of_getElem? (i := 263) rfl)) rfl
set_option maxRecDepth 20000 in
theorem wm_P_200 : xml "PieceTexts" 200 m_P_charactersInAll.1 none ∈ xT := xT_in (List.mem_append_right _ (List.mem_of_getElem? (i := 69) rfl)) rfl
set_option maxRecDepth 20000 in
theorem wx_P_charactersInAll : xcode m_P_charactersInAll ∈ xT := xT_in (List.mem_append_right _ (List.mem_of_getElem? (i := 72) rfl)) rfl
set_option maxRecDepth 20000 in
theorem wv_P_charactersInAll : Cond.instanceMethod m_P_charactersInAll.1 ∈ xT := xT_in (List.mem_append_right _ (List.mem_of_getElem? (i := 71) rfl)) rfl
set_option maxRecDepth 20000 in
theorem wz_P_charactersInAll : Cond.selects "PieceTexts" m_P_charactersInAll.1 m_P_charactersInAll.1 ∈ xT := xT_in (List.mem_append_left _ (List.mem_of_getElem? (i := 2) rfl)) rfl
theorem wc_P_charactersInAll : xwV m_P_charactersInAll "PieceTexts" 0 := ⟨wv_P_charactersInAll, wz_P_charactersInAll, wi_P, wx_P_charactersInAll, ⟨by decide, by decide⟩, by decide +kernel, by decide⟩
set_option maxRecDepth 20000 in
theorem wf_R_37 : xfl "PieceTexts$Row" 37 (TX_2 4) (some "PieceTexts") ∈ xT := xT_in (List.mem_append_right _ (List.mem_of_getElem? (i := 335) rfl)) rfl
set_option maxRecDepth 20000 in
theorem wf_R_31 : xfl "PieceTexts$Row" 31 (TX_2 1) (some "PieceTexts") ∈ xT := xT_in (List.mem_append_right _ (List.mem_of_getElem? (i := 325) rfl)) rfl
set_option maxRecDepth 20000 in
theorem wm_R_34 : xml "PieceTexts$Row" 34 m_R_piecesOf.1 none ∈ xT := xT_in (List.mem_append_right _ (List.mem_of_getElem? (i := 90) rfl)) rfl
set_option maxRecDepth 20000 in
theorem wf_R_21 : xfl "PieceTexts$Row" 21 (TX_2 3) (some "PieceTexts") ∈ xT := xT_in (List.mem_append_right _ (List.mem_of_getElem? (i := 333) rfl)) rfl
set_option maxRecDepth 20000 in
theorem wm_R_25 : xml "PieceTexts$Row" 25 m_R_charactersOf.1 none ∈ xT := xT_in (List.mem_append_right _ (List.mem_of_getElem? (i := 234) rfl)) rfl
set_option maxRecDepth 20000 in
theorem wm_Y_46 : xml "PieceTexts$Tally" 46 m_R_orderAt.1 (some "PieceTexts") ∈ xT := xT_in (List.mem_append_right _ (List.mem_of_getElem? (i := 231) rfl)) rfl
set_option maxRecDepth 20000 in
theorem wx_R_orderAt : xcode m_R_orderAt ∈ xT := xT_in (List.mem_append_right _ (List.mem_of_getElem? (i := 233) rfl)) rfl
set_option maxRecDepth 20000 in
theorem ws_R_orderAt : Cond.static m_R_orderAt.1 ∈ xT := xT_in (List.mem_append_right _ (List.mem_of_getElem? (i := 232) rfl)) rfl
theorem wc_R_orderAt : xwS m_R_orderAt 2 := ⟨ws_R_orderAt, wi_R, wx_R_orderAt, ⟨by decide, by decide⟩, by decide +kernel, by decide⟩
set_option maxRecDepth 20000 in
theorem wm_Y_35 : xml "PieceTexts$Tally" 35 m_R_piecesOf.1 (some "PieceTexts") ∈ xT := xT_in (List.mem_append_right _ (List.mem_of_getElem? (i := 238) rfl)) rfl
set_option maxRecDepth 20000 in
theorem wm_R_51 : xml "PieceTexts$Row" 51 m_R_startOf.1 none ∈ xT := xT_in (List.mem_append_right _ (List.mem_of_getElem? (i := 249) rfl)) rfl
set_option maxRecDepth 20000 in
theorem wx_R_startOf : xcode m_R_startOf ∈ xT := xT_in (List.mem_append_right _ (List.mem_of_getElem? (i := 251) rfl)) rfl
set_option maxRecDepth 20000 in
theorem ws_R_startOf : Cond.static m_R_startOf.1 ∈ xT := xT_in (List.mem_append_right _ (List.mem_of_getElem? (i := 250) rfl)) rfl
theorem wc_R_startOf : xwS m_R_startOf 2 := ⟨ws_R_startOf, wi_R, wx_R_startOf, ⟨by decide, by decide⟩, by decide +kernel, by decide⟩
set_option maxRecDepth 20000 in
theorem wf_R_48 : xfl "PieceTexts$Row" 48 (TX_2 0) (some "PieceTexts") ∈ xT := xT_in (List.mem_append_right _ (List.mem_of_getElem? (i := 321) rfl)) rfl
set_option maxRecDepth 20000 in
theorem wm_R_44 : xml "PieceTexts$Row" 44 m_R_numbered.1 none ∈ xT := xT_in (List.mem_append_right _ (List.mem_of_getElem? (i := 246) rfl)) rfl
set_option maxRecDepth 20000 in
theorem wx_R_numbered : xcode m_R_numbered ∈ xT := xT_in (List.mem_append_right _ (List.mem_of_getElem? (i := 248) rfl)) rfl
set_option maxRecDepth 20000 in
theorem ws_R_numbered : Cond.static m_R_numbered.1 ∈ xT := xT_in (List.mem_append_right _ (List.mem_of_getElem? (i := 247) rfl)) rfl
theorem wc_R_numbered : xwS m_R_numbered 2 := ⟨ws_R_numbered, wi_R, wx_R_numbered, ⟨by decide, by decide⟩, by decide +kernel, by decide⟩
set_option maxRecDepth 20000 in
theorem wm_R_40 : xml "PieceTexts$Row" 40 m_R_orderAt.1 none ∈ xT := xT_in (List.mem_append_right _ (List.mem_of_getElem? (i := 245) rfl)) rfl
set_option maxRecDepth 20000 in
theorem wf_R_54 : xfl "PieceTexts$Row" 54 (TX_2 2) (some "PieceTexts") ∈ xT := xT_in (List.mem_append_right _ (List.mem_of_getElem? (i := 330) rfl)) rfl
set_option maxRecDepth 20000 in
theorem wm_Y_32 : xml "PieceTexts$Tally" 32 m_R_tagAt.1 (some "PieceTexts") ∈ xT := xT_in (List.mem_append_right _ (List.mem_of_getElem? (i := 252) rfl)) rfl
set_option maxRecDepth 20000 in
theorem wx_R_tagAt : xcode m_R_tagAt ∈ xT := xT_in (List.mem_append_right _ (List.mem_of_getElem? (i := 254) rfl)) rfl
set_option maxRecDepth 20000 in
theorem ws_R_tagAt : Cond.static m_R_tagAt.1 ∈ xT := xT_in (List.mem_append_right _ (List.mem_of_getElem? (i := 253) rfl)) rfl
theorem wc_R_tagAt : xwS m_R_tagAt 2 := ⟨ws_R_tagAt, wi_R, wx_R_tagAt, ⟨by decide, by decide⟩, by decide +kernel, by decide⟩
set_option maxRecDepth 20000 in
theorem wm_Y_29 : xml "PieceTexts$Tally" 29 m_R_sourceAt.1 (some "PieceTexts") ∈ xT := xT_in (List.mem_append_right _ (List.mem_of_getElem? (i := 242) rfl)) rfl
set_option maxRecDepth 20000 in
theorem wx_R_sourceAt : xcode m_R_sourceAt ∈ xT := xT_in (List.mem_append_right _ (List.mem_of_getElem? (i := 244) rfl)) rfl
set_option maxRecDepth 20000 in
theorem ws_R_sourceAt : Cond.static m_R_sourceAt.1 ∈ xT := xT_in (List.mem_append_right _ (List.mem_of_getElem? (i := 243) rfl)) rfl
theorem wc_R_sourceAt : xwS m_R_sourceAt 2 := ⟨ws_R_sourceAt, wi_R, wx_R_sourceAt, ⟨by decide, by decide⟩, by decide +kernel, by decide⟩
set_option maxRecDepth 20000 in
theorem wm_Y_23 : xml "PieceTexts$Tally" 23 m_R_charactersOf.1 (some "PieceTexts") ∈ xT := xT_in (List.mem_append_right _ (List.mem_of_getElem? (i := 258) rfl)) rfl
set_option maxRecDepth 20000 in
theorem wm_Y_20 : xml "PieceTexts$Tally" 20 m_Y_meldsRight.1 none ∈ xT := xT_in (List.mem_append_right _ (List.mem_of_getElem? (i := 255) rfl)) rfl
set_option maxRecDepth 20000 in
theorem wi_Y : Cond.initialized "PieceTexts$Tally" ∈ xT := xT_in (List.mem_append_right _ (List.mem_of_getElem? (i := 11) rfl)) rfl
set_option maxRecDepth 20000 in
theorem wx_Y_meldsRight : xcode m_Y_meldsRight ∈ xT := xT_in (List.mem_append_right _ (List.mem_of_getElem? (i := 257) rfl)) rfl
set_option maxRecDepth 20000 in
theorem ws_Y_meldsRight : Cond.static m_Y_meldsRight.1 ∈ xT := xT_in (List.mem_append_right _ (List.mem_of_getElem? (i := 256) rfl)) rfl
theorem wc_Y_meldsRight : xwS m_Y_meldsRight 4 := ⟨ws_Y_meldsRight, wi_Y, wx_Y_meldsRight, ⟨by decide, by decide⟩, by decide +kernel, by decide⟩
set_option maxRecDepth 20000 in
theorem wm_Y_16 : xml "PieceTexts$Tally" 16 m_Y_meldsLeft.1 none ∈ xT := xT_in (List.mem_append_right _ (List.mem_of_getElem? (i := 239) rfl)) rfl
set_option maxRecDepth 20000 in
theorem wx_Y_meldsLeft : xcode m_Y_meldsLeft ∈ xT := xT_in (List.mem_append_right _ (List.mem_of_getElem? (i := 241) rfl)) rfl
set_option maxRecDepth 20000 in
theorem ws_Y_meldsLeft : Cond.static m_Y_meldsLeft.1 ∈ xT := xT_in (List.mem_append_right _ (List.mem_of_getElem? (i := 240) rfl)) rfl
theorem wc_Y_meldsLeft : xwS m_Y_meldsLeft 4 := ⟨ws_Y_meldsLeft, wi_Y, wx_Y_meldsLeft, ⟨by decide, by decide⟩, by decide +kernel, by decide⟩
set_option maxRecDepth 20000 in
theorem wm_Y_13 : xml "PieceTexts$Tally" 13 m_Y_behind.1 none ∈ xT := xT_in (List.mem_append_right _ (List.mem_of_getElem? (i := 235) rfl)) rfl
set_option maxRecDepth 20000 in
theorem wx_Y_behind : xcode m_Y_behind ∈ xT := xT_in (List.mem_append_right _ (List.mem_of_getElem? (i := 237) rfl)) rfl
set_option maxRecDepth 20000 in
theorem ws_Y_behind : Cond.static m_Y_behind.1 ∈ xT := xT_in (List.mem_append_right _ (List.mem_of_getElem? (i := 236) rfl)) rfl
theorem wc_Y_behind : xwS m_Y_behind 2 := ⟨ws_Y_behind, wi_Y, wx_Y_behind, ⟨by decide, by decide⟩, by decide +kernel, by decide⟩
set_option maxRecDepth 20000 in
theorem wm_Y_7 : xml "PieceTexts$Tally" 7 m_Y_before.1 none ∈ xT := xT_in (List.mem_append_right _ (List.mem_of_getElem? (i := 228) rfl)) rfl
set_option maxRecDepth 20000 in
theorem wx_Y_before : xcode m_Y_before ∈ xT := xT_in (List.mem_append_right _ (List.mem_of_getElem? (i := 230) rfl)) rfl
set_option maxRecDepth 20000 in
theorem ws_Y_before : Cond.static m_Y_before.1 ∈ xT := xT_in (List.mem_append_right _ (List.mem_of_getElem? (i := 229) rfl)) rfl
theorem wc_Y_before : xwS m_Y_before 2 := ⟨ws_Y_before, wi_Y, wx_Y_before, ⟨by decide, by decide⟩, by decide +kernel, by decide⟩
set_option maxRecDepth 20000 in
theorem wf_T_35 : xfl "PieceTexts$Trees" 35 (TX_2 3) (some "PieceTexts") ∈ xT := xT_in (List.mem_append_right _ (List.mem_of_getElem? (i := 332) rfl)) rfl
set_option maxRecDepth 20000 in
theorem wf_T_9 : xfl "PieceTexts$Trees" 9 (TX_4 0) none ∈ xT := xT_in (List.mem_append_right _ (List.mem_of_getElem? (i := 32) rfl)) rfl
set_option maxRecDepth 20000 in
theorem wf_T_18 : xfl "PieceTexts$Trees" 18 (TX_2 4) (some "PieceTexts") ∈ xT := xT_in (List.mem_append_right _ (List.mem_of_getElem? (i := 334) rfl)) rfl
set_option maxRecDepth 20000 in
theorem wf_R_9 : xfl "PieceTexts$Row" 9 (TX_2 5) (some "PieceTexts") ∈ xT := xT_in (List.mem_append_right _ (List.mem_of_getElem? (i := 336) rfl)) rfl
set_option maxRecDepth 20000 in
theorem wf_T_129 : xfl "PieceTexts$Trees" 129 (TX_2 7) (some "PieceTexts") ∈ xT := xT_in (List.mem_append_right _ (List.mem_of_getElem? (i := 341) rfl)) rfl
set_option maxRecDepth 20000 in
theorem wf_T_126 : xfl "PieceTexts$Trees" 126 (TX_2 6) (some "PieceTexts") ∈ xT := xT_in (List.mem_append_right _ (List.mem_of_getElem? (i := 339) rfl)) rfl
set_option maxRecDepth 20000 in
theorem wf_T_123 : xfl "PieceTexts$Trees" 123 (TX_2 5) (some "PieceTexts") ∈ xT := xT_in (List.mem_append_right _ (List.mem_of_getElem? (i := 337) rfl)) rfl
set_option maxRecDepth 20000 in
theorem wf_T_25 : xfl "PieceTexts$Trees" 25 (TX_2 1) (some "PieceTexts") ∈ xT := xT_in (List.mem_append_right _ (List.mem_of_getElem? (i := 324) rfl)) rfl
set_option maxRecDepth 20000 in
theorem wh_T_92 : Cond.methodLink "PieceTexts$Trees" 92 Lib.Math.max.name ∈ xT := xT_in (List.mem_append_right _ (List.mem_of_getElem? (i := 299) rfl)) rfl
set_option maxRecDepth 20000 in
theorem whs_max : Cond.static Lib.Math.max.name ∈ xT := xT_in (List.mem_append_right _ (List.mem_of_getElem? (i := 300) rfl)) rfl
set_option maxRecDepth 20000 in
theorem wi_Math : Cond.initialized "java/lang/Math" ∈ xT := xT_in (List.mem_append_right _ (List.mem_of_getElem? (i := 13) rfl)) rfl
set_option maxRecDepth 20000 in
theorem whc_max : Cond.code Lib.Math.max.name Lib.Math.max.code 2 (some .int) ∈ xT := xT_in (List.mem_append_right _ (List.mem_of_getElem? (i := 301) rfl)) rfl
set_option maxRecDepth 20000 in
theorem wm_T_108 : xml "PieceTexts$Trees" 108 m_T_sum.1 none ∈ xT := xT_in (List.mem_append_right _ (List.mem_of_getElem? (i := 296) rfl)) rfl
set_option maxRecDepth 20000 in
theorem wx_T_sum : xcode m_T_sum ∈ xT := xT_in (List.mem_append_right _ (List.mem_of_getElem? (i := 298) rfl)) rfl
set_option maxRecDepth 20000 in
theorem ws_T_sum : Cond.static m_T_sum.1 ∈ xT := xT_in (List.mem_append_right _ (List.mem_of_getElem? (i := 297) rfl)) rfl
theorem wc_T_sum : xwS m_T_sum 1 := ⟨ws_T_sum, wi_T, wx_T_sum, ⟨by decide, by decide⟩, by decide +kernel, by decide⟩
set_option maxRecDepth 20000 in
theorem wm_T_117 : xml "PieceTexts$Trees" 117 m_T_raiseRight.1 none ∈ xT := xT_in (List.mem_append_right _ (List.mem_of_getElem? (i := 302) rfl)) rfl
set_option maxRecDepth 20000 in
theorem wx_T_raiseRight : xcode m_T_raiseRight ∈ xT := xT_in (List.mem_append_right _ (List.mem_of_getElem? (i := 304) rfl)) rfl
set_option maxRecDepth 20000 in
theorem ws_T_raiseRight : Cond.static m_T_raiseRight.1 ∈ xT := xT_in (List.mem_append_right _ (List.mem_of_getElem? (i := 303) rfl)) rfl
theorem wc_T_raiseRight : xwS m_T_raiseRight 1 := ⟨ws_T_raiseRight, wi_T, wx_T_raiseRight, ⟨by decide, by decide⟩, by decide +kernel, by decide⟩
set_option maxRecDepth 20000 in
theorem wm_T_114 : xml "PieceTexts$Trees" 114 m_R_heightOf.1 (some "PieceTexts") ∈ xT := xT_in (List.mem_append_right _ (List.mem_of_getElem? (i := 292) rfl)) rfl
set_option maxRecDepth 20000 in
theorem wx_R_heightOf : xcode m_R_heightOf ∈ xT := xT_in (List.mem_append_right _ (List.mem_of_getElem? (i := 89) rfl)) rfl
set_option maxRecDepth 20000 in
theorem ws_R_heightOf : Cond.static m_R_heightOf.1 ∈ xT := xT_in (List.mem_append_right _ (List.mem_of_getElem? (i := 88) rfl)) rfl
theorem wc_R_heightOf : xwS m_R_heightOf 1 := ⟨ws_R_heightOf, wi_R, wx_R_heightOf, ⟨by decide, by decide⟩, by decide +kernel, by decide⟩
set_option maxRecDepth 20000 in
theorem wm_T_120 : xml "PieceTexts$Trees" 120 m_T_raiseLeft.1 none ∈ xT := xT_in (List.mem_append_right _ (List.mem_of_getElem? (i := 305) rfl)) rfl
set_option maxRecDepth 20000 in
theorem wx_T_raiseLeft : xcode m_T_raiseLeft ∈ xT := xT_in (List.mem_append_right _ (List.mem_of_getElem? (i := 307) rfl)) rfl
set_option maxRecDepth 20000 in
theorem ws_T_raiseLeft : Cond.static m_T_raiseLeft.1 ∈ xT := xT_in (List.mem_append_right _ (List.mem_of_getElem? (i := 306) rfl)) rfl
theorem wc_T_raiseLeft : xwS m_T_raiseLeft 1 := ⟨ws_T_raiseLeft, wi_T, wx_T_raiseLeft, ⟨by decide, by decide⟩, by decide +kernel, by decide⟩
set_option maxRecDepth 20000 in
theorem wm_T_111 : xml "PieceTexts$Trees" 111 m_T_balance.1 none ∈ xT := xT_in (List.mem_append_right _ (List.mem_of_getElem? (i := 293) rfl)) rfl
set_option maxRecDepth 20000 in
theorem wx_T_balance : xcode m_T_balance ∈ xT := xT_in (List.mem_append_right _ (List.mem_of_getElem? (i := 295) rfl)) rfl
set_option maxRecDepth 20000 in
theorem ws_T_balance : Cond.static m_T_balance.1 ∈ xT := xT_in (List.mem_append_right _ (List.mem_of_getElem? (i := 294) rfl)) rfl
theorem wc_T_balance : xwS m_T_balance 1 := ⟨ws_T_balance, wi_T, wx_T_balance, ⟨by decide, by decide⟩, by decide +kernel, by decide⟩
set_option maxRecDepth 20000 in
theorem wm_T_61 : xml "PieceTexts$Trees" 61 m_T_join.1 none ∈ xT := xT_in (List.mem_append_right _ (List.mem_of_getElem? (i := 289) rfl)) rfl
set_option maxRecDepth 20000 in
theorem wx_T_join : xcode m_T_join ∈ xT := xT_in (List.mem_append_right _ (List.mem_of_getElem? (i := 291) rfl)) rfl
set_option maxRecDepth 20000 in
theorem ws_T_join : Cond.static m_T_join.1 ∈ xT := xT_in (List.mem_append_right _ (List.mem_of_getElem? (i := 290) rfl)) rfl
theorem wc_T_join : xwS m_T_join 4 := ⟨ws_T_join, wi_T, wx_T_join, ⟨by decide, by decide⟩, by decide +kernel, by decide⟩
set_option maxRecDepth 20000 in
theorem wm_T_75 : xml "PieceTexts$Trees" 75 m_T_withoutFirst.1 none ∈ xT := xT_in (List.mem_append_right _ (List.mem_of_getElem? (i := 373) rfl)) rfl
set_option maxRecDepth 20000 in
theorem wx_T_withoutFirst : xcode m_T_withoutFirst ∈ xT := xT_in (List.mem_append_right _ (List.mem_of_getElem? (i := 375) rfl)) rfl
set_option maxRecDepth 20000 in
theorem ws_T_withoutFirst : Cond.static m_T_withoutFirst.1 ∈ xT := xT_in (List.mem_append_right _ (List.mem_of_getElem? (i := 374) rfl)) rfl
theorem wc_T_withoutFirst : xwS m_T_withoutFirst 2 := ⟨ws_T_withoutFirst, wi_T, wx_T_withoutFirst, ⟨by decide, by decide⟩, by decide +kernel, by decide⟩
set_option maxRecDepth 20000 in
theorem wm_T_79 : xml "PieceTexts$Trees" 79 m_T_withoutLast.1 none ∈ xT := xT_in (List.mem_append_right _ (List.mem_of_getElem? (i := 380) rfl)) rfl
set_option maxRecDepth 20000 in
theorem wx_T_withoutLast : xcode m_T_withoutLast ∈ xT := xT_in (List.mem_append_right _ (List.mem_of_getElem? (i := 382) rfl)) rfl
set_option maxRecDepth 20000 in
theorem ws_T_withoutLast : Cond.static m_T_withoutLast.1 ∈ xT := xT_in (List.mem_append_right _ (List.mem_of_getElem? (i := 381) rfl)) rfl
theorem wc_T_withoutLast : xwS m_T_withoutLast 2 := ⟨ws_T_withoutLast, wi_T, wx_T_withoutLast, ⟨by decide, by decide⟩, by decide +kernel, by decide⟩
set_option maxRecDepth 20000 in
theorem wm_T_42 : xml "PieceTexts$Trees" 42 m_T_giveBack.1 none ∈ xT := xT_in (List.mem_append_right _ (List.mem_of_getElem? (i := 376) rfl)) rfl
set_option maxRecDepth 20000 in
theorem wx_T_giveBack : xcode m_T_giveBack ∈ xT := xT_in (List.mem_append_right _ (List.mem_of_getElem? (i := 379) rfl)) rfl
set_option maxRecDepth 20000 in
theorem wv_T_giveBack : Cond.instanceMethod m_T_giveBack.1 ∈ xT := xT_in (List.mem_append_right _ (List.mem_of_getElem? (i := 378) rfl)) rfl
set_option maxRecDepth 20000 in
theorem wz_T_giveBack : Cond.selects "PieceTexts$Trees" m_T_giveBack.1 m_T_giveBack.1 ∈ xT := xT_in (List.mem_append_left _ (List.mem_of_getElem? (i := 14) rfl)) rfl
theorem wc_T_giveBack : xwV m_T_giveBack "PieceTexts$Trees" 1 := ⟨wv_T_giveBack, wz_T_giveBack, wi_T, wx_T_giveBack, ⟨by decide, by decide⟩, by decide +kernel, by decide⟩
set_option maxRecDepth 20000 in
theorem wf_T_28 : xfl "PieceTexts$Trees" 28 (TX_2 2) (some "PieceTexts") ∈ xT := xT_in (List.mem_append_right _ (List.mem_of_getElem? (i := 328) rfl)) rfl
set_option maxRecDepth 20000 in
theorem wf_T_21 : xfl "PieceTexts$Trees" 21 (TX_2 0) (some "PieceTexts") ∈ xT := xT_in (List.mem_append_right _ (List.mem_of_getElem? (i := 319) rfl)) rfl
set_option maxRecDepth 20000 in
theorem wm_T_72 : xml "PieceTexts$Trees" 72 m_T_firstOf.1 none ∈ xT := xT_in (List.mem_append_right _ (List.mem_of_getElem? (i := 370) rfl)) rfl
set_option maxRecDepth 20000 in
theorem wx_T_firstOf : xcode m_T_firstOf ∈ xT := xT_in (List.mem_append_right _ (List.mem_of_getElem? (i := 372) rfl)) rfl
set_option maxRecDepth 20000 in
theorem ws_T_firstOf : Cond.static m_T_firstOf.1 ∈ xT := xT_in (List.mem_append_right _ (List.mem_of_getElem? (i := 371) rfl)) rfl
theorem wc_T_firstOf : xwS m_T_firstOf 1 := ⟨ws_T_firstOf, wi_T, wx_T_firstOf, ⟨by decide, by decide⟩, by decide +kernel, by decide⟩
set_option maxRecDepth 20000 in
theorem wm_T_69 : xml "PieceTexts$Trees" 69 m_T_lastOf.1 none ∈ xT := xT_in (List.mem_append_right _ (List.mem_of_getElem? (i := 367) rfl)) rfl
set_option maxRecDepth 20000 in
theorem wx_T_lastOf : xcode m_T_lastOf ∈ xT := xT_in (List.mem_append_right _ (List.mem_of_getElem? (i := 369) rfl)) rfl
set_option maxRecDepth 20000 in
theorem ws_T_lastOf : Cond.static m_T_lastOf.1 ∈ xT := xT_in (List.mem_append_right _ (List.mem_of_getElem? (i := 368) rfl)) rfl
theorem wc_T_lastOf : xwS m_T_lastOf 1 := ⟨ws_T_lastOf, wi_T, wx_T_lastOf, ⟨by decide, by decide⟩, by decide +kernel, by decide⟩
set_option maxRecDepth 20000 in
theorem wO_H_1 : Cond.methodLink "PieceTexts$Halves" 1 objectInit ∈ xT := xT_in (List.mem_append_right _ (List.mem_of_getElem? (i := 274) rfl)) rfl
set_option maxRecDepth 20000 in
theorem wO_N_1 : Cond.methodLink "PieceTexts$Piece" 1 objectInit ∈ xT := xT_in (List.mem_append_right _ (List.mem_of_getElem? (i := 317) rfl)) rfl
set_option maxRecDepth 20000 in
theorem wm_T_17 : xml "PieceTexts$Trees" 17 m_N_init.1 (some "PieceTexts") ∈ xT := xT_in (List.mem_append_right _ (List.mem_of_getElem? (i := 314) rfl)) rfl
set_option maxRecDepth 20000 in
theorem wi_N : Cond.initialized "PieceTexts$Piece" ∈ xT := xT_in (List.mem_append_right _ (List.mem_of_getElem? (i := 14) rfl)) rfl
set_option maxRecDepth 20000 in
theorem wx_N_init : xcode m_N_init ∈ xT := xT_in (List.mem_append_right _ (List.mem_of_getElem? (i := 316) rfl)) rfl
set_option maxRecDepth 20000 in
theorem wv_N_init : Cond.instanceMethod m_N_init.1 ∈ xT := xT_in (List.mem_append_right _ (List.mem_of_getElem? (i := 315) rfl)) rfl
theorem wc_N_init : xwI m_N_init 0 := ⟨wv_N_init, rfl, ⟨_, _, rfl⟩, wi_N, wx_N_init, ⟨by decide, by decide⟩, by decide +kernel, by decide⟩
set_option maxRecDepth 20000 in
theorem wk_T_15 : Cond.classLink "PieceTexts$Trees" 15 "PieceTexts$Piece" ∈ xT := xT_in (List.mem_append_right _ (List.mem_of_getElem? (i := 312) rfl)) rfl
set_option maxRecDepth 20000 in
theorem wn_2 : Cond.instantiable "PieceTexts$Piece" 8 ∈ xT := xT_in (List.mem_append_right _ (List.mem_of_getElem? (i := 313) rfl)) rfl
set_option maxRecDepth 20000 in
theorem wm_T_31 : xml "PieceTexts$Trees" 31 m_T_alone.1 none ∈ xT := xT_in (List.mem_append_right _ (List.mem_of_getElem? (i := 359) rfl)) rfl
set_option maxRecDepth 20000 in
theorem wx_T_alone : xcode m_T_alone ∈ xT := xT_in (List.mem_append_right _ (List.mem_of_getElem? (i := 361) rfl)) rfl
set_option maxRecDepth 20000 in
theorem ws_T_alone : Cond.static m_T_alone.1 ∈ xT := xT_in (List.mem_append_right _ (List.mem_of_getElem? (i := 360) rfl)) rfl
theorem wc_T_alone : xwS m_T_alone 1 := ⟨ws_T_alone, wi_T, wx_T_alone, ⟨by decide, by decide⟩, by decide +kernel, by decide⟩
set_option maxRecDepth 20000 in
theorem wf_T_54 : xfl "PieceTexts$Trees" 54 (TX_1 1) (some "PieceTexts") ∈ xT := xT_in (List.mem_append_right _ (List.mem_of_getElem? (i := 278) rfl)) rfl
set_option maxRecDepth 20000 in
theorem wf_T_53 : xfl "PieceTexts$Trees" 53 (TX_1 0) (some "PieceTexts") ∈ xT := xT_in (List.mem_append_right _ (List.mem_of_getElem? (i := 276) rfl)) rfl
set_option maxRecDepth 20000 in
theorem wm_T_65 : xml "PieceTexts$Trees" 65 m_T_take.1 none ∈ xT := xT_in (List.mem_append_right _ (List.mem_of_getElem? (i := 308) rfl)) rfl
set_option maxRecDepth 20000 in
theorem wx_T_take : xcode m_T_take ∈ xT := xT_in (List.mem_append_right _ (List.mem_of_getElem? (i := 311) rfl)) rfl
set_option maxRecDepth 20000 in
theorem wv_T_take : Cond.instanceMethod m_T_take.1 ∈ xT := xT_in (List.mem_append_right _ (List.mem_of_getElem? (i := 310) rfl)) rfl
set_option maxRecDepth 20000 in
theorem wz_T_take : Cond.selects "PieceTexts$Trees" m_T_take.1 m_T_take.1 ∈ xT := xT_in (List.mem_append_left _ (List.mem_of_getElem? (i := 12) rfl)) rfl
theorem wc_T_take : xwV m_T_take "PieceTexts$Trees" 3 := ⟨wv_T_take, wz_T_take, wi_T, wx_T_take, ⟨by decide, by decide⟩, by decide +kernel, by decide⟩
set_option maxRecDepth 20000 in
theorem wm_T_49 : xml "PieceTexts$Trees" 49 m_T_partInto.1 none ∈ xT := xT_in (List.mem_append_right _ (List.mem_of_getElem? (i := 284) rfl)) rfl
set_option maxRecDepth 20000 in
theorem wx_T_partInto : xcode m_T_partInto ∈ xT := xT_in (List.mem_append_right _ (List.mem_of_getElem? (i := 287) rfl)) rfl
set_option maxRecDepth 20000 in
theorem wv_T_partInto : Cond.instanceMethod m_T_partInto.1 ∈ xT := xT_in (List.mem_append_right _ (List.mem_of_getElem? (i := 286) rfl)) rfl
set_option maxRecDepth 20000 in
theorem wz_T_partInto : Cond.selects "PieceTexts$Trees" m_T_partInto.1 m_T_partInto.1 ∈ xT := xT_in (List.mem_append_left _ (List.mem_of_getElem? (i := 11) rfl)) rfl
theorem wc_T_partInto : xwV m_T_partInto "PieceTexts$Trees" 4 := ⟨wv_T_partInto, wz_T_partInto, wi_T, wx_T_partInto, ⟨by decide, by decide⟩, by decide +kernel, by decide⟩
set_option maxRecDepth 20000 in
theorem wm_T_55 : xml "PieceTexts$Trees" 55 m_R_charactersOf.1 (some "PieceTexts") ∈ xT := xT_in (List.mem_append_right _ (List.mem_of_getElem? (i := 288) rfl)) rfl
set_option maxRecDepth 20000 in
theorem wm_T_48 : xml "PieceTexts$Trees" 48 m_H_init.1 (some "PieceTexts") ∈ xT := xT_in (List.mem_append_right _ (List.mem_of_getElem? (i := 271) rfl)) rfl
set_option maxRecDepth 20000 in
theorem wi_H : Cond.initialized "PieceTexts$Halves" ∈ xT := xT_in (List.mem_append_right _ (List.mem_of_getElem? (i := 12) rfl)) rfl
set_option maxRecDepth 20000 in
theorem wx_H_init : xcode m_H_init ∈ xT := xT_in (List.mem_append_right _ (List.mem_of_getElem? (i := 273) rfl)) rfl
set_option maxRecDepth 20000 in
theorem wv_H_init : Cond.instanceMethod m_H_init.1 ∈ xT := xT_in (List.mem_append_right _ (List.mem_of_getElem? (i := 272) rfl)) rfl
theorem wc_H_init : xwI m_H_init 0 := ⟨wv_H_init, rfl, ⟨_, _, rfl⟩, wi_H, wx_H_init, ⟨by decide, by decide⟩, by decide +kernel, by decide⟩
set_option maxRecDepth 20000 in
theorem wk_T_46 : Cond.classLink "PieceTexts$Trees" 46 "PieceTexts$Halves" ∈ xT := xT_in (List.mem_append_right _ (List.mem_of_getElem? (i := 269) rfl)) rfl
set_option maxRecDepth 20000 in
theorem wn_1 : Cond.instantiable "PieceTexts$Halves" 2 ∈ xT := xT_in (List.mem_append_right _ (List.mem_of_getElem? (i := 270) rfl)) rfl
set_option maxRecDepth 20000 in
theorem wm_P_99 : xml "PieceTexts" 99 m_P_become.1 none ∈ xT := xT_in (List.mem_append_right _ (List.mem_of_getElem? (i := 383) rfl)) rfl
set_option maxRecDepth 20000 in
theorem wx_P_become : xcode m_P_become ∈ xT := xT_in (List.mem_append_right _ (List.mem_of_getElem? (i := 386) rfl)) rfl
set_option maxRecDepth 20000 in
theorem wv_P_become : Cond.instanceMethod m_P_become.1 ∈ xT := xT_in (List.mem_append_right _ (List.mem_of_getElem? (i := 385) rfl)) rfl
set_option maxRecDepth 20000 in
theorem wz_P_become : Cond.selects "PieceTexts" m_P_become.1 m_P_become.1 ∈ xT := xT_in (List.mem_append_left _ (List.mem_of_getElem? (i := 15) rfl)) rfl
theorem wc_P_become : xwV m_P_become "PieceTexts" 2 := ⟨wv_P_become, wz_P_become, wi_P, wx_P_become, ⟨by decide, by decide⟩, by decide +kernel, by decide⟩
set_option maxRecDepth 20000 in
theorem wm_P_92 : xml "PieceTexts" 92 m_T_meet.1 (some "PieceTexts") ∈ xT := xT_in (List.mem_append_right _ (List.mem_of_getElem? (i := 363) rfl)) rfl
set_option maxRecDepth 20000 in
theorem wx_T_meet : xcode m_T_meet ∈ xT := xT_in (List.mem_append_right _ (List.mem_of_getElem? (i := 366) rfl)) rfl
set_option maxRecDepth 20000 in
theorem wv_T_meet : Cond.instanceMethod m_T_meet.1 ∈ xT := xT_in (List.mem_append_right _ (List.mem_of_getElem? (i := 365) rfl)) rfl
set_option maxRecDepth 20000 in
theorem wz_T_meet : Cond.selects "PieceTexts$Trees" m_T_meet.1 m_T_meet.1 ∈ xT := xT_in (List.mem_append_left _ (List.mem_of_getElem? (i := 13) rfl)) rfl
theorem wc_T_meet : xwV m_T_meet "PieceTexts$Trees" 2 := ⟨wv_T_meet, wz_T_meet, wi_T, wx_T_meet, ⟨by decide, by decide⟩, by decide +kernel, by decide⟩
set_option maxRecDepth 20000 in
theorem wf_P_96 : xfl "PieceTexts" 96 (TX_1 1) (some "PieceTexts") ∈ xT := xT_in (List.mem_append_right _ (List.mem_of_getElem? (i := 277) rfl)) rfl
set_option maxRecDepth 20000 in
theorem wf_P_86 : xfl "PieceTexts" 86 (TX_1 0) (some "PieceTexts") ∈ xT := xT_in (List.mem_append_right _ (List.mem_of_getElem? (i := 275) rfl)) rfl
set_option maxRecDepth 20000 in
theorem wf_P_22 : xfl "PieceTexts" 22 (TX_0 3) none ∈ xT := xT_in (List.mem_append_right _ (List.mem_of_getElem? (i := 40) rfl)) rfl
set_option maxRecDepth 20000 in
theorem wm_P_82 : xml "PieceTexts" 82 m_T_take.1 (some "PieceTexts") ∈ xT := xT_in (List.mem_append_right _ (List.mem_of_getElem? (i := 362) rfl)) rfl
set_option maxRecDepth 20000 in
theorem wm_P_78 : xml "PieceTexts" 78 m_T_part.1 (some "PieceTexts") ∈ xT := xT_in (List.mem_append_right _ (List.mem_of_getElem? (i := 265) rfl)) rfl
set_option maxRecDepth 20000 in
theorem wx_T_part : xcode m_T_part ∈ xT := xT_in (List.mem_append_right _ (List.mem_of_getElem? (i := 268) rfl)) rfl
set_option maxRecDepth 20000 in
theorem wv_T_part : Cond.instanceMethod m_T_part.1 ∈ xT := xT_in (List.mem_append_right _ (List.mem_of_getElem? (i := 267) rfl)) rfl
set_option maxRecDepth 20000 in
theorem wz_T_part : Cond.selects "PieceTexts$Trees" m_T_part.1 m_T_part.1 ∈ xT := xT_in (List.mem_append_left _ (List.mem_of_getElem? (i := 10) rfl)) rfl
theorem wc_T_part : xwV m_T_part "PieceTexts$Trees" 2 := ⟨wv_T_part, wz_T_part, wi_T, wx_T_part, ⟨by decide, by decide⟩, by decide +kernel, by decide⟩
set_option maxRecDepth 20000 in
theorem wm_P_75 : xml "PieceTexts" 75 m_P_demandRoom.1 none ∈ xT := xT_in (List.mem_append_right _ (List.mem_of_getElem? (i := 259) rfl)) rfl
set_option maxRecDepth 20000 in
theorem wx_P_demandRoom : xcode m_P_demandRoom ∈ xT := xT_in (List.mem_append_right _ (List.mem_of_getElem? (i := 262) rfl)) rfl
set_option maxRecDepth 20000 in
theorem wv_P_demandRoom : Cond.instanceMethod m_P_demandRoom.1 ∈ xT := xT_in (List.mem_append_right _ (List.mem_of_getElem? (i := 261) rfl)) rfl
set_option maxRecDepth 20000 in
theorem wz_P_demandRoom : Cond.selects "PieceTexts" m_P_demandRoom.1 m_P_demandRoom.1 ∈ xT := xT_in (List.mem_append_left _ (List.mem_of_getElem? (i := 9) rfl)) rfl
theorem wc_P_demandRoom : xwV m_P_demandRoom "PieceTexts" 2 := ⟨wv_P_demandRoom, wz_P_demandRoom, wi_P, wx_P_demandRoom, ⟨by decide, by decide⟩, by decide +kernel, by decide⟩
set_option maxRecDepth 20000 in
theorem wm_P_63 : xml "PieceTexts" 63 m_Y_afterPut.1 (some "PieceTexts") ∈ xT := xT_in (List.mem_append_right _ (List.mem_of_getElem? (i := 225) rfl)) rfl
set_option maxRecDepth 20000 in
theorem wx_Y_afterPut : xcode m_Y_afterPut ∈ xT := xT_in (List.mem_append_right _ (List.mem_of_getElem? (i := 227) rfl)) rfl
set_option maxRecDepth 20000 in
theorem ws_Y_afterPut : Cond.static m_Y_afterPut.1 ∈ xT := xT_in (List.mem_append_right _ (List.mem_of_getElem? (i := 226) rfl)) rfl
theorem wc_Y_afterPut : xwS m_Y_afterPut 5 := ⟨ws_Y_afterPut, wi_Y, wx_Y_afterPut, ⟨by decide, by decide⟩, by decide +kernel, by decide⟩
set_option maxRecDepth 20000 in
theorem wm_P_50 : xml "PieceTexts" 50 m_P_demandEdge.1 none ∈ xT := xT_in (List.mem_append_right _ (List.mem_of_getElem? (i := 199) rfl)) rfl
set_option maxRecDepth 20000 in
theorem wx_P_demandEdge : xcode m_P_demandEdge ∈ xT := xT_in (List.mem_append_right _ (List.mem_of_getElem? (i := 202) rfl)) rfl
set_option maxRecDepth 20000 in
theorem wv_P_demandEdge : Cond.instanceMethod m_P_demandEdge.1 ∈ xT := xT_in (List.mem_append_right _ (List.mem_of_getElem? (i := 201) rfl)) rfl
set_option maxRecDepth 20000 in
theorem wz_P_demandEdge : Cond.selects "PieceTexts" m_P_demandEdge.1 m_P_demandEdge.1 ∈ xT := xT_in (List.mem_append_left _ (List.mem_of_getElem? (i := 7) rfl)) rfl
theorem wc_P_demandEdge : xwV m_P_demandEdge "PieceTexts" 2 := ⟨wv_P_demandEdge, wz_P_demandEdge, wi_P, wx_P_demandEdge, ⟨by decide, by decide⟩, by decide +kernel, by decide⟩
set_option maxRecDepth 20000 in
theorem wt_P_56 : Cond.stringRef "PieceTexts" 56 "no such bytes" ∈ xT := xT_in (List.mem_append_right _ (List.mem_of_getElem? (i := 224) rfl)) rfl
set_option maxRecDepth 20000 in
theorem wt_P_220 : Cond.stringRef "PieceTexts" 220 "not another text without characters" ∈ xT := xT_in (List.mem_append_right _ (List.mem_of_getElem? (i := 403) rfl)) rfl
set_option maxRecDepth 20000 in
theorem wt_P_218 : Cond.stringRef "PieceTexts" 218 "no such range" ∈ xT := xT_in (List.mem_append_right _ (List.mem_of_getElem? (i := 398) rfl)) rfl
set_option maxRecDepth 20000 in
theorem wm_P_118 : xml "PieceTexts" 118 m_Y_within.1 (some "PieceTexts") ∈ xT := xT_in (List.mem_append_right _ (List.mem_of_getElem? (i := 407) rfl)) rfl
set_option maxRecDepth 20000 in
theorem wx_Y_within : xcode m_Y_within ∈ xT := xT_in (List.mem_append_right _ (List.mem_of_getElem? (i := 409) rfl)) rfl
set_option maxRecDepth 20000 in
theorem ws_Y_within : Cond.static m_Y_within.1 ∈ xT := xT_in (List.mem_append_right _ (List.mem_of_getElem? (i := 408) rfl)) rfl
theorem wc_Y_within : xwS m_Y_within 3 := ⟨ws_Y_within, wi_Y, wx_Y_within, ⟨by decide, by decide⟩, by decide +kernel, by decide⟩
set_option maxRecDepth 20000 in
theorem wm_P_114 : xml "PieceTexts" 114 m_Y_afterCut.1 (some "PieceTexts") ∈ xT := xT_in (List.mem_append_right _ (List.mem_of_getElem? (i := 404) rfl)) rfl
set_option maxRecDepth 20000 in
theorem wx_Y_afterCut : xcode m_Y_afterCut ∈ xT := xT_in (List.mem_append_right _ (List.mem_of_getElem? (i := 406) rfl)) rfl
set_option maxRecDepth 20000 in
theorem ws_Y_afterCut : Cond.static m_Y_afterCut.1 ∈ xT := xT_in (List.mem_append_right _ (List.mem_of_getElem? (i := 405) rfl)) rfl
theorem wc_Y_afterCut : xwS m_Y_afterCut 3 := ⟨ws_Y_afterCut, wi_Y, wx_Y_afterCut, ⟨by decide, by decide⟩, by decide +kernel, by decide⟩
set_option maxRecDepth 20000 in
theorem wm_P_111 : xml "PieceTexts" 111 m_P_demandFree.1 none ∈ xT := xT_in (List.mem_append_right _ (List.mem_of_getElem? (i := 399) rfl)) rfl
set_option maxRecDepth 20000 in
theorem wx_P_demandFree : xcode m_P_demandFree ∈ xT := xT_in (List.mem_append_right _ (List.mem_of_getElem? (i := 402) rfl)) rfl
set_option maxRecDepth 20000 in
theorem wv_P_demandFree : Cond.instanceMethod m_P_demandFree.1 ∈ xT := xT_in (List.mem_append_right _ (List.mem_of_getElem? (i := 401) rfl)) rfl
set_option maxRecDepth 20000 in
theorem wz_P_demandFree : Cond.selects "PieceTexts" m_P_demandFree.1 m_P_demandFree.1 ∈ xT := xT_in (List.mem_append_left _ (List.mem_of_getElem? (i := 17) rfl)) rfl
theorem wc_P_demandFree : xwV m_P_demandFree "PieceTexts" 2 := ⟨wv_P_demandFree, wz_P_demandFree, wi_P, wx_P_demandFree, ⟨by decide, by decide⟩, by decide +kernel, by decide⟩
set_option maxRecDepth 20000 in
theorem wm_P_103 : xml "PieceTexts" 103 m_P_demandRange.1 none ∈ xT := xT_in (List.mem_append_right _ (List.mem_of_getElem? (i := 394) rfl)) rfl
set_option maxRecDepth 20000 in
theorem wx_P_demandRange : xcode m_P_demandRange ∈ xT := xT_in (List.mem_append_right _ (List.mem_of_getElem? (i := 397) rfl)) rfl
set_option maxRecDepth 20000 in
theorem wv_P_demandRange : Cond.instanceMethod m_P_demandRange.1 ∈ xT := xT_in (List.mem_append_right _ (List.mem_of_getElem? (i := 396) rfl)) rfl
set_option maxRecDepth 20000 in
theorem wz_P_demandRange : Cond.selects "PieceTexts" m_P_demandRange.1 m_P_demandRange.1 ∈ xT := xT_in (List.mem_append_left _ (List.mem_of_getElem? (i := 16) rfl)) rfl
theorem wc_P_demandRange : xwV m_P_demandRange "PieceTexts" 3 := ⟨wv_P_demandRange, wz_P_demandRange, wi_P, wx_P_demandRange, ⟨by decide, by decide⟩, by decide +kernel, by decide⟩
set_option maxRecDepth 20000 in
theorem wm_P_123 : xml "PieceTexts" 123 m_Y_afterPaste.1 (some "PieceTexts") ∈ xT := xT_in (List.mem_append_right _ (List.mem_of_getElem? (i := 418) rfl)) rfl
set_option maxRecDepth 20000 in
theorem wx_Y_afterPaste : xcode m_Y_afterPaste ∈ xT := xT_in (List.mem_append_right _ (List.mem_of_getElem? (i := 420) rfl)) rfl
set_option maxRecDepth 20000 in
theorem ws_Y_afterPaste : Cond.static m_Y_afterPaste.1 ∈ xT := xT_in (List.mem_append_right _ (List.mem_of_getElem? (i := 419) rfl)) rfl
theorem wc_Y_afterPaste : xwS m_Y_afterPaste 3 := ⟨ws_Y_afterPaste, wi_Y, wx_Y_afterPaste, ⟨by decide, by decide⟩, by decide +kernel, by decide⟩
set_option maxRecDepth 20000 in
theorem wt_P_121 : Cond.stringRef "PieceTexts" 121 "a text can't be pasted into itself" ∈ xT := xT_in (List.mem_append_right _ (List.mem_of_getElem? (i := 417) rfl)) rfl
set_option maxRecDepth 20000 in
theorem wh_T_82 : Cond.methodLink "PieceTexts$Trees" 82 Lib.Math.min.name ∈ xT := xT_in (List.mem_append_right _ (List.mem_of_getElem? (i := 432) rfl)) rfl
set_option maxRecDepth 20000 in
theorem whs_min : Cond.static Lib.Math.min.name ∈ xT := xT_in (List.mem_append_right _ (List.mem_of_getElem? (i := 433) rfl)) rfl
set_option maxRecDepth 20000 in
theorem whc_min : Cond.code Lib.Math.min.name Lib.Math.min.code 2 (some .int) ∈ xT := xT_in (List.mem_append_right _ (List.mem_of_getElem? (i := 434) rfl)) rfl
set_option maxRecDepth 20000 in
theorem wm_T_88 : xml "PieceTexts$Trees" 88 m_T_twin.1 none ∈ xT := xT_in (List.mem_append_right _ (List.mem_of_getElem? (i := 435) rfl)) rfl
set_option maxRecDepth 20000 in
theorem wx_T_twin : xcode m_T_twin ∈ xT := xT_in (List.mem_append_right _ (List.mem_of_getElem? (i := 431) rfl)) rfl
set_option maxRecDepth 20000 in
theorem wv_T_twin : Cond.instanceMethod m_T_twin.1 ∈ xT := xT_in (List.mem_append_right _ (List.mem_of_getElem? (i := 430) rfl)) rfl
set_option maxRecDepth 20000 in
theorem wz_T_twin : Cond.selects "PieceTexts$Trees" m_T_twin.1 m_T_twin.1 ∈ xT := xT_in (List.mem_append_left _ (List.mem_of_getElem? (i := 18) rfl)) rfl
theorem wc_T_twin : xwV m_T_twin "PieceTexts$Trees" 4 := ⟨wv_T_twin, wz_T_twin, wi_T, wx_T_twin, ⟨by decide, by decide⟩, by decide +kernel, by decide⟩
set_option maxRecDepth 20000 in
theorem wm_P_127 : xml "PieceTexts" 127 m_T_twin.1 (some "PieceTexts") ∈ xT := xT_in (List.mem_append_right _ (List.mem_of_getElem? (i := 428) rfl)) rfl
set_option maxRecDepth 20000 in
theorem wm_Y_49 : xml "PieceTexts$Tally" 49 m_R_numbered.1 (some "PieceTexts") ∈ xT := xT_in (List.mem_append_right _ (List.mem_of_getElem? (i := 452) rfl)) rfl
set_option maxRecDepth 20000 in
theorem wm_Y_38 : xml "PieceTexts$Tally" 38 m_Y_tagged.1 none ∈ xT := xT_in (List.mem_append_right _ (List.mem_of_getElem? (i := 446) rfl)) rfl
set_option maxRecDepth 20000 in
theorem wx_Y_tagged : xcode m_Y_tagged ∈ xT := xT_in (List.mem_append_right _ (List.mem_of_getElem? (i := 448) rfl)) rfl
set_option maxRecDepth 20000 in
theorem ws_Y_tagged : Cond.static m_Y_tagged.1 ∈ xT := xT_in (List.mem_append_right _ (List.mem_of_getElem? (i := 447) rfl)) rfl
theorem wc_Y_tagged : xwS m_Y_tagged 3 := ⟨ws_Y_tagged, wi_Y, wx_Y_tagged, ⟨by decide, by decide⟩, by decide +kernel, by decide⟩
set_option maxRecDepth 20000 in
theorem wf_Y_62 : xfl "PieceTexts$Tally" 62 (TX_2 2) (some "PieceTexts") ∈ xT := xT_in (List.mem_append_right _ (List.mem_of_getElem? (i := 329) rfl)) rfl
set_option maxRecDepth 20000 in
theorem wf_Y_53 : xfl "PieceTexts$Tally" 53 (TX_2 0) (some "PieceTexts") ∈ xT := xT_in (List.mem_append_right _ (List.mem_of_getElem? (i := 320) rfl)) rfl
set_option maxRecDepth 20000 in
theorem wf_Y_59 : xfl "PieceTexts$Tally" 59 (TX_2 1) (some "PieceTexts") ∈ xT := xT_in (List.mem_append_right _ (List.mem_of_getElem? (i := 326) rfl)) rfl
set_option maxRecDepth 20000 in
theorem wm_Y_42 : xml "PieceTexts$Tally" 42 m_Y_withinTagged.1 none ∈ xT := xT_in (List.mem_append_right _ (List.mem_of_getElem? (i := 449) rfl)) rfl
set_option maxRecDepth 20000 in
theorem wx_Y_withinTagged : xcode m_Y_withinTagged ∈ xT := xT_in (List.mem_append_right _ (List.mem_of_getElem? (i := 451) rfl)) rfl
set_option maxRecDepth 20000 in
theorem ws_Y_withinTagged : Cond.static m_Y_withinTagged.1 ∈ xT := xT_in (List.mem_append_right _ (List.mem_of_getElem? (i := 450) rfl)) rfl
theorem wc_Y_withinTagged : xwS m_Y_withinTagged 5 := ⟨ws_Y_withinTagged, wi_Y, wx_Y_withinTagged, ⟨by decide, by decide⟩, by decide +kernel, by decide⟩
set_option maxRecDepth 20000 in
theorem wm_T_104 : xml "PieceTexts$Trees" 104 m_T_meet.1 none ∈ xT := xT_in (List.mem_append_right _ (List.mem_of_getElem? (i := 459) rfl)) rfl
set_option maxRecDepth 20000 in
theorem wm_T_98 : xml "PieceTexts$Trees" 98 m_Y_tagged.1 (some "PieceTexts") ∈ xT := xT_in (List.mem_append_right _ (List.mem_of_getElem? (i := 458) rfl)) rfl
set_option maxRecDepth 20000 in
theorem wm_T_95 : xml "PieceTexts$Trees" 95 m_T_retag.1 none ∈ xT := xT_in (List.mem_append_right _ (List.mem_of_getElem? (i := 457) rfl)) rfl
set_option maxRecDepth 20000 in
theorem wx_T_retag : xcode m_T_retag ∈ xT := xT_in (List.mem_append_right _ (List.mem_of_getElem? (i := 456) rfl)) rfl
set_option maxRecDepth 20000 in
theorem wv_T_retag : Cond.instanceMethod m_T_retag.1 ∈ xT := xT_in (List.mem_append_right _ (List.mem_of_getElem? (i := 455) rfl)) rfl
set_option maxRecDepth 20000 in
theorem wz_T_retag : Cond.selects "PieceTexts$Trees" m_T_retag.1 m_T_retag.1 ∈ xT := xT_in (List.mem_append_left _ (List.mem_of_getElem? (i := 19) rfl)) rfl
theorem wc_T_retag : xwV m_T_retag "PieceTexts$Trees" 4 := ⟨wv_T_retag, wz_T_retag, wi_T, wx_T_retag, ⟨by decide, by decide⟩, by decide +kernel, by decide⟩
set_option maxRecDepth 20000 in
theorem wm_P_134 : xml "PieceTexts" 134 m_T_retag.1 (some "PieceTexts") ∈ xT := xT_in (List.mem_append_right _ (List.mem_of_getElem? (i := 453) rfl)) rfl
set_option maxRecDepth 20000 in
theorem wm_P_131 : xml "PieceTexts" 131 m_Y_afterTag.1 (some "PieceTexts") ∈ xT := xT_in (List.mem_append_right _ (List.mem_of_getElem? (i := 443) rfl)) rfl
set_option maxRecDepth 20000 in
theorem wx_Y_afterTag : xcode m_Y_afterTag ∈ xT := xT_in (List.mem_append_right _ (List.mem_of_getElem? (i := 445) rfl)) rfl
set_option maxRecDepth 20000 in
theorem ws_Y_afterTag : Cond.static m_Y_afterTag.1 ∈ xT := xT_in (List.mem_append_right _ (List.mem_of_getElem? (i := 444) rfl)) rfl
theorem wc_Y_afterTag : xwS m_Y_afterTag 5 := ⟨ws_Y_afterTag, wi_Y, wx_Y_afterTag, ⟨by decide, by decide⟩, by decide +kernel, by decide⟩
set_option maxRecDepth 20000 in
theorem wm_T_38 : xml "PieceTexts$Trees" 38 m_T_giveBackAll.1 none ∈ xT := xT_in (List.mem_append_right _ (List.mem_of_getElem? (i := 471) rfl)) rfl
set_option maxRecDepth 20000 in
theorem wx_T_giveBackAll : xcode m_T_giveBackAll ∈ xT := xT_in (List.mem_append_right _ (List.mem_of_getElem? (i := 470) rfl)) rfl
set_option maxRecDepth 20000 in
theorem wv_T_giveBackAll : Cond.instanceMethod m_T_giveBackAll.1 ∈ xT := xT_in (List.mem_append_right _ (List.mem_of_getElem? (i := 469) rfl)) rfl
set_option maxRecDepth 20000 in
theorem wz_T_giveBackAll : Cond.selects "PieceTexts$Trees" m_T_giveBackAll.1 m_T_giveBackAll.1 ∈ xT := xT_in (List.mem_append_left _ (List.mem_of_getElem? (i := 20) rfl)) rfl
theorem wc_T_giveBackAll : xwV m_T_giveBackAll "PieceTexts$Trees" 2 := ⟨wv_T_giveBackAll, wz_T_giveBackAll, wi_T, wx_T_giveBackAll, ⟨by decide, by decide⟩, by decide +kernel, by decide⟩
set_option maxRecDepth 20000 in
theorem wm_P_140 : xml "PieceTexts" 140 m_T_giveBackAll.1 (some "PieceTexts") ∈ xT := xT_in (List.mem_append_right _ (List.mem_of_getElem? (i := 467) rfl)) rfl
set_option maxRecDepth 20000 in
theorem wm_P_154 : xml "PieceTexts" 154 m_P_byteAt.1 none ∈ xT := xT_in (List.mem_append_right _ (List.mem_of_getElem? (i := 480) rfl)) rfl
set_option maxRecDepth 20000 in
theorem wx_P_byteAt : xcode m_P_byteAt ∈ xT := xT_in (List.mem_append_right _ (List.mem_of_getElem? (i := 483) rfl)) rfl
set_option maxRecDepth 20000 in
theorem wv_P_byteAt : Cond.instanceMethod m_P_byteAt.1 ∈ xT := xT_in (List.mem_append_right _ (List.mem_of_getElem? (i := 482) rfl)) rfl
set_option maxRecDepth 20000 in
theorem wz_P_byteAt : Cond.selects "PieceTexts" m_P_byteAt.1 m_P_byteAt.1 ∈ xT := xT_in (List.mem_append_left _ (List.mem_of_getElem? (i := 21) rfl)) rfl
theorem wc_P_byteAt : xwV m_P_byteAt "PieceTexts" 1 := ⟨wv_P_byteAt, wz_P_byteAt, wi_P, wx_P_byteAt, ⟨by decide, by decide⟩, by decide +kernel, by decide⟩
set_option maxRecDepth 20000 in
theorem wm_P_150 : xml "PieceTexts" 150 m_R_sourceAt.1 (some "PieceTexts") ∈ xT := xT_in (List.mem_append_right _ (List.mem_of_getElem? (i := 479) rfl)) rfl
set_option maxRecDepth 20000 in
theorem wm_P_158 : xml "PieceTexts" 158 m_R_tagAt.1 (some "PieceTexts") ∈ xT := xT_in (List.mem_append_right _ (List.mem_of_getElem? (i := 484) rfl)) rfl
set_option maxRecDepth 20000 in
theorem wm_P_161 : xml "PieceTexts" 161 m_R_orderAt.1 (some "PieceTexts") ∈ xT := xT_in (List.mem_append_right _ (List.mem_of_getElem? (i := 485) rfl)) rfl
set_option maxRecDepth 20000 in
theorem wt_P_164 : Cond.stringRef "PieceTexts" 164 "no such property of a character" ∈ xT := xT_in (List.mem_append_right _ (List.mem_of_getElem? (i := 486) rfl)) rfl
set_option maxRecDepth 20000 in
theorem wt_P_170 : Cond.stringRef "PieceTexts" 170 "no such piece" ∈ xT := xT_in (List.mem_append_right _ (List.mem_of_getElem? (i := 495) rfl)) rfl
set_option maxRecDepth 20000 in
theorem wm_P_172 : xml "PieceTexts" 172 m_R_startOf.1 (some "PieceTexts") ∈ xT := xT_in (List.mem_append_right _ (List.mem_of_getElem? (i := 496) rfl)) rfl
set_option maxRecDepth 20000 in
theorem wf_P_175 : xfl "PieceTexts" 175 (TX_2 0) (some "PieceTexts") ∈ xT := xT_in (List.mem_append_right _ (List.mem_of_getElem? (i := 322) rfl)) rfl
set_option maxRecDepth 20000 in
theorem wf_P_178 : xfl "PieceTexts" 178 (TX_2 1) (some "PieceTexts") ∈ xT := xT_in (List.mem_append_right _ (List.mem_of_getElem? (i := 327) rfl)) rfl
set_option maxRecDepth 20000 in
theorem wf_P_181 : xfl "PieceTexts" 181 (TX_2 2) (some "PieceTexts") ∈ xT := xT_in (List.mem_append_right _ (List.mem_of_getElem? (i := 331) rfl)) rfl
set_option maxRecDepth 20000 in
theorem wt_P_184 : Cond.stringRef "PieceTexts" 184 "no such property of a piece" ∈ xT := xT_in (List.mem_append_right _ (List.mem_of_getElem? (i := 497) rfl)) rfl
set_option maxRecDepth 20000 in
theorem wm_P_166 : xml "PieceTexts" 166 m_R_numbered.1 (some "PieceTexts") ∈ xT := xT_in (List.mem_append_right _ (List.mem_of_getElem? (i := 494) rfl)) rfl
set_option maxRecDepth 20000 in
theorem wf_D_33 : xfl "PieceTexts$Reader" 33 (TX_3 3) none ∈ xT := xT_in (List.mem_append_right _ (List.mem_of_getElem? (i := 517) rfl)) rfl
set_option maxRecDepth 20000 in
theorem wm_D_30 : xml "PieceTexts$Reader" 30 m_R_startOf.1 (some "PieceTexts") ∈ xT := xT_in (List.mem_append_right _ (List.mem_of_getElem? (i := 513) rfl)) rfl
set_option maxRecDepth 20000 in
theorem wf_D_19 : xfl "PieceTexts$Reader" 19 (TX_3 1) none ∈ xT := xT_in (List.mem_append_right _ (List.mem_of_getElem? (i := 515) rfl)) rfl
set_option maxRecDepth 20000 in
theorem wf_D_27 : xfl "PieceTexts$Reader" 27 (TX_3 2) none ∈ xT := xT_in (List.mem_append_right _ (List.mem_of_getElem? (i := 516) rfl)) rfl
set_option maxRecDepth 20000 in
theorem wm_D_23 : xml "PieceTexts$Reader" 23 m_R_numbered.1 (some "PieceTexts") ∈ xT := xT_in (List.mem_append_right _ (List.mem_of_getElem? (i := 512) rfl)) rfl
set_option maxRecDepth 20000 in
theorem wm_D_13 : xml "PieceTexts$Reader" 13 m_R_orderAt.1 (some "PieceTexts") ∈ xT := xT_in (List.mem_append_right _ (List.mem_of_getElem? (i := 511) rfl)) rfl
set_option maxRecDepth 20000 in
theorem wf_D_7p : Cond.fieldLink "PieceTexts$Reader" 7 (TX_3 0).1 (TX_3 0).2.1 (TX_3 0).2.2.1 ∈ xT := xT_in (List.mem_append_right _ (List.mem_of_getElem? (i := 514) rfl)) rfl
set_option maxRecDepth 20000 in
theorem wO_D_1 : Cond.methodLink "PieceTexts$Reader" 1 objectInit ∈ xT := xT_in (List.mem_append_right _ (List.mem_of_getElem? (i := 510) rfl)) rfl
set_option maxRecDepth 20000 in
theorem wf_D_7 : xfl "PieceTexts$Reader" 7 (TX_3 0) none ∈ xT := xT_in (List.mem_append_right _ (List.mem_of_getElem? (i := 514) rfl)) rfl
set_option maxRecDepth 20000 in
theorem wf_D_41 : xfl "PieceTexts$Reader" 41 (TX_2 1) (some "PieceTexts") ∈ xT := xT_in (List.mem_append_right _ (List.mem_of_getElem? (i := 323) rfl)) rfl
set_option maxRecDepth 20000 in
theorem wf_D_36 : xfl "PieceTexts$Reader" 36 (TX_2 0) (some "PieceTexts") ∈ xT := xT_in (List.mem_append_right _ (List.mem_of_getElem? (i := 318) rfl)) rfl
set_option maxRecDepth 20000 in
theorem wm_P_188 : xml "PieceTexts" 188 m_D_init.1 (some "PieceTexts") ∈ xT := xT_in (List.mem_append_right _ (List.mem_of_getElem? (i := 507) rfl)) rfl
set_option maxRecDepth 20000 in
theorem wi_D : Cond.initialized "PieceTexts$Reader" ∈ xT := xT_in (List.mem_append_right _ (List.mem_of_getElem? (i := 15) rfl)) rfl
set_option maxRecDepth 20000 in
theorem wx_D_init : xcode m_D_init ∈ xT := xT_in (List.mem_append_right _ (List.mem_of_getElem? (i := 509) rfl)) rfl
set_option maxRecDepth 20000 in
theorem wv_D_init : Cond.instanceMethod m_D_init.1 ∈ xT := xT_in (List.mem_append_right _ (List.mem_of_getElem? (i := 508) rfl)) rfl
theorem wc_D_init : xwI m_D_init 2 := ⟨wv_D_init, rfl, ⟨_, _, rfl⟩, wi_D, wx_D_init, ⟨by decide, by decide⟩, by decide +kernel, by decide⟩
set_option maxRecDepth 20000 in
theorem wk_P_186 : Cond.classLink "PieceTexts" 186 "PieceTexts$Reader" ∈ xT := xT_in (List.mem_append_right _ (List.mem_of_getElem? (i := 505) rfl)) rfl
set_option maxRecDepth 20000 in
theorem wn_3 : Cond.instantiable "PieceTexts$Reader" 4 ∈ xT := xT_in (List.mem_append_right _ (List.mem_of_getElem? (i := 506) rfl)) rfl
set_option maxRecDepth 20000 in
theorem wm_P_190 : xml "PieceTexts" 190 m_D_nextSource.1 (some "PieceTexts") ∈ xT := xT_in (List.mem_append_right _ (List.mem_of_getElem? (i := 527) rfl)) rfl
set_option maxRecDepth 20000 in
theorem wx_D_nextSource : xcode m_D_nextSource ∈ xT := xT_in (List.mem_append_right _ (List.mem_of_getElem? (i := 530) rfl)) rfl
set_option maxRecDepth 20000 in
theorem wv_D_nextSource : Cond.instanceMethod m_D_nextSource.1 ∈ xT := xT_in (List.mem_append_right _ (List.mem_of_getElem? (i := 529) rfl)) rfl
set_option maxRecDepth 20000 in
theorem wz_D_nextSource : Cond.selects "PieceTexts$Reader" m_D_nextSource.1 m_D_nextSource.1 ∈ xT := xT_in (List.mem_append_left _ (List.mem_of_getElem? (i := 22) rfl)) rfl
theorem wc_D_nextSource : xwV m_D_nextSource "PieceTexts$Reader" 0 := ⟨wv_D_nextSource, wz_D_nextSource, wi_D, wx_D_nextSource, ⟨by decide, by decide⟩, by decide +kernel, by decide⟩
set_option maxRecDepth 20000 in
theorem wh_P_194 : Cond.methodLink "PieceTexts" 194 Lib.Math.max.name ∈ xT := xT_in (List.mem_append_right _ (List.mem_of_getElem? (i := 538) rfl)) rfl
set_option maxRecDepth 20000 in
theorem wm_R_57 : xml "PieceTexts$Row" 57 m_R_heightOf.1 none ∈ xT := xT_in (List.mem_append_right _ (List.mem_of_getElem? (i := 87) rfl)) rfl
set_option maxRecDepth 20000 in
theorem wm_P_212 : xml "PieceTexts" 212 m_R_isShallow.1 (some "PieceTexts") ∈ xT := xT_in (List.mem_append_right _ (List.mem_of_getElem? (i := 84) rfl)) rfl
set_option maxRecDepth 20000 in
theorem wx_R_isShallow : xcode m_R_isShallow ∈ xT := xT_in (List.mem_append_right _ (List.mem_of_getElem? (i := 86) rfl)) rfl
set_option maxRecDepth 20000 in
theorem ws_R_isShallow : Cond.static m_R_isShallow.1 ∈ xT := xT_in (List.mem_append_right _ (List.mem_of_getElem? (i := 85) rfl)) rfl
theorem wc_R_isShallow : xwS m_R_isShallow 1 := ⟨ws_R_isShallow, wi_R, wx_R_isShallow, ⟨by decide, by decide⟩, by decide +kernel, by decide⟩
set_option maxRecDepth 20000 in
theorem wm_P_206 : xml "PieceTexts" 206 m_P_allShallow.1 none ∈ xT := xT_in (List.mem_append_right _ (List.mem_of_getElem? (i := 80) rfl)) rfl
set_option maxRecDepth 20000 in
theorem wx_P_allShallow : xcode m_P_allShallow ∈ xT := xT_in (List.mem_append_right _ (List.mem_of_getElem? (i := 83) rfl)) rfl
set_option maxRecDepth 20000 in
theorem wv_P_allShallow : Cond.instanceMethod m_P_allShallow.1 ∈ xT := xT_in (List.mem_append_right _ (List.mem_of_getElem? (i := 82) rfl)) rfl
set_option maxRecDepth 20000 in
theorem wz_P_allShallow : Cond.selects "PieceTexts" m_P_allShallow.1 m_P_allShallow.1 ∈ xT := xT_in (List.mem_append_left _ (List.mem_of_getElem? (i := 4) rfl)) rfl
theorem wc_P_allShallow : xwV m_P_allShallow "PieceTexts" 0 := ⟨wv_P_allShallow, wz_P_allShallow, wi_P, wx_P_allShallow, ⟨by decide, by decide⟩, by decide +kernel, by decide⟩
set_option maxRecDepth 20000 in
theorem wf_M_25p : Cond.fieldLink "PieceTextsModel" 25 (TX_5 7).1 (TX_5 7).2.1 (TX_5 7).2.2.1 ∈ xT := xT_in (List.mem_append_right _ (List.mem_of_getElem? (i := 552) rfl)) rfl
set_option maxRecDepth 20000 in
theorem wa_3 : Cond.arrayClass .int ∈ xT := xT_in (List.mem_append_right _ (List.mem_of_getElem? (i := 570) rfl)) rfl
set_option maxRecDepth 20000 in
theorem wf_M_22p : Cond.fieldLink "PieceTextsModel" 22 (TX_5 6).1 (TX_5 6).2.1 (TX_5 6).2.2.1 ∈ xT := xT_in (List.mem_append_right _ (List.mem_of_getElem? (i := 551) rfl)) rfl
set_option maxRecDepth 20000 in
theorem wf_M_19p : Cond.fieldLink "PieceTextsModel" 19 (TX_5 5).1 (TX_5 5).2.1 (TX_5 5).2.2.1 ∈ xT := xT_in (List.mem_append_right _ (List.mem_of_getElem? (i := 550) rfl)) rfl
set_option maxRecDepth 20000 in
theorem wf_M_16p : Cond.fieldLink "PieceTextsModel" 16 (TX_5 4).1 (TX_5 4).2.1 (TX_5 4).2.2.1 ∈ xT := xT_in (List.mem_append_right _ (List.mem_of_getElem? (i := 549) rfl)) rfl
set_option maxRecDepth 20000 in
theorem wf_M_13p : Cond.fieldLink "PieceTextsModel" 13 (TX_5 3).1 (TX_5 3).2.1 (TX_5 3).2.2.1 ∈ xT := xT_in (List.mem_append_right _ (List.mem_of_getElem? (i := 548) rfl)) rfl
set_option maxRecDepth 20000 in
theorem wf_M_7p : Cond.fieldLink "PieceTextsModel" 7 (TX_5 2).1 (TX_5 2).2.1 (TX_5 2).2.2.1 ∈ xT := xT_in (List.mem_append_right _ (List.mem_of_getElem? (i := 547) rfl)) rfl
set_option maxRecDepth 20000 in
theorem wO_M_1 : Cond.methodLink "PieceTextsModel" 1 objectInit ∈ xT := xT_in (List.mem_append_right _ (List.mem_of_getElem? (i := 544) rfl)) rfl
set_option maxRecDepth 20000 in
theorem wf_M_28 : xfl "PieceTextsModel" 28 (TX_5 0) none ∈ xT := xT_in (List.mem_append_right _ (List.mem_of_getElem? (i := 545) rfl)) rfl
set_option maxRecDepth 20000 in
theorem wf_M_13 : xfl "PieceTextsModel" 13 (TX_5 3) none ∈ xT := xT_in (List.mem_append_right _ (List.mem_of_getElem? (i := 548) rfl)) rfl
set_option maxRecDepth 20000 in
theorem wm_M_36 : xml "PieceTextsModel" 36 m_M_size.1 none ∈ xT := xT_in (List.mem_append_right _ (List.mem_of_getElem? (i := 595) rfl)) rfl
set_option maxRecDepth 20000 in
theorem wi_M : Cond.initialized "PieceTextsModel" ∈ xT := xT_in (List.mem_append_right _ (List.mem_of_getElem? (i := 3) rfl)) rfl
set_option maxRecDepth 20000 in
theorem wx_M_size : xcode m_M_size ∈ xT := xT_in (List.mem_append_right _ (List.mem_of_getElem? (i := 598) rfl)) rfl
set_option maxRecDepth 20000 in
theorem wv_M_size : Cond.instanceMethod m_M_size.1 ∈ xT := xT_in (List.mem_append_right _ (List.mem_of_getElem? (i := 597) rfl)) rfl
set_option maxRecDepth 20000 in
theorem wz_M_size : Cond.selects "PieceTextsModel" m_M_size.1 m_M_size.1 ∈ xT := xT_in (List.mem_append_left _ (List.mem_of_getElem? (i := 25) rfl)) rfl
theorem wc_M_size : xwV m_M_size "PieceTextsModel" 1 := ⟨wv_M_size, wz_M_size, wi_M, wx_M_size, ⟨by decide, by decide⟩, by decide +kernel, by decide⟩
set_option maxRecDepth 20000 in
theorem wm_M_32 : xml "PieceTextsModel" 32 m_M_isText.1 none ∈ xT := xT_in (List.mem_append_right _ (List.mem_of_getElem? (i := 592) rfl)) rfl
set_option maxRecDepth 20000 in
theorem wx_M_isText : xcode m_M_isText ∈ xT := xT_in (List.mem_append_right _ (List.mem_of_getElem? (i := 594) rfl)) rfl
set_option maxRecDepth 20000 in
theorem ws_M_isText : Cond.static m_M_isText.1 ∈ xT := xT_in (List.mem_append_right _ (List.mem_of_getElem? (i := 593) rfl)) rfl
theorem wc_M_isText : xwS m_M_isText 1 := ⟨ws_M_isText, wi_M, wx_M_isText, ⟨by decide, by decide⟩, by decide +kernel, by decide⟩
set_option maxRecDepth 20000 in
theorem wm_M_40 : xml "PieceTextsModel" 40 m_M_isPlace.1 none ∈ xT := xT_in (List.mem_append_right _ (List.mem_of_getElem? (i := 588) rfl)) rfl
set_option maxRecDepth 20000 in
theorem wx_M_isPlace : xcode m_M_isPlace ∈ xT := xT_in (List.mem_append_right _ (List.mem_of_getElem? (i := 591) rfl)) rfl
set_option maxRecDepth 20000 in
theorem wv_M_isPlace : Cond.instanceMethod m_M_isPlace.1 ∈ xT := xT_in (List.mem_append_right _ (List.mem_of_getElem? (i := 590) rfl)) rfl
set_option maxRecDepth 20000 in
theorem wz_M_isPlace : Cond.selects "PieceTextsModel" m_M_isPlace.1 m_M_isPlace.1 ∈ xT := xT_in (List.mem_append_left _ (List.mem_of_getElem? (i := 24) rfl)) rfl
theorem wc_M_isPlace : xwV m_M_isPlace "PieceTextsModel" 2 := ⟨wv_M_isPlace, wz_M_isPlace, wi_M, wx_M_isPlace, ⟨by decide, by decide⟩, by decide +kernel, by decide⟩
set_option maxRecDepth 20000 in
theorem wl_M_44 : Cond.constantLong "PieceTextsModel" 44 255 ∈ xT := xT_in (List.mem_append_right _ (List.mem_of_getElem? (i := 579) rfl)) rfl
set_option maxRecDepth 20000 in
theorem wm_M_49 : xml "PieceTextsModel" 49 m_M_raise.1 none ∈ xT := xT_in (List.mem_append_right _ (List.mem_of_getElem? (i := 580) rfl)) rfl
set_option maxRecDepth 20000 in
theorem wx_M_raise : xcode m_M_raise ∈ xT := xT_in (List.mem_append_right _ (List.mem_of_getElem? (i := 583) rfl)) rfl
set_option maxRecDepth 20000 in
theorem wv_M_raise : Cond.instanceMethod m_M_raise.1 ∈ xT := xT_in (List.mem_append_right _ (List.mem_of_getElem? (i := 582) rfl)) rfl
set_option maxRecDepth 20000 in
theorem wz_M_raise : Cond.selects "PieceTextsModel" m_M_raise.1 m_M_raise.1 ∈ xT := xT_in (List.mem_append_left _ (List.mem_of_getElem? (i := 23) rfl)) rfl
theorem wc_M_raise : xwV m_M_raise "PieceTextsModel" 1 := ⟨wv_M_raise, wz_M_raise, wi_M, wx_M_raise, ⟨by decide, by decide⟩, by decide +kernel, by decide⟩
set_option maxRecDepth 20000 in
theorem wf_M_46 : xfl "PieceTextsModel" 46 (TX_5 1) none ∈ xT := xT_in (List.mem_append_right _ (List.mem_of_getElem? (i := 546) rfl)) rfl
set_option maxRecDepth 20000 in
theorem wf_M_7 : xfl "PieceTextsModel" 7 (TX_5 2) none ∈ xT := xT_in (List.mem_append_right _ (List.mem_of_getElem? (i := 547) rfl)) rfl
set_option maxRecDepth 20000 in
theorem wf_M_19 : xfl "PieceTextsModel" 19 (TX_5 5) none ∈ xT := xT_in (List.mem_append_right _ (List.mem_of_getElem? (i := 550) rfl)) rfl
set_option maxRecDepth 20000 in
theorem wf_M_25 : xfl "PieceTextsModel" 25 (TX_5 7) none ∈ xT := xT_in (List.mem_append_right _ (List.mem_of_getElem? (i := 552) rfl)) rfl
set_option maxRecDepth 20000 in
theorem wf_M_16 : xfl "PieceTextsModel" 16 (TX_5 4) none ∈ xT := xT_in (List.mem_append_right _ (List.mem_of_getElem? (i := 549) rfl)) rfl
set_option maxRecDepth 20000 in
theorem wf_M_22 : xfl "PieceTextsModel" 22 (TX_5 6) none ∈ xT := xT_in (List.mem_append_right _ (List.mem_of_getElem? (i := 551) rfl)) rfl
set_option maxRecDepth 20000 in
theorem wm_M_52 : xml "PieceTextsModel" 52 m_M_parts.1 none ∈ xT := xT_in (List.mem_append_right _ (List.mem_of_getElem? (i := 611) rfl)) rfl
set_option maxRecDepth 20000 in
theorem wx_M_parts : xcode m_M_parts ∈ xT := xT_in (List.mem_append_right _ (List.mem_of_getElem? (i := 614) rfl)) rfl
set_option maxRecDepth 20000 in
theorem wv_M_parts : Cond.instanceMethod m_M_parts.1 ∈ xT := xT_in (List.mem_append_right _ (List.mem_of_getElem? (i := 613) rfl)) rfl
set_option maxRecDepth 20000 in
theorem wz_M_parts : Cond.selects "PieceTextsModel" m_M_parts.1 m_M_parts.1 ∈ xT := xT_in (List.mem_append_left _ (List.mem_of_getElem? (i := 29) rfl)) rfl
theorem wc_M_parts : xwV m_M_parts "PieceTextsModel" 2 := ⟨wv_M_parts, wz_M_parts, wi_M, wx_M_parts, ⟨by decide, by decide⟩, by decide +kernel, by decide⟩
set_option maxRecDepth 20000 in
theorem wm_M_55 : xml "PieceTextsModel" 55 m_M_pieces.1 none ∈ xT := xT_in (List.mem_append_right _ (List.mem_of_getElem? (i := 607) rfl)) rfl
set_option maxRecDepth 20000 in
theorem wx_M_pieces : xcode m_M_pieces ∈ xT := xT_in (List.mem_append_right _ (List.mem_of_getElem? (i := 610) rfl)) rfl
set_option maxRecDepth 20000 in
theorem wv_M_pieces : Cond.instanceMethod m_M_pieces.1 ∈ xT := xT_in (List.mem_append_right _ (List.mem_of_getElem? (i := 609) rfl)) rfl
set_option maxRecDepth 20000 in
theorem wz_M_pieces : Cond.selects "PieceTextsModel" m_M_pieces.1 m_M_pieces.1 ∈ xT := xT_in (List.mem_append_left _ (List.mem_of_getElem? (i := 28) rfl)) rfl
theorem wc_M_pieces : xwV m_M_pieces "PieceTextsModel" 1 := ⟨wv_M_pieces, wz_M_pieces, wi_M, wx_M_pieces, ⟨by decide, by decide⟩, by decide +kernel, by decide⟩
set_option maxRecDepth 20000 in
theorem wm_M_66 : xml "PieceTextsModel" 66 m_M_remove.1 none ∈ xT := xT_in (List.mem_append_right _ (List.mem_of_getElem? (i := 615) rfl)) rfl
set_option maxRecDepth 20000 in
theorem wx_M_remove : xcode m_M_remove ∈ xT := xT_in (List.mem_append_right _ (List.mem_of_getElem? (i := 618) rfl)) rfl
set_option maxRecDepth 20000 in
theorem wv_M_remove : Cond.instanceMethod m_M_remove.1 ∈ xT := xT_in (List.mem_append_right _ (List.mem_of_getElem? (i := 617) rfl)) rfl
set_option maxRecDepth 20000 in
theorem wz_M_remove : Cond.selects "PieceTextsModel" m_M_remove.1 m_M_remove.1 ∈ xT := xT_in (List.mem_append_left _ (List.mem_of_getElem? (i := 30) rfl)) rfl
theorem wc_M_remove : xwV m_M_remove "PieceTextsModel" 3 := ⟨wv_M_remove, wz_M_remove, wi_M, wx_M_remove, ⟨by decide, by decide⟩, by decide +kernel, by decide⟩
set_option maxRecDepth 20000 in
theorem wm_M_62 : xml "PieceTextsModel" 62 m_M_allPieces.1 none ∈ xT := xT_in (List.mem_append_right _ (List.mem_of_getElem? (i := 603) rfl)) rfl
set_option maxRecDepth 20000 in
theorem wx_M_allPieces : xcode m_M_allPieces ∈ xT := xT_in (List.mem_append_right _ (List.mem_of_getElem? (i := 606) rfl)) rfl
set_option maxRecDepth 20000 in
theorem wv_M_allPieces : Cond.instanceMethod m_M_allPieces.1 ∈ xT := xT_in (List.mem_append_right _ (List.mem_of_getElem? (i := 605) rfl)) rfl
set_option maxRecDepth 20000 in
theorem wz_M_allPieces : Cond.selects "PieceTextsModel" m_M_allPieces.1 m_M_allPieces.1 ∈ xT := xT_in (List.mem_append_left _ (List.mem_of_getElem? (i := 27) rfl)) rfl
theorem wc_M_allPieces : xwV m_M_allPieces "PieceTextsModel" 0 := ⟨wv_M_allPieces, wz_M_allPieces, wi_M, wx_M_allPieces, ⟨by decide, by decide⟩, by decide +kernel, by decide⟩
set_option maxRecDepth 20000 in
theorem wm_M_58 : xml "PieceTextsModel" 58 m_M_insert.1 none ∈ xT := xT_in (List.mem_append_right _ (List.mem_of_getElem? (i := 599) rfl)) rfl
set_option maxRecDepth 20000 in
theorem wx_M_insert : xcode m_M_insert ∈ xT := xT_in (List.mem_append_right _ (List.mem_of_getElem? (i := 602) rfl)) rfl
set_option maxRecDepth 20000 in
theorem wv_M_insert : Cond.instanceMethod m_M_insert.1 ∈ xT := xT_in (List.mem_append_right _ (List.mem_of_getElem? (i := 601) rfl)) rfl
set_option maxRecDepth 20000 in
theorem wz_M_insert : Cond.selects "PieceTextsModel" m_M_insert.1 m_M_insert.1 ∈ xT := xT_in (List.mem_append_left _ (List.mem_of_getElem? (i := 26) rfl)) rfl
theorem wc_M_insert : xwV m_M_insert "PieceTextsModel" 3 := ⟨wv_M_insert, wz_M_insert, wi_M, wx_M_insert, ⟨by decide, by decide⟩, by decide +kernel, by decide⟩
set_option maxRecDepth 20000 in
theorem wm_M_69 : xml "PieceTextsModel" 69 m_M_isRange.1 none ∈ xT := xT_in (List.mem_append_right _ (List.mem_of_getElem? (i := 623) rfl)) rfl
set_option maxRecDepth 20000 in
theorem wx_M_isRange : xcode m_M_isRange ∈ xT := xT_in (List.mem_append_right _ (List.mem_of_getElem? (i := 626) rfl)) rfl
set_option maxRecDepth 20000 in
theorem wv_M_isRange : Cond.instanceMethod m_M_isRange.1 ∈ xT := xT_in (List.mem_append_right _ (List.mem_of_getElem? (i := 625) rfl)) rfl
set_option maxRecDepth 20000 in
theorem wz_M_isRange : Cond.selects "PieceTextsModel" m_M_isRange.1 m_M_isRange.1 ∈ xT := xT_in (List.mem_append_left _ (List.mem_of_getElem? (i := 31) rfl)) rfl
theorem wc_M_isRange : xwV m_M_isRange "PieceTextsModel" 3 := ⟨wv_M_isRange, wz_M_isRange, wi_M, wx_M_isRange, ⟨by decide, by decide⟩, by decide +kernel, by decide⟩
set_option maxRecDepth 20000 in
theorem wm_M_73 : xml "PieceTextsModel" 73 m_M_keep.1 none ∈ xT := xT_in (List.mem_append_right _ (List.mem_of_getElem? (i := 627) rfl)) rfl
set_option maxRecDepth 20000 in
theorem wx_M_keep : xcode m_M_keep ∈ xT := xT_in (List.mem_append_right _ (List.mem_of_getElem? (i := 630) rfl)) rfl
set_option maxRecDepth 20000 in
theorem wv_M_keep : Cond.instanceMethod m_M_keep.1 ∈ xT := xT_in (List.mem_append_right _ (List.mem_of_getElem? (i := 629) rfl)) rfl
set_option maxRecDepth 20000 in
theorem wz_M_keep : Cond.selects "PieceTextsModel" m_M_keep.1 m_M_keep.1 ∈ xT := xT_in (List.mem_append_left _ (List.mem_of_getElem? (i := 32) rfl)) rfl
theorem wc_M_keep : xwV m_M_keep "PieceTextsModel" 3 := ⟨wv_M_keep, wz_M_keep, wi_M, wx_M_keep, ⟨by decide, by decide⟩, by decide +kernel, by decide⟩
set_option maxRecDepth 20000 in
theorem wq_0 : Cond.castable (xE 0) (xE 0) ∈ xT := xT_in (List.mem_append_right _ (List.mem_of_getElem? (i := 106) rfl)) rfl
set_option maxRecDepth 20000 in
theorem wg_L_13 : Cond.classLink "PieceTextsLaw" 13 (xE 0) ∈ xT := xT_in (List.mem_append_right _ (List.mem_of_getElem? (i := 94) rfl)) rfl
set_option maxRecDepth 20000 in
theorem wq_1 : Cond.castable (xE 1) (xE 1) ∈ xT := xT_in (List.mem_append_right _ (List.mem_of_getElem? (i := 173) rfl)) rfl
set_option maxRecDepth 20000 in
theorem wg_L_15 : Cond.classLink "PieceTextsLaw" 15 (xE 1) ∈ xT := xT_in (List.mem_append_right _ (List.mem_of_getElem? (i := 95) rfl)) rfl
set_option maxRecDepth 20000 in
theorem wm_L_7 : xml "PieceTextsLaw" 7 m_P_write.1 none ∈ xT := xT_in (List.mem_append_right _ (List.mem_of_getElem? (i := 96) rfl)) rfl
set_option maxRecDepth 20000 in
theorem wx_P_write : xcode m_P_write ∈ xT := xT_in (List.mem_append_right _ (List.mem_of_getElem? (i := 99) rfl)) rfl
set_option maxRecDepth 20000 in
theorem wv_P_write : Cond.instanceMethod m_P_write.1 ∈ xT := xT_in (List.mem_append_right _ (List.mem_of_getElem? (i := 97) rfl)) rfl
set_option maxRecDepth 20000 in
theorem wz_P_write : Cond.selects "PieceTexts" m_P_write.1 m_P_write.1 ∈ xT := xT_in (List.mem_append_right _ (List.mem_of_getElem? (i := 98) rfl)) rfl
theorem wc_P_write : xwV m_P_write "PieceTexts" 1 := ⟨wv_P_write, wz_P_write, wi_P, wx_P_write, ⟨by decide, by decide⟩, by decide +kernel, by decide⟩
set_option maxRecDepth 20000 in
theorem wq_2 : Cond.castable (xE 2) (xE 2) ∈ xT := xT_in (List.mem_append_right _ (List.mem_of_getElem? (i := 209) rfl)) rfl
set_option maxRecDepth 20000 in
theorem wg_L_21 : Cond.classLink "PieceTextsLaw" 21 (xE 2) ∈ xT := xT_in (List.mem_append_right _ (List.mem_of_getElem? (i := 194) rfl)) rfl
set_option maxRecDepth 20000 in
theorem wm_L_17 : xml "PieceTextsLaw" 17 m_P_put.1 none ∈ xT := xT_in (List.mem_append_right _ (List.mem_of_getElem? (i := 195) rfl)) rfl
set_option maxRecDepth 20000 in
theorem wx_P_put : xcode m_P_put ∈ xT := xT_in (List.mem_append_right _ (List.mem_of_getElem? (i := 198) rfl)) rfl
set_option maxRecDepth 20000 in
theorem wv_P_put : Cond.instanceMethod m_P_put.1 ∈ xT := xT_in (List.mem_append_right _ (List.mem_of_getElem? (i := 196) rfl)) rfl
set_option maxRecDepth 20000 in
theorem wz_P_put : Cond.selects "PieceTexts" m_P_put.1 m_P_put.1 ∈ xT := xT_in (List.mem_append_right _ (List.mem_of_getElem? (i := 197) rfl)) rfl
theorem wc_P_put : xwV m_P_put "PieceTexts" 5 := ⟨wv_P_put, wz_P_put, wi_P, wx_P_put, ⟨by decide, by decide⟩, by decide +kernel, by decide⟩
set_option maxRecDepth 20000 in
theorem wm_L_23 : xml "PieceTextsLaw" 23 m_P_cut.1 none ∈ xT := xT_in (List.mem_append_right _ (List.mem_of_getElem? (i := 390) rfl)) rfl
set_option maxRecDepth 20000 in
theorem wx_P_cut : xcode m_P_cut ∈ xT := xT_in (List.mem_append_right _ (List.mem_of_getElem? (i := 393) rfl)) rfl
set_option maxRecDepth 20000 in
theorem wv_P_cut : Cond.instanceMethod m_P_cut.1 ∈ xT := xT_in (List.mem_append_right _ (List.mem_of_getElem? (i := 391) rfl)) rfl
set_option maxRecDepth 20000 in
theorem wz_P_cut : Cond.selects "PieceTexts" m_P_cut.1 m_P_cut.1 ∈ xT := xT_in (List.mem_append_right _ (List.mem_of_getElem? (i := 392) rfl)) rfl
theorem wc_P_cut : xwV m_P_cut "PieceTexts" 4 := ⟨wv_P_cut, wz_P_cut, wi_P, wx_P_cut, ⟨by decide, by decide⟩, by decide +kernel, by decide⟩
set_option maxRecDepth 20000 in
theorem wm_L_27 : xml "PieceTextsLaw" 27 m_P_paste.1 none ∈ xT := xT_in (List.mem_append_right _ (List.mem_of_getElem? (i := 413) rfl)) rfl
set_option maxRecDepth 20000 in
theorem wx_P_paste : xcode m_P_paste ∈ xT := xT_in (List.mem_append_right _ (List.mem_of_getElem? (i := 416) rfl)) rfl
set_option maxRecDepth 20000 in
theorem wv_P_paste : Cond.instanceMethod m_P_paste.1 ∈ xT := xT_in (List.mem_append_right _ (List.mem_of_getElem? (i := 414) rfl)) rfl
set_option maxRecDepth 20000 in
theorem wz_P_paste : Cond.selects "PieceTexts" m_P_paste.1 m_P_paste.1 ∈ xT := xT_in (List.mem_append_right _ (List.mem_of_getElem? (i := 415) rfl)) rfl
theorem wc_P_paste : xwV m_P_paste "PieceTexts" 3 := ⟨wv_P_paste, wz_P_paste, wi_P, wx_P_paste, ⟨by decide, by decide⟩, by decide +kernel, by decide⟩
set_option maxRecDepth 20000 in
theorem wm_L_31 : xml "PieceTextsLaw" 31 m_P_copy.1 none ∈ xT := xT_in (List.mem_append_right _ (List.mem_of_getElem? (i := 424) rfl)) rfl
set_option maxRecDepth 20000 in
theorem wx_P_copy : xcode m_P_copy ∈ xT := xT_in (List.mem_append_right _ (List.mem_of_getElem? (i := 427) rfl)) rfl
set_option maxRecDepth 20000 in
theorem wv_P_copy : Cond.instanceMethod m_P_copy.1 ∈ xT := xT_in (List.mem_append_right _ (List.mem_of_getElem? (i := 425) rfl)) rfl
set_option maxRecDepth 20000 in
theorem wz_P_copy : Cond.selects "PieceTexts" m_P_copy.1 m_P_copy.1 ∈ xT := xT_in (List.mem_append_right _ (List.mem_of_getElem? (i := 426) rfl)) rfl
theorem wc_P_copy : xwV m_P_copy "PieceTexts" 4 := ⟨wv_P_copy, wz_P_copy, wi_P, wx_P_copy, ⟨by decide, by decide⟩, by decide +kernel, by decide⟩
set_option maxRecDepth 20000 in
theorem wm_L_34 : xml "PieceTextsLaw" 34 m_P_tag.1 none ∈ xT := xT_in (List.mem_append_right _ (List.mem_of_getElem? (i := 439) rfl)) rfl
set_option maxRecDepth 20000 in
theorem wx_P_tag : xcode m_P_tag ∈ xT := xT_in (List.mem_append_right _ (List.mem_of_getElem? (i := 442) rfl)) rfl
set_option maxRecDepth 20000 in
theorem wv_P_tag : Cond.instanceMethod m_P_tag.1 ∈ xT := xT_in (List.mem_append_right _ (List.mem_of_getElem? (i := 440) rfl)) rfl
set_option maxRecDepth 20000 in
theorem wz_P_tag : Cond.selects "PieceTexts" m_P_tag.1 m_P_tag.1 ∈ xT := xT_in (List.mem_append_right _ (List.mem_of_getElem? (i := 441) rfl)) rfl
theorem wc_P_tag : xwV m_P_tag "PieceTexts" 5 := ⟨wv_P_tag, wz_P_tag, wi_P, wx_P_tag, ⟨by decide, by decide⟩, by decide +kernel, by decide⟩
set_option maxRecDepth 20000 in
theorem wm_L_37 : xml "PieceTextsLaw" 37 m_P_wipe.1 none ∈ xT := xT_in (List.mem_append_right _ (List.mem_of_getElem? (i := 463) rfl)) rfl
set_option maxRecDepth 20000 in
theorem wx_P_wipe : xcode m_P_wipe ∈ xT := xT_in (List.mem_append_right _ (List.mem_of_getElem? (i := 466) rfl)) rfl
set_option maxRecDepth 20000 in
theorem wv_P_wipe : Cond.instanceMethod m_P_wipe.1 ∈ xT := xT_in (List.mem_append_right _ (List.mem_of_getElem? (i := 464) rfl)) rfl
set_option maxRecDepth 20000 in
theorem wz_P_wipe : Cond.selects "PieceTexts" m_P_wipe.1 m_P_wipe.1 ∈ xT := xT_in (List.mem_append_right _ (List.mem_of_getElem? (i := 465) rfl)) rfl
theorem wc_P_wipe : xwV m_P_wipe "PieceTexts" 1 := ⟨wv_P_wipe, wz_P_wipe, wi_P, wx_P_wipe, ⟨by decide, by decide⟩, by decide +kernel, by decide⟩
set_option maxRecDepth 20000 in
theorem wm_L_41 : xml "PieceTextsLaw" 41 m_P_look.1 none ∈ xT := xT_in (List.mem_append_right _ (List.mem_of_getElem? (i := 475) rfl)) rfl
set_option maxRecDepth 20000 in
theorem wx_P_look : xcode m_P_look ∈ xT := xT_in (List.mem_append_right _ (List.mem_of_getElem? (i := 478) rfl)) rfl
set_option maxRecDepth 20000 in
theorem wv_P_look : Cond.instanceMethod m_P_look.1 ∈ xT := xT_in (List.mem_append_right _ (List.mem_of_getElem? (i := 476) rfl)) rfl
set_option maxRecDepth 20000 in
theorem wz_P_look : Cond.selects "PieceTexts" m_P_look.1 m_P_look.1 ∈ xT := xT_in (List.mem_append_right _ (List.mem_of_getElem? (i := 477) rfl)) rfl
theorem wc_P_look : xwV m_P_look "PieceTexts" 3 := ⟨wv_P_look, wz_P_look, wi_P, wx_P_look, ⟨by decide, by decide⟩, by decide +kernel, by decide⟩
set_option maxRecDepth 20000 in
theorem wm_L_44 : xml "PieceTextsLaw" 44 m_P_piece.1 none ∈ xT := xT_in (List.mem_append_right _ (List.mem_of_getElem? (i := 490) rfl)) rfl
set_option maxRecDepth 20000 in
theorem wx_P_piece : xcode m_P_piece ∈ xT := xT_in (List.mem_append_right _ (List.mem_of_getElem? (i := 493) rfl)) rfl
set_option maxRecDepth 20000 in
theorem wv_P_piece : Cond.instanceMethod m_P_piece.1 ∈ xT := xT_in (List.mem_append_right _ (List.mem_of_getElem? (i := 491) rfl)) rfl
set_option maxRecDepth 20000 in
theorem wz_P_piece : Cond.selects "PieceTexts" m_P_piece.1 m_P_piece.1 ∈ xT := xT_in (List.mem_append_right _ (List.mem_of_getElem? (i := 492) rfl)) rfl
theorem wc_P_piece : xwV m_P_piece "PieceTexts" 3 := ⟨wv_P_piece, wz_P_piece, wi_P, wx_P_piece, ⟨by decide, by decide⟩, by decide +kernel, by decide⟩
set_option maxRecDepth 20000 in
theorem wm_L_47 : xml "PieceTextsLaw" 47 m_P_find.1 none ∈ xT := xT_in (List.mem_append_right _ (List.mem_of_getElem? (i := 501) rfl)) rfl
set_option maxRecDepth 20000 in
theorem wx_P_find : xcode m_P_find ∈ xT := xT_in (List.mem_append_right _ (List.mem_of_getElem? (i := 504) rfl)) rfl
set_option maxRecDepth 20000 in
theorem wv_P_find : Cond.instanceMethod m_P_find.1 ∈ xT := xT_in (List.mem_append_right _ (List.mem_of_getElem? (i := 502) rfl)) rfl
set_option maxRecDepth 20000 in
theorem wz_P_find : Cond.selects "PieceTexts" m_P_find.1 m_P_find.1 ∈ xT := xT_in (List.mem_append_right _ (List.mem_of_getElem? (i := 503) rfl)) rfl
theorem wc_P_find : xwV m_P_find "PieceTexts" 3 := ⟨wv_P_find, wz_P_find, wi_P, wx_P_find, ⟨by decide, by decide⟩, by decide +kernel, by decide⟩
set_option maxRecDepth 20000 in
theorem wm_L_50 : xml "PieceTextsLaw" 50 m_P_differ.1 none ∈ xT := xT_in (List.mem_append_right _ (List.mem_of_getElem? (i := 534) rfl)) rfl
set_option maxRecDepth 20000 in
theorem wx_P_differ : xcode m_P_differ ∈ xT := xT_in (List.mem_append_right _ (List.mem_of_getElem? (i := 537) rfl)) rfl
set_option maxRecDepth 20000 in
theorem wv_P_differ : Cond.instanceMethod m_P_differ.1 ∈ xT := xT_in (List.mem_append_right _ (List.mem_of_getElem? (i := 535) rfl)) rfl
set_option maxRecDepth 20000 in
theorem wz_P_differ : Cond.selects "PieceTexts" m_P_differ.1 m_P_differ.1 ∈ xT := xT_in (List.mem_append_right _ (List.mem_of_getElem? (i := 536) rfl)) rfl
theorem wc_P_differ : xwV m_P_differ "PieceTexts" 2 := ⟨wv_P_differ, wz_P_differ, wi_P, wx_P_differ, ⟨by decide, by decide⟩, by decide +kernel, by decide⟩
set_option maxRecDepth 20000 in
theorem wa_1 : Cond.arrayClass .long ∈ xT := xT_in (List.mem_append_right _ (List.mem_of_getElem? (i := 672) rfl)) rfl
set_option maxRecDepth 20000 in
theorem wm_L_57 : xml "PieceTextsLaw" 57 m_M_init.1 none ∈ xT := xT_in (List.mem_append_right _ (List.mem_of_getElem? (i := 541) rfl)) rfl
set_option maxRecDepth 20000 in
theorem wx_M_init : xcode m_M_init ∈ xT := xT_in (List.mem_append_right _ (List.mem_of_getElem? (i := 543) rfl)) rfl
set_option maxRecDepth 20000 in
theorem wv_M_init : Cond.instanceMethod m_M_init.1 ∈ xT := xT_in (List.mem_append_right _ (List.mem_of_getElem? (i := 542) rfl)) rfl
theorem wc_M_init : xwI m_M_init 0 := ⟨wv_M_init, rfl, ⟨_, _, rfl⟩, wi_M, wx_M_init, ⟨by decide, by decide⟩, by decide +kernel, by decide⟩
set_option maxRecDepth 20000 in
theorem wk_L_55 : Cond.classLink "PieceTextsLaw" 55 "PieceTextsModel" ∈ xT := xT_in (List.mem_append_right _ (List.mem_of_getElem? (i := 539) rfl)) rfl
set_option maxRecDepth 20000 in
theorem wn_5 : Cond.instantiable "PieceTextsModel" 8 ∈ xT := xT_in (List.mem_append_right _ (List.mem_of_getElem? (i := 540) rfl)) rfl
set_option maxRecDepth 20000 in
theorem wm_L_54 : xml "PieceTextsLaw" 54 m_P_init.1 none ∈ xT := xT_in (List.mem_append_right _ (List.mem_of_getElem? (i := 18) rfl)) rfl
set_option maxRecDepth 20000 in
theorem wx_P_init : xcode m_P_init ∈ xT := xT_in (List.mem_append_right _ (List.mem_of_getElem? (i := 20) rfl)) rfl
set_option maxRecDepth 20000 in
theorem wv_P_init : Cond.instanceMethod m_P_init.1 ∈ xT := xT_in (List.mem_append_right _ (List.mem_of_getElem? (i := 19) rfl)) rfl
theorem wc_P_init : xwI m_P_init 0 := ⟨wv_P_init, rfl, ⟨_, _, rfl⟩, wi_P, wx_P_init, ⟨by decide, by decide⟩, by decide +kernel, by decide⟩
set_option maxRecDepth 20000 in
theorem wk_L_8 : Cond.classLink "PieceTextsLaw" 8 "PieceTexts" ∈ xT := xT_in (List.mem_append_right _ (List.mem_of_getElem? (i := 16) rfl)) rfl
set_option maxRecDepth 20000 in
theorem wn_0 : Cond.instantiable "PieceTexts" 4 ∈ xT := xT_in (List.mem_append_right _ (List.mem_of_getElem? (i := 17) rfl)) rfl
set_option maxRecDepth 20000 in
theorem wl_L_58 : Cond.constantLong "PieceTextsLaw" 58 4294967295 ∈ xT := xT_in (List.mem_append_right _ (List.mem_of_getElem? (i := 671) rfl)) rfl
set_option maxRecDepth 20000 in
theorem wm_L_66 : xml "PieceTextsLaw" 66 m_M_thrown.1 none ∈ xT := xT_in (List.mem_append_right _ (List.mem_of_getElem? (i := 571) rfl)) rfl
set_option maxRecDepth 20000 in
theorem wx_M_thrown : xcode m_M_thrown ∈ xT := xT_in (List.mem_append_right _ (List.mem_of_getElem? (i := 574) rfl)) rfl
set_option maxRecDepth 20000 in
theorem wv_M_thrown : Cond.instanceMethod m_M_thrown.1 ∈ xT := xT_in (List.mem_append_right _ (List.mem_of_getElem? (i := 572) rfl)) rfl
set_option maxRecDepth 20000 in
theorem wz_M_thrown : Cond.selects "PieceTextsModel" m_M_thrown.1 m_M_thrown.1 ∈ xT := xT_in (List.mem_append_right _ (List.mem_of_getElem? (i := 573) rfl)) rfl
theorem wc_M_thrown : xwV m_M_thrown "PieceTextsModel" 0 := ⟨wv_M_thrown, wz_M_thrown, wi_M, wx_M_thrown, ⟨by decide, by decide⟩, by decide +kernel, by decide⟩
set_option maxRecDepth 20000 in
theorem wm_L_65 : xml "PieceTextsLaw" 65 m_M_write.1 none ∈ xT := xT_in (List.mem_append_right _ (List.mem_of_getElem? (i := 575) rfl)) rfl
set_option maxRecDepth 20000 in
theorem wx_M_write : xcode m_M_write ∈ xT := xT_in (List.mem_append_right _ (List.mem_of_getElem? (i := 578) rfl)) rfl
set_option maxRecDepth 20000 in
theorem wv_M_write : Cond.instanceMethod m_M_write.1 ∈ xT := xT_in (List.mem_append_right _ (List.mem_of_getElem? (i := 576) rfl)) rfl
set_option maxRecDepth 20000 in
theorem wz_M_write : Cond.selects "PieceTextsModel" m_M_write.1 m_M_write.1 ∈ xT := xT_in (List.mem_append_right _ (List.mem_of_getElem? (i := 577) rfl)) rfl
theorem wc_M_write : xwV m_M_write "PieceTextsModel" 1 := ⟨wv_M_write, wz_M_write, wi_M, wx_M_write, ⟨by decide, by decide⟩, by decide +kernel, by decide⟩
set_option maxRecDepth 20000 in
theorem wm_L_60 : xml "PieceTextsLaw" 60 m_L_write.1 none ∈ xT := xT_in (List.mem_append_right _ (List.mem_of_getElem? (i := 91) rfl)) rfl
set_option maxRecDepth 20000 in
theorem wi_L : Cond.initialized "PieceTextsLaw" ∈ xT := xT_in (List.mem_append_right _ (List.mem_of_getElem? (i := 0) rfl)) rfl
set_option maxRecDepth 20000 in
theorem wx_L_write : xcode m_L_write ∈ xT := xT_in (List.mem_append_right _ (List.mem_of_getElem? (i := 93) rfl)) rfl
set_option maxRecDepth 20000 in
theorem ws_L_write : Cond.static m_L_write.1 ∈ xT := xT_in (List.mem_append_right _ (List.mem_of_getElem? (i := 92) rfl)) rfl
theorem wc_L_write : xwS m_L_write 3 := ⟨ws_L_write, wi_L, wx_L_write, ⟨by decide, by decide⟩, by decide +kernel, by decide⟩
set_option maxRecDepth 20000 in
theorem wm_L_73 : xml "PieceTextsLaw" 73 m_M_put.1 none ∈ xT := xT_in (List.mem_append_right _ (List.mem_of_getElem? (i := 584) rfl)) rfl
set_option maxRecDepth 20000 in
theorem wx_M_put : xcode m_M_put ∈ xT := xT_in (List.mem_append_right _ (List.mem_of_getElem? (i := 587) rfl)) rfl
set_option maxRecDepth 20000 in
theorem wv_M_put : Cond.instanceMethod m_M_put.1 ∈ xT := xT_in (List.mem_append_right _ (List.mem_of_getElem? (i := 585) rfl)) rfl
set_option maxRecDepth 20000 in
theorem wz_M_put : Cond.selects "PieceTextsModel" m_M_put.1 m_M_put.1 ∈ xT := xT_in (List.mem_append_right _ (List.mem_of_getElem? (i := 586) rfl)) rfl
theorem wc_M_put : xwV m_M_put "PieceTextsModel" 5 := ⟨wv_M_put, wz_M_put, wi_M, wx_M_put, ⟨by decide, by decide⟩, by decide +kernel, by decide⟩
set_option maxRecDepth 20000 in
theorem wm_L_70 : xml "PieceTextsLaw" 70 m_L_put.1 none ∈ xT := xT_in (List.mem_append_right _ (List.mem_of_getElem? (i := 191) rfl)) rfl
set_option maxRecDepth 20000 in
theorem wx_L_put : xcode m_L_put ∈ xT := xT_in (List.mem_append_right _ (List.mem_of_getElem? (i := 193) rfl)) rfl
set_option maxRecDepth 20000 in
theorem ws_L_put : Cond.static m_L_put.1 ∈ xT := xT_in (List.mem_append_right _ (List.mem_of_getElem? (i := 192) rfl)) rfl
theorem wc_L_put : xwS m_L_put 7 := ⟨ws_L_put, wi_L, wx_L_put, ⟨by decide, by decide⟩, by decide +kernel, by decide⟩
set_option maxRecDepth 20000 in
theorem wm_L_77 : xml "PieceTextsLaw" 77 m_M_cut.1 none ∈ xT := xT_in (List.mem_append_right _ (List.mem_of_getElem? (i := 619) rfl)) rfl
set_option maxRecDepth 20000 in
theorem wx_M_cut : xcode m_M_cut ∈ xT := xT_in (List.mem_append_right _ (List.mem_of_getElem? (i := 622) rfl)) rfl
set_option maxRecDepth 20000 in
theorem wv_M_cut : Cond.instanceMethod m_M_cut.1 ∈ xT := xT_in (List.mem_append_right _ (List.mem_of_getElem? (i := 620) rfl)) rfl
set_option maxRecDepth 20000 in
theorem wz_M_cut : Cond.selects "PieceTextsModel" m_M_cut.1 m_M_cut.1 ∈ xT := xT_in (List.mem_append_right _ (List.mem_of_getElem? (i := 621) rfl)) rfl
theorem wc_M_cut : xwV m_M_cut "PieceTextsModel" 4 := ⟨wv_M_cut, wz_M_cut, wi_M, wx_M_cut, ⟨by decide, by decide⟩, by decide +kernel, by decide⟩
set_option maxRecDepth 20000 in
theorem wm_L_74 : xml "PieceTextsLaw" 74 m_L_cut.1 none ∈ xT := xT_in (List.mem_append_right _ (List.mem_of_getElem? (i := 387) rfl)) rfl
set_option maxRecDepth 20000 in
theorem wx_L_cut : xcode m_L_cut ∈ xT := xT_in (List.mem_append_right _ (List.mem_of_getElem? (i := 389) rfl)) rfl
set_option maxRecDepth 20000 in
theorem ws_L_cut : Cond.static m_L_cut.1 ∈ xT := xT_in (List.mem_append_right _ (List.mem_of_getElem? (i := 388) rfl)) rfl
theorem wc_L_cut : xwS m_L_cut 6 := ⟨ws_L_cut, wi_L, wx_L_cut, ⟨by decide, by decide⟩, by decide +kernel, by decide⟩
set_option maxRecDepth 20000 in
theorem wm_L_81 : xml "PieceTextsLaw" 81 m_M_paste.1 none ∈ xT := xT_in (List.mem_append_right _ (List.mem_of_getElem? (i := 631) rfl)) rfl
set_option maxRecDepth 20000 in
theorem wx_M_paste : xcode m_M_paste ∈ xT := xT_in (List.mem_append_right _ (List.mem_of_getElem? (i := 634) rfl)) rfl
set_option maxRecDepth 20000 in
theorem wv_M_paste : Cond.instanceMethod m_M_paste.1 ∈ xT := xT_in (List.mem_append_right _ (List.mem_of_getElem? (i := 632) rfl)) rfl
set_option maxRecDepth 20000 in
theorem wz_M_paste : Cond.selects "PieceTextsModel" m_M_paste.1 m_M_paste.1 ∈ xT := xT_in (List.mem_append_right _ (List.mem_of_getElem? (i := 633) rfl)) rfl
theorem wc_M_paste : xwV m_M_paste "PieceTextsModel" 3 := ⟨wv_M_paste, wz_M_paste, wi_M, wx_M_paste, ⟨by decide, by decide⟩, by decide +kernel, by decide⟩
set_option maxRecDepth 20000 in
theorem wm_L_78 : xml "PieceTextsLaw" 78 m_L_paste.1 none ∈ xT := xT_in (List.mem_append_right _ (List.mem_of_getElem? (i := 410) rfl)) rfl
set_option maxRecDepth 20000 in
theorem wx_L_paste : xcode m_L_paste ∈ xT := xT_in (List.mem_append_right _ (List.mem_of_getElem? (i := 412) rfl)) rfl
set_option maxRecDepth 20000 in
theorem ws_L_paste : Cond.static m_L_paste.1 ∈ xT := xT_in (List.mem_append_right _ (List.mem_of_getElem? (i := 411) rfl)) rfl
theorem wc_L_paste : xwS m_L_paste 5 := ⟨ws_L_paste, wi_L, wx_L_paste, ⟨by decide, by decide⟩, by decide +kernel, by decide⟩
set_option maxRecDepth 20000 in
theorem wm_L_84 : xml "PieceTextsLaw" 84 m_M_copy.1 none ∈ xT := xT_in (List.mem_append_right _ (List.mem_of_getElem? (i := 635) rfl)) rfl
set_option maxRecDepth 20000 in
theorem wx_M_copy : xcode m_M_copy ∈ xT := xT_in (List.mem_append_right _ (List.mem_of_getElem? (i := 638) rfl)) rfl
set_option maxRecDepth 20000 in
theorem wv_M_copy : Cond.instanceMethod m_M_copy.1 ∈ xT := xT_in (List.mem_append_right _ (List.mem_of_getElem? (i := 636) rfl)) rfl
set_option maxRecDepth 20000 in
theorem wz_M_copy : Cond.selects "PieceTextsModel" m_M_copy.1 m_M_copy.1 ∈ xT := xT_in (List.mem_append_right _ (List.mem_of_getElem? (i := 637) rfl)) rfl
theorem wc_M_copy : xwV m_M_copy "PieceTextsModel" 4 := ⟨wv_M_copy, wz_M_copy, wi_M, wx_M_copy, ⟨by decide, by decide⟩, by decide +kernel, by decide⟩
set_option maxRecDepth 20000 in
theorem wm_L_82 : xml "PieceTextsLaw" 82 m_L_copy.1 none ∈ xT := xT_in (List.mem_append_right _ (List.mem_of_getElem? (i := 421) rfl)) rfl
set_option maxRecDepth 20000 in
theorem wx_L_copy : xcode m_L_copy ∈ xT := xT_in (List.mem_append_right _ (List.mem_of_getElem? (i := 423) rfl)) rfl
set_option maxRecDepth 20000 in
theorem ws_L_copy : Cond.static m_L_copy.1 ∈ xT := xT_in (List.mem_append_right _ (List.mem_of_getElem? (i := 422) rfl)) rfl
theorem wc_L_copy : xwS m_L_copy 6 := ⟨ws_L_copy, wi_L, wx_L_copy, ⟨by decide, by decide⟩, by decide +kernel, by decide⟩
set_option maxRecDepth 20000 in
theorem wm_L_87 : xml "PieceTextsLaw" 87 m_M_tag.1 none ∈ xT := xT_in (List.mem_append_right _ (List.mem_of_getElem? (i := 639) rfl)) rfl
set_option maxRecDepth 20000 in
theorem wx_M_tag : xcode m_M_tag ∈ xT := xT_in (List.mem_append_right _ (List.mem_of_getElem? (i := 642) rfl)) rfl
set_option maxRecDepth 20000 in
theorem wv_M_tag : Cond.instanceMethod m_M_tag.1 ∈ xT := xT_in (List.mem_append_right _ (List.mem_of_getElem? (i := 640) rfl)) rfl
set_option maxRecDepth 20000 in
theorem wz_M_tag : Cond.selects "PieceTextsModel" m_M_tag.1 m_M_tag.1 ∈ xT := xT_in (List.mem_append_right _ (List.mem_of_getElem? (i := 641) rfl)) rfl
theorem wc_M_tag : xwV m_M_tag "PieceTextsModel" 5 := ⟨wv_M_tag, wz_M_tag, wi_M, wx_M_tag, ⟨by decide, by decide⟩, by decide +kernel, by decide⟩
set_option maxRecDepth 20000 in
theorem wm_L_85 : xml "PieceTextsLaw" 85 m_L_tag.1 none ∈ xT := xT_in (List.mem_append_right _ (List.mem_of_getElem? (i := 436) rfl)) rfl
set_option maxRecDepth 20000 in
theorem wx_L_tag : xcode m_L_tag ∈ xT := xT_in (List.mem_append_right _ (List.mem_of_getElem? (i := 438) rfl)) rfl
set_option maxRecDepth 20000 in
theorem ws_L_tag : Cond.static m_L_tag.1 ∈ xT := xT_in (List.mem_append_right _ (List.mem_of_getElem? (i := 437) rfl)) rfl
theorem wc_L_tag : xwS m_L_tag 7 := ⟨ws_L_tag, wi_L, wx_L_tag, ⟨by decide, by decide⟩, by decide +kernel, by decide⟩
set_option maxRecDepth 20000 in
theorem wm_L_91 : xml "PieceTextsLaw" 91 m_M_wipe.1 none ∈ xT := xT_in (List.mem_append_right _ (List.mem_of_getElem? (i := 643) rfl)) rfl
set_option maxRecDepth 20000 in
theorem wx_M_wipe : xcode m_M_wipe ∈ xT := xT_in (List.mem_append_right _ (List.mem_of_getElem? (i := 646) rfl)) rfl
set_option maxRecDepth 20000 in
theorem wv_M_wipe : Cond.instanceMethod m_M_wipe.1 ∈ xT := xT_in (List.mem_append_right _ (List.mem_of_getElem? (i := 644) rfl)) rfl
set_option maxRecDepth 20000 in
theorem wz_M_wipe : Cond.selects "PieceTextsModel" m_M_wipe.1 m_M_wipe.1 ∈ xT := xT_in (List.mem_append_right _ (List.mem_of_getElem? (i := 645) rfl)) rfl
theorem wc_M_wipe : xwV m_M_wipe "PieceTextsModel" 1 := ⟨wv_M_wipe, wz_M_wipe, wi_M, wx_M_wipe, ⟨by decide, by decide⟩, by decide +kernel, by decide⟩
set_option maxRecDepth 20000 in
theorem wm_L_88 : xml "PieceTextsLaw" 88 m_L_wipe.1 none ∈ xT := xT_in (List.mem_append_right _ (List.mem_of_getElem? (i := 460) rfl)) rfl
set_option maxRecDepth 20000 in
theorem wx_L_wipe : xcode m_L_wipe ∈ xT := xT_in (List.mem_append_right _ (List.mem_of_getElem? (i := 462) rfl)) rfl
set_option maxRecDepth 20000 in
theorem ws_L_wipe : Cond.static m_L_wipe.1 ∈ xT := xT_in (List.mem_append_right _ (List.mem_of_getElem? (i := 461) rfl)) rfl
theorem wc_L_wipe : xwS m_L_wipe 3 := ⟨ws_L_wipe, wi_L, wx_L_wipe, ⟨by decide, by decide⟩, by decide +kernel, by decide⟩
set_option maxRecDepth 20000 in
theorem wm_L_95 : xml "PieceTextsLaw" 95 m_M_length.1 none ∈ xT := xT_in (List.mem_append_right _ (List.mem_of_getElem? (i := 647) rfl)) rfl
set_option maxRecDepth 20000 in
theorem wx_M_length : xcode m_M_length ∈ xT := xT_in (List.mem_append_right _ (List.mem_of_getElem? (i := 650) rfl)) rfl
set_option maxRecDepth 20000 in
theorem wv_M_length : Cond.instanceMethod m_M_length.1 ∈ xT := xT_in (List.mem_append_right _ (List.mem_of_getElem? (i := 648) rfl)) rfl
set_option maxRecDepth 20000 in
theorem wz_M_length : Cond.selects "PieceTextsModel" m_M_length.1 m_M_length.1 ∈ xT := xT_in (List.mem_append_right _ (List.mem_of_getElem? (i := 649) rfl)) rfl
theorem wc_M_length : xwV m_M_length "PieceTextsModel" 1 := ⟨wv_M_length, wz_M_length, wi_M, wx_M_length, ⟨by decide, by decide⟩, by decide +kernel, by decide⟩
set_option maxRecDepth 20000 in
theorem wm_L_92 : xml "PieceTextsLaw" 92 m_P_length.1 none ∈ xT := xT_in (List.mem_append_right _ (List.mem_of_getElem? (i := 50) rfl)) rfl
set_option maxRecDepth 20000 in
theorem wx_P_length : xcode m_P_length ∈ xT := xT_in (List.mem_append_right _ (List.mem_of_getElem? (i := 53) rfl)) rfl
set_option maxRecDepth 20000 in
theorem wv_P_length : Cond.instanceMethod m_P_length.1 ∈ xT := xT_in (List.mem_append_right _ (List.mem_of_getElem? (i := 51) rfl)) rfl
set_option maxRecDepth 20000 in
theorem wz_P_length : Cond.selects "PieceTexts" m_P_length.1 m_P_length.1 ∈ xT := xT_in (List.mem_append_right _ (List.mem_of_getElem? (i := 52) rfl)) rfl
theorem wc_P_length : xwV m_P_length "PieceTexts" 1 := ⟨wv_P_length, wz_P_length, wi_P, wx_P_length, ⟨by decide, by decide⟩, by decide +kernel, by decide⟩
set_option maxRecDepth 20000 in
theorem wm_L_98 : xml "PieceTextsLaw" 98 m_M_look.1 none ∈ xT := xT_in (List.mem_append_right _ (List.mem_of_getElem? (i := 651) rfl)) rfl
set_option maxRecDepth 20000 in
theorem wx_M_look : xcode m_M_look ∈ xT := xT_in (List.mem_append_right _ (List.mem_of_getElem? (i := 654) rfl)) rfl
set_option maxRecDepth 20000 in
theorem wv_M_look : Cond.instanceMethod m_M_look.1 ∈ xT := xT_in (List.mem_append_right _ (List.mem_of_getElem? (i := 652) rfl)) rfl
set_option maxRecDepth 20000 in
theorem wz_M_look : Cond.selects "PieceTextsModel" m_M_look.1 m_M_look.1 ∈ xT := xT_in (List.mem_append_right _ (List.mem_of_getElem? (i := 653) rfl)) rfl
theorem wc_M_look : xwV m_M_look "PieceTextsModel" 3 := ⟨wv_M_look, wz_M_look, wi_M, wx_M_look, ⟨by decide, by decide⟩, by decide +kernel, by decide⟩
set_option maxRecDepth 20000 in
theorem wm_L_96 : xml "PieceTextsLaw" 96 m_L_look.1 none ∈ xT := xT_in (List.mem_append_right _ (List.mem_of_getElem? (i := 472) rfl)) rfl
set_option maxRecDepth 20000 in
theorem wx_L_look : xcode m_L_look ∈ xT := xT_in (List.mem_append_right _ (List.mem_of_getElem? (i := 474) rfl)) rfl
set_option maxRecDepth 20000 in
theorem ws_L_look : Cond.static m_L_look.1 ∈ xT := xT_in (List.mem_append_right _ (List.mem_of_getElem? (i := 473) rfl)) rfl
theorem wc_L_look : xwS m_L_look 5 := ⟨ws_L_look, wi_L, wx_L_look, ⟨by decide, by decide⟩, by decide +kernel, by decide⟩
set_option maxRecDepth 20000 in
theorem wm_L_101 : xml "PieceTextsLaw" 101 m_M_piece.1 none ∈ xT := xT_in (List.mem_append_right _ (List.mem_of_getElem? (i := 655) rfl)) rfl
set_option maxRecDepth 20000 in
theorem wx_M_piece : xcode m_M_piece ∈ xT := xT_in (List.mem_append_right _ (List.mem_of_getElem? (i := 658) rfl)) rfl
set_option maxRecDepth 20000 in
theorem wv_M_piece : Cond.instanceMethod m_M_piece.1 ∈ xT := xT_in (List.mem_append_right _ (List.mem_of_getElem? (i := 656) rfl)) rfl
set_option maxRecDepth 20000 in
theorem wz_M_piece : Cond.selects "PieceTextsModel" m_M_piece.1 m_M_piece.1 ∈ xT := xT_in (List.mem_append_right _ (List.mem_of_getElem? (i := 657) rfl)) rfl
theorem wc_M_piece : xwV m_M_piece "PieceTextsModel" 3 := ⟨wv_M_piece, wz_M_piece, wi_M, wx_M_piece, ⟨by decide, by decide⟩, by decide +kernel, by decide⟩
set_option maxRecDepth 20000 in
theorem wm_L_99 : xml "PieceTextsLaw" 99 m_L_piece.1 none ∈ xT := xT_in (List.mem_append_right _ (List.mem_of_getElem? (i := 487) rfl)) rfl
set_option maxRecDepth 20000 in
theorem wx_L_piece : xcode m_L_piece ∈ xT := xT_in (List.mem_append_right _ (List.mem_of_getElem? (i := 489) rfl)) rfl
set_option maxRecDepth 20000 in
theorem ws_L_piece : Cond.static m_L_piece.1 ∈ xT := xT_in (List.mem_append_right _ (List.mem_of_getElem? (i := 488) rfl)) rfl
theorem wc_L_piece : xwS m_L_piece 5 := ⟨ws_L_piece, wi_L, wx_L_piece, ⟨by decide, by decide⟩, by decide +kernel, by decide⟩
set_option maxRecDepth 20000 in
theorem wm_L_104 : xml "PieceTextsLaw" 104 m_M_find.1 none ∈ xT := xT_in (List.mem_append_right _ (List.mem_of_getElem? (i := 659) rfl)) rfl
set_option maxRecDepth 20000 in
theorem wx_M_find : xcode m_M_find ∈ xT := xT_in (List.mem_append_right _ (List.mem_of_getElem? (i := 662) rfl)) rfl
set_option maxRecDepth 20000 in
theorem wv_M_find : Cond.instanceMethod m_M_find.1 ∈ xT := xT_in (List.mem_append_right _ (List.mem_of_getElem? (i := 660) rfl)) rfl
set_option maxRecDepth 20000 in
theorem wz_M_find : Cond.selects "PieceTextsModel" m_M_find.1 m_M_find.1 ∈ xT := xT_in (List.mem_append_right _ (List.mem_of_getElem? (i := 661) rfl)) rfl
theorem wc_M_find : xwV m_M_find "PieceTextsModel" 3 := ⟨wv_M_find, wz_M_find, wi_M, wx_M_find, ⟨by decide, by decide⟩, by decide +kernel, by decide⟩
set_option maxRecDepth 20000 in
theorem wm_L_102 : xml "PieceTextsLaw" 102 m_L_find.1 none ∈ xT := xT_in (List.mem_append_right _ (List.mem_of_getElem? (i := 498) rfl)) rfl
set_option maxRecDepth 20000 in
theorem wx_L_find : xcode m_L_find ∈ xT := xT_in (List.mem_append_right _ (List.mem_of_getElem? (i := 500) rfl)) rfl
set_option maxRecDepth 20000 in
theorem ws_L_find : Cond.static m_L_find.1 ∈ xT := xT_in (List.mem_append_right _ (List.mem_of_getElem? (i := 499) rfl)) rfl
theorem wc_L_find : xwS m_L_find 5 := ⟨ws_L_find, wi_L, wx_L_find, ⟨by decide, by decide⟩, by decide +kernel, by decide⟩
set_option maxRecDepth 20000 in
theorem wm_L_108 : xml "PieceTextsLaw" 108 m_M_differ.1 none ∈ xT := xT_in (List.mem_append_right _ (List.mem_of_getElem? (i := 663) rfl)) rfl
set_option maxRecDepth 20000 in
theorem wx_M_differ : xcode m_M_differ ∈ xT := xT_in (List.mem_append_right _ (List.mem_of_getElem? (i := 666) rfl)) rfl
set_option maxRecDepth 20000 in
theorem wv_M_differ : Cond.instanceMethod m_M_differ.1 ∈ xT := xT_in (List.mem_append_right _ (List.mem_of_getElem? (i := 664) rfl)) rfl
set_option maxRecDepth 20000 in
theorem wz_M_differ : Cond.selects "PieceTextsModel" m_M_differ.1 m_M_differ.1 ∈ xT := xT_in (List.mem_append_right _ (List.mem_of_getElem? (i := 665) rfl)) rfl
theorem wc_M_differ : xwV m_M_differ "PieceTextsModel" 2 := ⟨wv_M_differ, wz_M_differ, wi_M, wx_M_differ, ⟨by decide, by decide⟩, by decide +kernel, by decide⟩
set_option maxRecDepth 20000 in
theorem wm_L_105 : xml "PieceTextsLaw" 105 m_L_differ.1 none ∈ xT := xT_in (List.mem_append_right _ (List.mem_of_getElem? (i := 531) rfl)) rfl
set_option maxRecDepth 20000 in
theorem wx_L_differ : xcode m_L_differ ∈ xT := xT_in (List.mem_append_right _ (List.mem_of_getElem? (i := 533) rfl)) rfl
set_option maxRecDepth 20000 in
theorem ws_L_differ : Cond.static m_L_differ.1 ∈ xT := xT_in (List.mem_append_right _ (List.mem_of_getElem? (i := 532) rfl)) rfl
theorem wc_L_differ : xwS m_L_differ 4 := ⟨ws_L_differ, wi_L, wx_L_differ, ⟨by decide, by decide⟩, by decide +kernel, by decide⟩
set_option maxRecDepth 20000 in
theorem wm_L_112 : xml "PieceTextsLaw" 112 m_M_count.1 none ∈ xT := xT_in (List.mem_append_right _ (List.mem_of_getElem? (i := 667) rfl)) rfl
set_option maxRecDepth 20000 in
theorem wx_M_count : xcode m_M_count ∈ xT := xT_in (List.mem_append_right _ (List.mem_of_getElem? (i := 670) rfl)) rfl
set_option maxRecDepth 20000 in
theorem wv_M_count : Cond.instanceMethod m_M_count.1 ∈ xT := xT_in (List.mem_append_right _ (List.mem_of_getElem? (i := 668) rfl)) rfl
set_option maxRecDepth 20000 in
theorem wz_M_count : Cond.selects "PieceTextsModel" m_M_count.1 m_M_count.1 ∈ xT := xT_in (List.mem_append_right _ (List.mem_of_getElem? (i := 669) rfl)) rfl
theorem wc_M_count : xwV m_M_count "PieceTextsModel" 1 := ⟨wv_M_count, wz_M_count, wi_M, wx_M_count, ⟨by decide, by decide⟩, by decide +kernel, by decide⟩
set_option maxRecDepth 20000 in
theorem wm_L_109 : xml "PieceTextsLaw" 109 m_P_count.1 none ∈ xT := xT_in (List.mem_append_right _ (List.mem_of_getElem? (i := 65) rfl)) rfl
set_option maxRecDepth 20000 in
theorem wx_P_count : xcode m_P_count ∈ xT := xT_in (List.mem_append_right _ (List.mem_of_getElem? (i := 68) rfl)) rfl
set_option maxRecDepth 20000 in
theorem wv_P_count : Cond.instanceMethod m_P_count.1 ∈ xT := xT_in (List.mem_append_right _ (List.mem_of_getElem? (i := 66) rfl)) rfl
set_option maxRecDepth 20000 in
theorem wz_P_count : Cond.selects "PieceTexts" m_P_count.1 m_P_count.1 ∈ xT := xT_in (List.mem_append_right _ (List.mem_of_getElem? (i := 67) rfl)) rfl
theorem wc_P_count : xwV m_P_count "PieceTexts" 1 := ⟨wv_P_count, wz_P_count, wi_P, wx_P_count, ⟨by decide, by decide⟩, by decide +kernel, by decide⟩
end
