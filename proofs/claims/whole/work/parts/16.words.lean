/-! printed by wip/whole/emit.py: the tables' words that are used; the methods by their codes -/
theorem kw_0 : Cond.selects "ColourDuel$Solver" ⟨"ColourDuel$Solver", "placeOf", "(I)J"⟩ ⟨"ColourDuel$Solver", "placeOf", "(I)J"⟩ ∈ Tb := tb_of (i := 0) (by decide +kernel) rfl
theorem kw_1 : Cond.selects "ColourDuel$Solver" ⟨"ColourDuel$Solver", "ofPlace", "(JI)I"⟩ ⟨"ColourDuel$Solver", "ofPlace", "(JI)I"⟩ ∈ Tb := tb_of (i := 1) (by decide +kernel) rfl
theorem kw_2 : Cond.selects "ColourDuel$Solver" ⟨"ColourDuel$Solver", "workOut", "(JI)I"⟩ ⟨"ColourDuel$Solver", "workOut", "(JI)I"⟩ ∈ Tb := tb_of (i := 2) (by decide +kernel) rfl
theorem kw_3 : Cond.selects "ColourDuel$Solver" ⟨"ColourDuel$Solver", "behind", "(JII)J"⟩ ⟨"ColourDuel$Solver", "behind", "(JII)J"⟩ ∈ Tb := tb_of (i := 3) (by decide +kernel) rfl
theorem kw_4 : Cond.selects "ColourDuel$Solver" ⟨"ColourDuel$Solver", "ofPieces", "(JI)I"⟩ ⟨"ColourDuel$Solver", "ofPieces", "(JI)I"⟩ ∈ Tb := tb_of (i := 4) (by decide +kernel) rfl
theorem kw_5 : Cond.selects "ColourDuel" ⟨"ColourDuel", "passWins", "()Z"⟩ ⟨"ColourDuel", "passWins", "()Z"⟩ ∈ Tb := tb_of (i := 5) (by decide +kernel) rfl
theorem kw_6 : Cond.selects "ColourDuel" ⟨"ColourDuel", "winnersOn", "(I)I"⟩ ⟨"ColourDuel", "winnersOn", "(I)I"⟩ ∈ Tb := tb_of (i := 6) (by decide +kernel) rfl
theorem kw_7 : Cond.selects "ColourDuel$Board" ⟨"ColourDuel$Board", "coloursAt", "([II)I"⟩ ⟨"ColourDuel$Board", "coloursAt", "([II)I"⟩ ∈ Tb := tb_of (i := 7) (by decide +kernel) rfl
theorem kw_8 : Cond.selects "ColourDuel" ⟨"ColourDuel", "write", "(I)V"⟩ ⟨"ColourDuel", "write", "(I)V"⟩ ∈ Tb := tb_of (i := 8) (by decide +kernel) rfl
theorem kw_10 : Cond.selects "ColourDuel$Reader" ⟨"ColourDuel$Reader", "advance", "()V"⟩ ⟨"ColourDuel$Reader", "advance", "()V"⟩ ∈ Tb := tb_of (i := 10) (by decide +kernel) rfl
theorem kw_11 : Cond.selects "ColourDuel$Reader" ⟨"ColourDuel$Reader", "byteAt", "(I)I"⟩ ⟨"ColourDuel$Reader", "byteAt", "(I)I"⟩ ∈ Tb := tb_of (i := 11) (by decide +kernel) rfl
theorem kw_12 : Cond.selects "ColourDuel$Reader" ⟨"ColourDuel$Reader", "readHead", "()Z"⟩ ⟨"ColourDuel$Reader", "readHead", "()Z"⟩ ∈ Tb := tb_of (i := 12) (by decide +kernel) rfl
theorem kw_13 : Cond.selects "ColourDuel$Reader" ⟨"ColourDuel$Reader", "readWord", "(Ljava/lang/String;)Z"⟩ ⟨"ColourDuel$Reader", "readWord", "(Ljava/lang/String;)Z"⟩ ∈ Tb := tb_of (i := 13) (by decide +kernel) rfl
theorem kw_14 : Cond.selects "ColourDuel$Reader" ⟨"ColourDuel$Reader", "atWord", "(Ljava/lang/String;)Z"⟩ ⟨"ColourDuel$Reader", "atWord", "(Ljava/lang/String;)Z"⟩ ∈ Tb := tb_of (i := 14) (by decide +kernel) rfl
theorem kw_15 : Cond.selects "ColourDuel$Reader" ⟨"ColourDuel$Reader", "fail", "(I)Z"⟩ ⟨"ColourDuel$Reader", "fail", "(I)Z"⟩ ∈ Tb := tb_of (i := 15) (by decide +kernel) rfl
theorem kw_16 : Cond.selects "ColourDuel$Reader" ⟨"ColourDuel$Reader", "readNumber", "(II)I"⟩ ⟨"ColourDuel$Reader", "readNumber", "(II)I"⟩ ∈ Tb := tb_of (i := 16) (by decide +kernel) rfl
theorem kw_17 : Cond.selects "ColourDuel$Reader" ⟨"ColourDuel$Reader", "readSemicolon", "()Z"⟩ ⟨"ColourDuel$Reader", "readSemicolon", "()Z"⟩ ∈ Tb := tb_of (i := 17) (by decide +kernel) rfl
theorem kw_18 : Cond.selects "ColourDuel$Reader" ⟨"ColourDuel$Reader", "readVertices", "()Z"⟩ ⟨"ColourDuel$Reader", "readVertices", "()Z"⟩ ∈ Tb := tb_of (i := 18) (by decide +kernel) rfl
theorem kw_19 : Cond.selects "ColourDuel$Reader" ⟨"ColourDuel$Reader", "readVertex", "()Z"⟩ ⟨"ColourDuel$Reader", "readVertex", "()Z"⟩ ∈ Tb := tb_of (i := 19) (by decide +kernel) rfl
theorem kw_20 : Cond.selects "ColourDuel$Reader" ⟨"ColourDuel$Reader", "listHere", "()I"⟩ ⟨"ColourDuel$Reader", "listHere", "()I"⟩ ∈ Tb := tb_of (i := 20) (by decide +kernel) rfl
theorem kw_21 : Cond.selects "ColourDuel$Reader" ⟨"ColourDuel$Reader", "readEdges", "()Z"⟩ ⟨"ColourDuel$Reader", "readEdges", "()Z"⟩ ∈ Tb := tb_of (i := 21) (by decide +kernel) rfl
theorem kw_22 : Cond.selects "ColourDuel$Reader" ⟨"ColourDuel$Reader", "readEdge", "()Z"⟩ ⟨"ColourDuel$Reader", "readEdge", "()Z"⟩ ∈ Tb := tb_of (i := 22) (by decide +kernel) rfl
theorem kw_23 : Cond.selects "ColourDuel$Reader" ⟨"ColourDuel$Reader", "readMoves", "()Z"⟩ ⟨"ColourDuel$Reader", "readMoves", "()Z"⟩ ∈ Tb := tb_of (i := 23) (by decide +kernel) rfl
theorem kw_24 : Cond.selects "ColourDuel$Reader" ⟨"ColourDuel$Reader", "readLay", "()Z"⟩ ⟨"ColourDuel$Reader", "readLay", "()Z"⟩ ∈ Tb := tb_of (i := 24) (by decide +kernel) rfl
theorem kw_25 : Cond.selects "ColourDuel$Reader" ⟨"ColourDuel$Reader", "readPass", "()Z"⟩ ⟨"ColourDuel$Reader", "readPass", "()Z"⟩ ∈ Tb := tb_of (i := 25) (by decide +kernel) rfl
theorem kw_26 : Cond.selects "ColourDuel$Reader" ⟨"ColourDuel$Reader", "readEnd", "()Z"⟩ ⟨"ColourDuel$Reader", "readEnd", "()Z"⟩ ∈ Tb := tb_of (i := 26) (by decide +kernel) rfl
theorem kw_27 : Cond.selects "ColourDuel" ⟨"ColourDuel", "chosenMove", "()I"⟩ ⟨"ColourDuel", "chosenMove", "()I"⟩ ∈ Tb := tb_of (i := 27) (by decide +kernel) rfl
theorem kw_28 : Cond.selects "ColourDuelModel" ⟨"ColourDuelModel", "next", "()V"⟩ ⟨"ColourDuelModel", "next", "()V"⟩ ∈ Tb := tb_of (i := 28) (by decide +kernel) rfl
theorem kw_29 : Cond.selects "ColourDuelModel" ⟨"ColourDuelModel", "see", "(I)I"⟩ ⟨"ColourDuelModel", "see", "(I)I"⟩ ∈ Tb := tb_of (i := 29) (by decide +kernel) rfl
theorem kw_30 : Cond.selects "ColourDuelModel" ⟨"ColourDuelModel", "reads", "()V"⟩ ⟨"ColourDuelModel", "reads", "()V"⟩ ∈ Tb := tb_of (i := 30) (by decide +kernel) rfl
theorem kw_31 : Cond.selects "ColourDuelModel" ⟨"ColourDuelModel", "isWord", "(Ljava/lang/String;)Z"⟩ ⟨"ColourDuelModel", "isWord", "(Ljava/lang/String;)Z"⟩ ∈ Tb := tb_of (i := 31) (by decide +kernel) rfl
theorem kw_32 : Cond.selects "ColourDuelModel" ⟨"ColourDuelModel", "must", "(Z)V"⟩ ⟨"ColourDuelModel", "must", "(Z)V"⟩ ∈ Tb := tb_of (i := 32) (by decide +kernel) rfl
theorem kw_33 : Cond.selects "ColourDuelModel" ⟨"ColourDuelModel", "fails", "(I)V"⟩ ⟨"ColourDuelModel", "fails", "(I)V"⟩ ∈ Tb := tb_of (i := 33) (by decide +kernel) rfl
theorem kw_34 : Cond.selects "ColourDuelModel" ⟨"ColourDuelModel", "takes", "(II)I"⟩ ⟨"ColourDuelModel", "takes", "(II)I"⟩ ∈ Tb := tb_of (i := 34) (by decide +kernel) rfl
theorem kw_35 : Cond.selects "ColourDuelModel" ⟨"ColourDuelModel", "mustEnd", "()V"⟩ ⟨"ColourDuelModel", "mustEnd", "()V"⟩ ∈ Tb := tb_of (i := 35) (by decide +kernel) rfl
theorem kw_36 : Cond.selects "ColourDuelModel" ⟨"ColourDuelModel", "readsVertex", "()V"⟩ ⟨"ColourDuelModel", "readsVertex", "()V"⟩ ∈ Tb := tb_of (i := 36) (by decide +kernel) rfl
theorem kw_37 : Cond.selects "ColourDuelModel" ⟨"ColourDuelModel", "colouringsNext", "()I"⟩ ⟨"ColourDuelModel", "colouringsNext", "()I"⟩ ∈ Tb := tb_of (i := 37) (by decide +kernel) rfl
theorem kw_38 : Cond.selects "ColourDuelModel" ⟨"ColourDuelModel", "lettersHere", "()I"⟩ ⟨"ColourDuelModel", "lettersHere", "()I"⟩ ∈ Tb := tb_of (i := 38) (by decide +kernel) rfl
theorem kw_39 : Cond.selects "ColourDuelModel" ⟨"ColourDuelModel", "readsEdge", "()V"⟩ ⟨"ColourDuelModel", "readsEdge", "()V"⟩ ∈ Tb := tb_of (i := 39) (by decide +kernel) rfl
theorem kw_40 : Cond.selects "ColourDuelModel" ⟨"ColourDuelModel", "areNext", "(II)Z"⟩ ⟨"ColourDuelModel", "areNext", "(II)Z"⟩ ∈ Tb := tb_of (i := 40) (by decide +kernel) rfl
theorem kw_41 : Cond.selects "ColourDuelModel" ⟨"ColourDuelModel", "readsLay", "()V"⟩ ⟨"ColourDuelModel", "readsLay", "()V"⟩ ∈ Tb := tb_of (i := 41) (by decide +kernel) rfl
theorem kw_42 : Cond.selects "ColourDuelModel" ⟨"ColourDuelModel", "whyNot", "(II)I"⟩ ⟨"ColourDuelModel", "whyNot", "(II)I"⟩ ∈ Tb := tb_of (i := 42) (by decide +kernel) rfl
theorem kw_43 : Cond.selects "ColourDuelModel" ⟨"ColourDuelModel", "isFree", "(I)Z"⟩ ⟨"ColourDuelModel", "isFree", "(I)Z"⟩ ∈ Tb := tb_of (i := 43) (by decide +kernel) rfl
theorem kw_44 : Cond.selects "ColourDuelModel" ⟨"ColourDuelModel", "around", "(I)I"⟩ ⟨"ColourDuelModel", "around", "(I)I"⟩ ∈ Tb := tb_of (i := 44) (by decide +kernel) rfl
theorem kw_45 : Cond.selects "ColourDuelModel" ⟨"ColourDuelModel", "colourOf", "(I)I"⟩ ⟨"ColourDuelModel", "colourOf", "(I)I"⟩ ∈ Tb := tb_of (i := 45) (by decide +kernel) rfl
theorem kw_46 : Cond.selects "ColourDuelModel" ⟨"ColourDuelModel", "colours", "(I)I"⟩ ⟨"ColourDuelModel", "colours", "(I)I"⟩ ∈ Tb := tb_of (i := 46) (by decide +kernel) rfl
theorem kw_47 : Cond.selects "ColourDuelModel" ⟨"ColourDuelModel", "freeSet", "()I"⟩ ⟨"ColourDuelModel", "freeSet", "()I"⟩ ∈ Tb := tb_of (i := 47) (by decide +kernel) rfl
theorem kw_48 : Cond.selects "ColourDuelModel" ⟨"ColourDuelModel", "reached", "(II)I"⟩ ⟨"ColourDuelModel", "reached", "(II)I"⟩ ∈ Tb := tb_of (i := 48) (by decide +kernel) rfl
theorem kw_49 : Cond.selects "ColourDuelModel" ⟨"ColourDuelModel", "banOf", "(I)I"⟩ ⟨"ColourDuelModel", "banOf", "(I)I"⟩ ∈ Tb := tb_of (i := 49) (by decide +kernel) rfl
theorem kw_50 : Cond.selects "ColourDuelModel" ⟨"ColourDuelModel", "canLay", "(III)I"⟩ ⟨"ColourDuelModel", "canLay", "(III)I"⟩ ∈ Tb := tb_of (i := 50) (by decide +kernel) rfl
theorem kw_51 : Cond.selects "ColourDuelModel" ⟨"ColourDuelModel", "lays", "(II)V"⟩ ⟨"ColourDuelModel", "lays", "(II)V"⟩ ∈ Tb := tb_of (i := 51) (by decide +kernel) rfl
theorem kw_52 : Cond.selects "ColourDuelModel" ⟨"ColourDuelModel", "partsIn", "(I)I"⟩ ⟨"ColourDuelModel", "partsIn", "(I)I"⟩ ∈ Tb := tb_of (i := 52) (by decide +kernel) rfl
theorem kw_53 : Cond.selects "ColourDuelModel" ⟨"ColourDuelModel", "notes", "(III)V"⟩ ⟨"ColourDuelModel", "notes", "(III)V"⟩ ∈ Tb := tb_of (i := 53) (by decide +kernel) rfl
theorem kw_54 : Cond.selects "ColourDuelModel" ⟨"ColourDuelModel", "turn", "()I"⟩ ⟨"ColourDuelModel", "turn", "()I"⟩ ∈ Tb := tb_of (i := 54) (by decide +kernel) rfl
theorem kw_55 : Cond.selects "ColourDuelModel" ⟨"ColourDuelModel", "readsPass", "()V"⟩ ⟨"ColourDuelModel", "readsPass", "()V"⟩ ∈ Tb := tb_of (i := 55) (by decide +kernel) rfl
theorem kw_56 : Cond.selects "ColourDuelModel" ⟨"ColourDuelModel", "passes", "()V"⟩ ⟨"ColourDuelModel", "passes", "()V"⟩ ∈ Tb := tb_of (i := 56) (by decide +kernel) rfl
theorem kw_57 : Cond.selects "ColourDuelModel" ⟨"ColourDuelModel", "keeps", "()V"⟩ ⟨"ColourDuelModel", "keeps", "()V"⟩ ∈ Tb := tb_of (i := 57) (by decide +kernel) rfl
theorem kw_58 : Cond.selects "ColourDuelModel" ⟨"ColourDuelModel", "edgesIn", "(I)I"⟩ ⟨"ColourDuelModel", "edgesIn", "(I)I"⟩ ∈ Tb := tb_of (i := 58) (by decide +kernel) rfl
theorem kw_59 : Cond.selects "ColourDuelModel" ⟨"ColourDuelModel", "isOver", "()Z"⟩ ⟨"ColourDuelModel", "isOver", "()Z"⟩ ∈ Tb := tb_of (i := 59) (by decide +kernel) rfl
theorem kw_60 : Cond.selects "ColourDuelModel" ⟨"ColourDuelModel", "pairs", "()I"⟩ ⟨"ColourDuelModel", "pairs", "()I"⟩ ∈ Tb := tb_of (i := 60) (by decide +kernel) rfl
theorem kw_61 : Cond.selects "ColourDuelModel" ⟨"ColourDuelModel", "stuck", "()I"⟩ ⟨"ColourDuelModel", "stuck", "()I"⟩ ∈ Tb := tb_of (i := 61) (by decide +kernel) rfl
theorem kw_62 : Cond.selects "ColourDuelModel" ⟨"ColourDuelModel", "isVertex", "(I)Z"⟩ ⟨"ColourDuelModel", "isVertex", "(I)Z"⟩ ∈ Tb := tb_of (i := 62) (by decide +kernel) rfl
theorem kw_63 : Cond.selects "ColourDuelModel" ⟨"ColourDuelModel", "partOf", "(I)I"⟩ ⟨"ColourDuelModel", "partOf", "(I)I"⟩ ∈ Tb := tb_of (i := 63) (by decide +kernel) rfl
theorem kw_64 : Cond.selects "ColourDuelModel" ⟨"ColourDuelModel", "isColour", "(I)Z"⟩ ⟨"ColourDuelModel", "isColour", "(I)Z"⟩ ∈ Tb := tb_of (i := 64) (by decide +kernel) rfl
theorem kw_65 : Cond.selects "ColourDuelModel" ⟨"ColourDuelModel", "partSet", "(I)I"⟩ ⟨"ColourDuelModel", "partSet", "(I)I"⟩ ∈ Tb := tb_of (i := 65) (by decide +kernel) rfl
theorem kw_66 : Cond.selects "ColourDuelModel" ⟨"ColourDuelModel", "pairsIn", "(I)I"⟩ ⟨"ColourDuelModel", "pairsIn", "(I)I"⟩ ∈ Tb := tb_of (i := 66) (by decide +kernel) rfl
theorem kw_67 : Cond.selects "ColourDuelModel" ⟨"ColourDuelModel", "ofPart", "(III)I"⟩ ⟨"ColourDuelModel", "ofPart", "(III)I"⟩ ∈ Tb := tb_of (i := 67) (by decide +kernel) rfl
theorem kw_68 : Cond.selects "ColourDuelModel" ⟨"ColourDuelModel", "forgets", "()V"⟩ ⟨"ColourDuelModel", "forgets", "()V"⟩ ∈ Tb := tb_of (i := 68) (by decide +kernel) rfl
theorem kw_69 : Cond.selects "ColourDuelModel" ⟨"ColourDuelModel", "knownOf", "(II)I"⟩ ⟨"ColourDuelModel", "knownOf", "(II)I"⟩ ∈ Tb := tb_of (i := 69) (by decide +kernel) rfl
theorem kw_70 : Cond.selects "ColourDuelModel" ⟨"ColourDuelModel", "placeOf", "(II)I"⟩ ⟨"ColourDuelModel", "placeOf", "(II)I"⟩ ∈ Tb := tb_of (i := 70) (by decide +kernel) rfl
theorem kw_71 : Cond.selects "ColourDuelModel" ⟨"ColourDuelModel", "together", "(II)I"⟩ ⟨"ColourDuelModel", "together", "(II)I"⟩ ∈ Tb := tb_of (i := 71) (by decide +kernel) rfl
theorem kw_72 : Cond.selects "ColourDuelModel" ⟨"ColourDuelModel", "valueNow", "()I"⟩ ⟨"ColourDuelModel", "valueNow", "()I"⟩ ∈ Tb := tb_of (i := 72) (by decide +kernel) rfl
theorem kw_73 : Cond.selects "ColourDuelModel" ⟨"ColourDuelModel", "board", "()I"⟩ ⟨"ColourDuelModel", "board", "()I"⟩ ∈ Tb := tb_of (i := 73) (by decide +kernel) rfl
theorem kw_74 : Cond.selects "ColourDuelModel" ⟨"ColourDuelModel", "boardIf", "(II)I"⟩ ⟨"ColourDuelModel", "boardIf", "(II)I"⟩ ∈ Tb := tb_of (i := 74) (by decide +kernel) rfl
theorem kw_75 : Cond.selects "ColourDuelModel" ⟨"ColourDuelModel", "passWins", "()Z"⟩ ⟨"ColourDuelModel", "passWins", "()Z"⟩ ∈ Tb := tb_of (i := 75) (by decide +kernel) rfl
theorem kw_76 : Cond.selects "ColourDuelModel" ⟨"ColourDuelModel", "winningOn", "(I)I"⟩ ⟨"ColourDuelModel", "winningOn", "(I)I"⟩ ∈ Tb := tb_of (i := 76) (by decide +kernel) rfl
theorem kw_77 : Cond.selects "ColourDuelModel" ⟨"ColourDuelModel", "best", "()I"⟩ ⟨"ColourDuelModel", "best", "()I"⟩ ∈ Tb := tb_of (i := 77) (by decide +kernel) rfl
theorem kw_78 : Cond.selects "ColourDuelModel" ⟨"ColourDuelModel", "moved", "(II)I"⟩ ⟨"ColourDuelModel", "moved", "(II)I"⟩ ∈ Tb := tb_of (i := 78) (by decide +kernel) rfl
theorem kw_79 : Cond.selects "ColourDuelModel" ⟨"ColourDuelModel", "counts", "(II)Z"⟩ ⟨"ColourDuelModel", "counts", "(II)Z"⟩ ∈ Tb := tb_of (i := 79) (by decide +kernel) rfl
theorem kw_80 : Cond.selects "ColourDuelModel" ⟨"ColourDuelModel", "says", "(I)V"⟩ ⟨"ColourDuelModel", "says", "(I)V"⟩ ∈ Tb := tb_of (i := 80) (by decide +kernel) rfl
theorem kw_82 : Cond.initialized "ColourDuel" ∈ Tb := tb_of (i := 82) (by decide +kernel) rfl
theorem kw_83 : Cond.initialized "ColourDuel$Board" ∈ Tb := tb_of (i := 83) (by decide +kernel) rfl
theorem kw_84 : Cond.initialized "ColourDuel$Solver" ∈ Tb := tb_of (i := 84) (by decide +kernel) rfl
theorem kw_85 : Cond.initialized "ColourDuel$Reader" ∈ Tb := tb_of (i := 85) (by decide +kernel) rfl
theorem kw_86 : Cond.initialized "ColourDuel$History" ∈ Tb := tb_of (i := 86) (by decide +kernel) rfl
theorem kw_87 : Cond.initialized "ColourDuelModel" ∈ Tb := tb_of (i := 87) (by decide +kernel) rfl
theorem kw_98 : Cond.initialized "java/lang/Integer" ∈ Tb := tb_of (i := 98) (by decide +kernel) rfl
theorem kw_99 : Cond.initialized "ColourDuel$Move" ∈ Tb := tb_of (i := 99) (by decide +kernel) rfl
theorem kw_106 : Cond.code ⟨"ColourDuel", "<init>", "()V"⟩ prog_1_method_1_code 1 (Option.none : Option FieldType) ∈ Tb := tb_of (i := 106) (by decide +kernel) rfl
theorem kw_107 : Cond.methodLink "ColourDuel" 1 ⟨"java/lang/Object", "<init>", "()V"⟩ ∈ Tb := tb_of (i := 107) (by decide +kernel) rfl
theorem kw_110 : Cond.classLink "ColourDuel" 7 "ColourDuel$Board" ∈ Tb := tb_of (i := 110) (by decide +kernel) rfl
theorem kw_111 : Cond.instantiable "ColourDuel$Board" 11 ∈ Tb := tb_of (i := 111) (by decide +kernel) rfl
theorem kw_112 : Cond.methodLink "ColourDuel" 9 ⟨"ColourDuel$Board", "<init>", "()V"⟩ ∈ Tb := tb_of (i := 112) (by decide +kernel) rfl
theorem kw_113 : Cond.instanceMethod ⟨"ColourDuel$Board", "<init>", "()V"⟩ ∈ Tb := tb_of (i := 113) (by decide +kernel) rfl
theorem kw_114 : Cond.code ⟨"ColourDuel$Board", "<init>", "()V"⟩ prog_2_method_1_code 1 (Option.none : Option FieldType) ∈ Tb := tb_of (i := 114) (by decide +kernel) rfl
theorem kw_115 : Cond.methodLink "ColourDuel$Board" 3 ⟨"java/lang/Object", "<init>", "()V"⟩ ∈ Tb := tb_of (i := 115) (by decide +kernel) rfl
theorem kn_116 : Cond.methodLinkNest "ColourDuel$Board" 34 ⟨"ColourDuel", "add", "([III)V"⟩ "ColourDuel" ∈ lw_tbl := tn_of (i := 116) (by decide +kernel)
theorem kw_117 : Cond.static ⟨"ColourDuel", "add", "([III)V"⟩ ∈ Tb := tb_of (i := 117) (by decide +kernel) rfl
theorem kw_118 : Cond.code ⟨"ColourDuel", "add", "([III)V"⟩ prog_1_method_37_code 3 (Option.none : Option FieldType) ∈ Tb := tb_of (i := 118) (by decide +kernel) rfl
theorem kw_119 : Cond.fieldLink "ColourDuel$Board" 38 "ColourDuel$Board" "number" "I" ∈ Tb := tb_of (i := 119) (by decide +kernel) rfl
theorem kw_120 : Cond.fieldLink "ColourDuel" 83 "ColourDuel$Board" "number" "I" ∈ Tb := tb_of (i := 120) (by decide +kernel) rfl
theorem kw_121 : Cond.fieldLink "ColourDuel$Solver" 63 "ColourDuel$Board" "number" "I" ∈ Tb := tb_of (i := 121) (by decide +kernel) rfl
theorem kw_122 : Cond.fieldLink "ColourDuel$Board" 24 "ColourDuel$Board" "colours" "I" ∈ Tb := tb_of (i := 122) (by decide +kernel) rfl
theorem kw_123 : Cond.fieldLink "ColourDuel" 99 "ColourDuel$Board" "colours" "I" ∈ Tb := tb_of (i := 123) (by decide +kernel) rfl
theorem kw_124 : Cond.fieldLink "ColourDuel$Board" 28 "ColourDuel$Board" "vertices" "I" ∈ Tb := tb_of (i := 124) (by decide +kernel) rfl
theorem kw_125 : Cond.fieldLink "ColourDuel" 86 "ColourDuel$Board" "vertices" "I" ∈ Tb := tb_of (i := 125) (by decide +kernel) rfl
theorem kw_126 : Cond.fieldLink "ColourDuel$Reader" 110 "ColourDuel$Board" "vertices" "I" ∈ Tb := tb_of (i := 126) (by decide +kernel) rfl
theorem kw_127 : Cond.fieldLink "ColourDuel$Board" 41 "ColourDuel$Board" "passes" "I" ∈ Tb := tb_of (i := 127) (by decide +kernel) rfl
theorem kw_128 : Cond.fieldLink "ColourDuel$Reader" 75 "ColourDuel$Board" "passes" "I" ∈ Tb := tb_of (i := 128) (by decide +kernel) rfl
theorem kw_129 : Cond.fieldLink "ColourDuel" 102 "ColourDuel$Board" "passes" "I" ∈ Tb := tb_of (i := 129) (by decide +kernel) rfl
theorem kw_130 : Cond.fieldLink "ColourDuel$Board" 31 "ColourDuel$Board" "free" "I" ∈ Tb := tb_of (i := 130) (by decide +kernel) rfl
theorem kw_131 : Cond.fieldLink "ColourDuel$Solver" 49 "ColourDuel$Board" "free" "I" ∈ Tb := tb_of (i := 131) (by decide +kernel) rfl
theorem kw_132 : Cond.fieldLink "ColourDuel" 105 "ColourDuel$Board" "free" "I" ∈ Tb := tb_of (i := 132) (by decide +kernel) rfl
theorem kw_133 : Cond.fieldLink "ColourDuel$Board" 44 "ColourDuel$Board" "made" "I" ∈ Tb := tb_of (i := 133) (by decide +kernel) rfl
theorem kw_134 : Cond.fieldLink "ColourDuel" 119 "ColourDuel$Board" "made" "I" ∈ Tb := tb_of (i := 134) (by decide +kernel) rfl
theorem kw_135 : Cond.fieldLink "ColourDuel$Board" 47 "ColourDuel$Board" "latest" "LColourDuel$Move;" ∈ Tb := tb_of (i := 135) (by decide +kernel) rfl
theorem kw_136 : Cond.fieldLink "ColourDuel$Board" 9 "ColourDuel$Board" "near" "[I" ∈ Tb := tb_of (i := 136) (by decide +kernel) rfl
theorem kw_137 : Cond.fieldLink "ColourDuel$Board" 15 "ColourDuel$Board" "listed" "[I" ∈ Tb := tb_of (i := 137) (by decide +kernel) rfl
theorem kw_138 : Cond.fieldLink "ColourDuel$Board" 18 "ColourDuel$Board" "painted" "[I" ∈ Tb := tb_of (i := 138) (by decide +kernel) rfl
theorem kw_139 : Cond.fieldLink "ColourDuel$Board" 21 "ColourDuel$Board" "banned" "[I" ∈ Tb := tb_of (i := 139) (by decide +kernel) rfl
theorem kw_163 : Cond.arrayClass FieldType.int ∈ Tb := tb_of (i := 163) (by decide +kernel) rfl
theorem kw_164 : Cond.classLink "ColourDuel" 16 "ColourDuel$Solver" ∈ Tb := tb_of (i := 164) (by decide +kernel) rfl
theorem kw_165 : Cond.instantiable "ColourDuel$Solver" 3 ∈ Tb := tb_of (i := 165) (by decide +kernel) rfl
theorem kw_166 : Cond.methodLink "ColourDuel" 18 ⟨"ColourDuel$Solver", "<init>", "(LColourDuel$Board;)V"⟩ ∈ Tb := tb_of (i := 166) (by decide +kernel) rfl
theorem kw_167 : Cond.instanceMethod ⟨"ColourDuel$Solver", "<init>", "(LColourDuel$Board;)V"⟩ ∈ Tb := tb_of (i := 167) (by decide +kernel) rfl
theorem kw_168 : Cond.code ⟨"ColourDuel$Solver", "<init>", "(LColourDuel$Board;)V"⟩ prog_6_method_1_code 2 (Option.none : Option FieldType) ∈ Tb := tb_of (i := 168) (by decide +kernel) rfl
theorem kw_169 : Cond.methodLink "ColourDuel$Solver" 5 ⟨"java/lang/Object", "<init>", "()V"⟩ ∈ Tb := tb_of (i := 169) (by decide +kernel) rfl
theorem kw_170 : Cond.constant "ColourDuel$Solver" 11 (32768 : Int32) ∈ Tb := tb_of (i := 170) (by decide +kernel) rfl
theorem kw_171 : Cond.fieldLink "ColourDuel$Solver" 20 "ColourDuel$Solver" "board" "LColourDuel$Board;" ∈ Tb := tb_of (i := 171) (by decide +kernel) rfl
theorem kw_172 : Cond.fieldLink "ColourDuel$Solver" 12 "ColourDuel$Solver" "places" "[J" ∈ Tb := tb_of (i := 172) (by decide +kernel) rfl
theorem kw_173 : Cond.fieldLink "ColourDuel$Solver" 16 "ColourDuel$Solver" "answers" "[I" ∈ Tb := tb_of (i := 173) (by decide +kernel) rfl
theorem kw_181 : Cond.arrayClass FieldType.long ∈ Tb := tb_of (i := 181) (by decide +kernel) rfl
theorem kw_182 : Cond.classLink "ColourDuel" 25 "ColourDuel$Reader" ∈ Tb := tb_of (i := 182) (by decide +kernel) rfl
theorem kw_183 : Cond.instantiable "ColourDuel$Reader" 10 ∈ Tb := tb_of (i := 183) (by decide +kernel) rfl
theorem kw_184 : Cond.methodLink "ColourDuel" 27 ⟨"ColourDuel$Reader", "<init>", "(LColourDuel$Board;)V"⟩ ∈ Tb := tb_of (i := 184) (by decide +kernel) rfl
theorem kw_185 : Cond.instanceMethod ⟨"ColourDuel$Reader", "<init>", "(LColourDuel$Board;)V"⟩ ∈ Tb := tb_of (i := 185) (by decide +kernel) rfl
theorem kw_186 : Cond.code ⟨"ColourDuel$Reader", "<init>", "(LColourDuel$Board;)V"⟩ prog_5_method_1_code 2 (Option.none : Option FieldType) ∈ Tb := tb_of (i := 186) (by decide +kernel) rfl
theorem kw_187 : Cond.methodLink "ColourDuel$Reader" 3 ⟨"java/lang/Object", "<init>", "()V"⟩ ∈ Tb := tb_of (i := 187) (by decide +kernel) rfl
theorem kw_188 : Cond.fieldLink "ColourDuel$Reader" 19 "ColourDuel$Reader" "draft" "LColourDuel$Board;" ∈ Tb := tb_of (i := 188) (by decide +kernel) rfl
theorem kw_189 : Cond.fieldLink "ColourDuel" 77 "ColourDuel$Reader" "draft" "LColourDuel$Board;" ∈ Tb := tb_of (i := 189) (by decide +kernel) rfl
theorem kw_190 : Cond.fieldLink "ColourDuel" 47 "ColourDuel$Reader" "filled" "I" ∈ Tb := tb_of (i := 190) (by decide +kernel) rfl
theorem kw_191 : Cond.fieldLink "ColourDuel$Reader" 23 "ColourDuel$Reader" "filled" "I" ∈ Tb := tb_of (i := 191) (by decide +kernel) rfl
theorem kw_192 : Cond.fieldLink "ColourDuel$Reader" 9 "ColourDuel$Reader" "errorAt" "I" ∈ Tb := tb_of (i := 192) (by decide +kernel) rfl
theorem kw_193 : Cond.fieldLink "ColourDuel" 89 "ColourDuel$Reader" "errorAt" "I" ∈ Tb := tb_of (i := 193) (by decide +kernel) rfl
theorem kw_194 : Cond.fieldLink "ColourDuel$Reader" 15 "ColourDuel$Reader" "bytes" "[B" ∈ Tb := tb_of (i := 194) (by decide +kernel) rfl
theorem kw_195 : Cond.fieldLink "ColourDuel$Reader" 26 "ColourDuel$Reader" "length" "I" ∈ Tb := tb_of (i := 195) (by decide +kernel) rfl
theorem kw_196 : Cond.fieldLink "ColourDuel$Reader" 51 "ColourDuel$Reader" "error" "I" ∈ Tb := tb_of (i := 196) (by decide +kernel) rfl
theorem kw_197 : Cond.fieldLink "ColourDuel$Reader" 96 "ColourDuel$Reader" "kind" "I" ∈ Tb := tb_of (i := 197) (by decide +kernel) rfl
theorem kw_198 : Cond.fieldLink "ColourDuel$Reader" 155 "ColourDuel$Reader" "start" "I" ∈ Tb := tb_of (i := 198) (by decide +kernel) rfl
theorem kw_199 : Cond.fieldLink "ColourDuel$Reader" 29 "ColourDuel$Reader" "end" "I" ∈ Tb := tb_of (i := 199) (by decide +kernel) rfl
theorem kw_200 : Cond.fieldLink "ColourDuel$Reader" 113 "ColourDuel$Reader" "number" "I" ∈ Tb := tb_of (i := 200) (by decide +kernel) rfl
theorem kw_222 : Cond.arrayClass FieldType.byte ∈ Tb := tb_of (i := 222) (by decide +kernel) rfl
theorem kw_223 : Cond.classLink "ColourDuel" 32 "ColourDuel$History" ∈ Tb := tb_of (i := 223) (by decide +kernel) rfl
theorem kw_224 : Cond.instantiable "ColourDuel$History" 3 ∈ Tb := tb_of (i := 224) (by decide +kernel) rfl
theorem kn_225 : Cond.methodLinkNest "ColourDuel" 34 ⟨"ColourDuel$History", "<init>", "()V"⟩ "ColourDuel" ∈ lw_tbl := tn_of (i := 225) (by decide +kernel)
theorem kw_226 : Cond.instanceMethod ⟨"ColourDuel$History", "<init>", "()V"⟩ ∈ Tb := tb_of (i := 226) (by decide +kernel) rfl
theorem kw_227 : Cond.code ⟨"ColourDuel$History", "<init>", "()V"⟩ prog_3_method_1_code 1 (Option.none : Option FieldType) ∈ Tb := tb_of (i := 227) (by decide +kernel) rfl
theorem kw_228 : Cond.methodLink "ColourDuel$History" 3 ⟨"java/lang/Object", "<init>", "()V"⟩ ∈ Tb := tb_of (i := 228) (by decide +kernel) rfl
theorem kw_229 : Cond.classLink "ColourDuel$History" 9 "ColourDuel$Board" ∈ Tb := tb_of (i := 229) (by decide +kernel) rfl
theorem kw_231 : Cond.fieldLink "ColourDuel$History" 25 "ColourDuel$History" "held" "I" ∈ Tb := tb_of (i := 231) (by decide +kernel) rfl
theorem kw_232 : Cond.fieldLink "ColourDuel" 278 "ColourDuel$History" "held" "I" ∈ Tb := tb_of (i := 232) (by decide +kernel) rfl
theorem kw_233 : Cond.fieldLink "ColourDuel$History" 17 "ColourDuel$History" "next" "I" ∈ Tb := tb_of (i := 233) (by decide +kernel) rfl
theorem kw_234 : Cond.fieldLink "ColourDuel$History" 11 "ColourDuel$History" "kept" "[LColourDuel$Board;" ∈ Tb := tb_of (i := 234) (by decide +kernel) rfl
theorem kw_242 : Cond.fieldLink "ColourDuel" 10 "ColourDuel" "board" "LColourDuel$Board;" ∈ Tb := tb_of (i := 242) (by decide +kernel) rfl
theorem kw_243 : Cond.fieldLink "ColourDuel" 21 "ColourDuel" "solver" "LColourDuel$Solver;" ∈ Tb := tb_of (i := 243) (by decide +kernel) rfl
theorem kw_244 : Cond.fieldLink "ColourDuel" 28 "ColourDuel" "reader" "LColourDuel$Reader;" ∈ Tb := tb_of (i := 244) (by decide +kernel) rfl
theorem kw_245 : Cond.fieldLink "ColourDuel" 35 "ColourDuel" "history" "LColourDuel$History;" ∈ Tb := tb_of (i := 245) (by decide +kernel) rfl
theorem kw_246 : Cond.fieldLink "ColourDuel" 39 "ColourDuel" "slots" "[LColourDuel$Board;" ∈ Tb := tb_of (i := 246) (by decide +kernel) rfl
theorem kw_247 : Cond.fieldLink "ColourDuel" 43 "ColourDuel" "written" "[B" ∈ Tb := tb_of (i := 247) (by decide +kernel) rfl
theorem kw_248 : Cond.fieldLink "ColourDuel" 270 "ColourDuel" "writtenLength" "I" ∈ Tb := tb_of (i := 248) (by decide +kernel) rfl
theorem kw_249 : Cond.fieldLink "ColourDuel" 74 "ColourDuel" "loads" "I" ∈ Tb := tb_of (i := 249) (by decide +kernel) rfl
theorem kw_270 : Cond.code ⟨"ColourDuel", "errorPosition", "()I"⟩ prog_1_method_4_code 1 (Option.some FieldType.int) ∈ Tb := tb_of (i := 270) (by decide +kernel) rfl
theorem kw_274 : Cond.code ⟨"ColourDuel", "value", "()I"⟩ prog_1_method_9_code 1 (Option.some FieldType.int) ∈ Tb := tb_of (i := 274) (by decide +kernel) rfl
theorem kw_275 : Cond.methodLink "ColourDuel" 187 ⟨"ColourDuel$Solver", "ofPartsIn", "(I)I"⟩ ∈ Tb := tb_of (i := 275) (by decide +kernel) rfl
theorem kw_276 : Cond.instanceMethod ⟨"ColourDuel$Solver", "ofPartsIn", "(I)I"⟩ ∈ Tb := tb_of (i := 276) (by decide +kernel) rfl
theorem kw_277 : Cond.selects "ColourDuel$Solver" ⟨"ColourDuel$Solver", "ofPartsIn", "(I)I"⟩ ⟨"ColourDuel$Solver", "ofPartsIn", "(I)I"⟩ ∈ Tb := tb_of (i := 277) (by decide +kernel) rfl
theorem kw_278 : Cond.code ⟨"ColourDuel$Solver", "ofPartsIn", "(I)I"⟩ prog_6_method_2_code 6 (Option.some FieldType.int) ∈ Tb := tb_of (i := 278) (by decide +kernel) rfl
theorem kw_279 : Cond.methodLink "ColourDuel$Solver" 24 ⟨"ColourDuel$Board", "reachable", "(II)I"⟩ ∈ Tb := tb_of (i := 279) (by decide +kernel) rfl
theorem kw_280 : Cond.instanceMethod ⟨"ColourDuel$Board", "reachable", "(II)I"⟩ ∈ Tb := tb_of (i := 280) (by decide +kernel) rfl
theorem kw_281 : Cond.selects "ColourDuel$Board" ⟨"ColourDuel$Board", "reachable", "(II)I"⟩ ⟨"ColourDuel$Board", "reachable", "(II)I"⟩ ∈ Tb := tb_of (i := 281) (by decide +kernel) rfl
theorem kw_282 : Cond.code ⟨"ColourDuel$Board", "reachable", "(II)I"⟩ prog_2_method_16_code 9 (Option.some FieldType.int) ∈ Tb := tb_of (i := 282) (by decide +kernel) rfl
theorem kw_283 : Cond.methodLink "ColourDuel$Board" 67 ⟨"java/lang/Integer", "bitCount", "(I)I"⟩ ∈ Tb := tb_of (i := 283) (by decide +kernel) rfl
theorem kw_284 : Cond.static ⟨"java/lang/Integer", "bitCount", "(I)I"⟩ ∈ Tb := tb_of (i := 284) (by decide +kernel) rfl
theorem kw_285 : Cond.code ⟨"java/lang/Integer", "bitCount", "(I)I"⟩ prog_16_method_49_code 1 (Option.some FieldType.int) ∈ Tb := tb_of (i := 285) (by decide +kernel) rfl
theorem kw_286 : Cond.constant "java/lang/Integer" 265 (1431655765 : Int32) ∈ Tb := tb_of (i := 286) (by decide +kernel) rfl
theorem kw_287 : Cond.constant "java/lang/Integer" 266 (858993459 : Int32) ∈ Tb := tb_of (i := 287) (by decide +kernel) rfl
theorem kw_288 : Cond.constant "java/lang/Integer" 267 (252645135 : Int32) ∈ Tb := tb_of (i := 288) (by decide +kernel) rfl
theorem kw_289 : Cond.methodLink "ColourDuel$Solver" 30 ⟨"ColourDuel$Solver", "placeOf", "(I)J"⟩ ∈ Tb := tb_of (i := 289) (by decide +kernel) rfl
theorem kw_291 : Cond.instanceMethod ⟨"ColourDuel$Solver", "placeOf", "(I)J"⟩ ∈ Tb := tb_of (i := 291) (by decide +kernel) rfl
theorem kw_292 : Cond.code ⟨"ColourDuel$Solver", "placeOf", "(I)J"⟩ prog_6_method_5_code 5 (Option.some FieldType.long) ∈ Tb := tb_of (i := 292) (by decide +kernel) rfl
theorem kw_293 : Cond.methodLink "ColourDuel$Solver" 66 ⟨"ColourDuel$Board", "banOf", "(I)I"⟩ ∈ Tb := tb_of (i := 293) (by decide +kernel) rfl
theorem kw_294 : Cond.instanceMethod ⟨"ColourDuel$Board", "banOf", "(I)I"⟩ ∈ Tb := tb_of (i := 294) (by decide +kernel) rfl
theorem kw_295 : Cond.selects "ColourDuel$Board" ⟨"ColourDuel$Board", "banOf", "(I)I"⟩ ⟨"ColourDuel$Board", "banOf", "(I)I"⟩ ∈ Tb := tb_of (i := 295) (by decide +kernel) rfl
theorem kw_296 : Cond.code ⟨"ColourDuel$Board", "banOf", "(I)I"⟩ prog_2_method_21_code 3 (Option.some FieldType.int) ∈ Tb := tb_of (i := 296) (by decide +kernel) rfl
theorem kw_297 : Cond.methodLink "ColourDuel$Solver" 69 ⟨"ColourDuel$Board", "openTo", "(I)I"⟩ ∈ Tb := tb_of (i := 297) (by decide +kernel) rfl
theorem kw_298 : Cond.instanceMethod ⟨"ColourDuel$Board", "openTo", "(I)I"⟩ ∈ Tb := tb_of (i := 298) (by decide +kernel) rfl
theorem kw_299 : Cond.selects "ColourDuel$Board" ⟨"ColourDuel$Board", "openTo", "(I)I"⟩ ⟨"ColourDuel$Board", "openTo", "(I)I"⟩ ∈ Tb := tb_of (i := 299) (by decide +kernel) rfl
theorem kw_300 : Cond.code ⟨"ColourDuel$Board", "openTo", "(I)I"⟩ prog_2_method_27_code 4 (Option.some FieldType.int) ∈ Tb := tb_of (i := 300) (by decide +kernel) rfl
theorem kn_301 : Cond.methodLinkNest "ColourDuel$Board" 90 ⟨"ColourDuel", "at", "([II)I"⟩ "ColourDuel" ∈ lw_tbl := tn_of (i := 301) (by decide +kernel)
theorem kw_302 : Cond.static ⟨"ColourDuel", "at", "([II)I"⟩ ∈ Tb := tb_of (i := 302) (by decide +kernel) rfl
theorem kw_303 : Cond.code ⟨"ColourDuel", "at", "([II)I"⟩ prog_1_method_36_code 2 (Option.some FieldType.int) ∈ Tb := tb_of (i := 303) (by decide +kernel) rfl
theorem kw_304 : Cond.methodLink "ColourDuel$Solver" 72 ⟨"ColourDuel$Solver", "setShift", "(I)I"⟩ ∈ Tb := tb_of (i := 304) (by decide +kernel) rfl
theorem kw_305 : Cond.static ⟨"ColourDuel$Solver", "setShift", "(I)I"⟩ ∈ Tb := tb_of (i := 305) (by decide +kernel) rfl
theorem kw_306 : Cond.code ⟨"ColourDuel$Solver", "setShift", "(I)I"⟩ prog_6_method_6_code 1 (Option.some FieldType.int) ∈ Tb := tb_of (i := 306) (by decide +kernel) rfl
theorem kw_307 : Cond.methodLink "ColourDuel$Solver" 34 ⟨"ColourDuel$Solver", "ofPlace", "(JI)I"⟩ ∈ Tb := tb_of (i := 307) (by decide +kernel) rfl
theorem kw_309 : Cond.instanceMethod ⟨"ColourDuel$Solver", "ofPlace", "(JI)I"⟩ ∈ Tb := tb_of (i := 309) (by decide +kernel) rfl
theorem kw_310 : Cond.code ⟨"ColourDuel$Solver", "ofPlace", "(JI)I"⟩ prog_6_method_9_code 6 (Option.some FieldType.int) ∈ Tb := tb_of (i := 310) (by decide +kernel) rfl
theorem kw_311 : Cond.constantLong "ColourDuel$Solver" 82 (-7046029254386353131 : Int64) ∈ Tb := tb_of (i := 311) (by decide +kernel) rfl
theorem kw_312 : Cond.methodLink "ColourDuel$Solver" 84 ⟨"ColourDuel$Solver", "workOut", "(JI)I"⟩ ∈ Tb := tb_of (i := 312) (by decide +kernel) rfl
theorem kw_314 : Cond.instanceMethod ⟨"ColourDuel$Solver", "workOut", "(JI)I"⟩ ∈ Tb := tb_of (i := 314) (by decide +kernel) rfl
theorem kw_315 : Cond.code ⟨"ColourDuel$Solver", "workOut", "(JI)I"⟩ prog_6_method_10_code 14 (Option.some FieldType.int) ∈ Tb := tb_of (i := 315) (by decide +kernel) rfl
theorem kw_316 : Cond.constantLong "ColourDuel$Solver" 87 (3 : Int64) ∈ Tb := tb_of (i := 316) (by decide +kernel) rfl
theorem kn_317 : Cond.methodLinkNest "ColourDuel$Solver" 89 ⟨"ColourDuel", "has", "(II)Z"⟩ "ColourDuel" ∈ lw_tbl := tn_of (i := 317) (by decide +kernel)
theorem kw_318 : Cond.static ⟨"ColourDuel", "has", "(II)Z"⟩ ∈ Tb := tb_of (i := 318) (by decide +kernel) rfl
theorem kw_319 : Cond.code ⟨"ColourDuel", "has", "(II)Z"⟩ prog_1_method_34_code 2 (Option.some FieldType.boolean) ∈ Tb := tb_of (i := 319) (by decide +kernel) rfl
theorem kw_320 : Cond.methodLink "ColourDuel$Solver" 45 ⟨"ColourDuel$Solver", "behind", "(JII)J"⟩ ∈ Tb := tb_of (i := 320) (by decide +kernel) rfl
theorem kw_322 : Cond.instanceMethod ⟨"ColourDuel$Solver", "behind", "(JII)J"⟩ ∈ Tb := tb_of (i := 322) (by decide +kernel) rfl
theorem kw_323 : Cond.code ⟨"ColourDuel$Solver", "behind", "(JII)J"⟩ prog_6_method_7_code 7 (Option.some FieldType.long) ∈ Tb := tb_of (i := 323) (by decide +kernel) rfl
theorem kw_324 : Cond.methodLink "ColourDuel$Solver" 75 ⟨"ColourDuel$Board", "neighbours", "(I)I"⟩ ∈ Tb := tb_of (i := 324) (by decide +kernel) rfl
theorem kw_325 : Cond.instanceMethod ⟨"ColourDuel$Board", "neighbours", "(I)I"⟩ ∈ Tb := tb_of (i := 325) (by decide +kernel) rfl
theorem kw_326 : Cond.selects "ColourDuel$Board" ⟨"ColourDuel$Board", "neighbours", "(I)I"⟩ ⟨"ColourDuel$Board", "neighbours", "(I)I"⟩ ∈ Tb := tb_of (i := 326) (by decide +kernel) rfl
theorem kw_327 : Cond.code ⟨"ColourDuel$Board", "neighbours", "(I)I"⟩ prog_2_method_11_code 2 (Option.some FieldType.int) ∈ Tb := tb_of (i := 327) (by decide +kernel) rfl
theorem kw_328 : Cond.constantLong "ColourDuel$Solver" 59 (134480385 : Int64) ∈ Tb := tb_of (i := 328) (by decide +kernel) rfl
theorem kw_329 : Cond.constantLong "ColourDuel$Solver" 78 (206158430208 : Int64) ∈ Tb := tb_of (i := 329) (by decide +kernel) rfl
theorem kw_330 : Cond.constantLong "ColourDuel$Solver" 61 (-1 : Int64) ∈ Tb := tb_of (i := 330) (by decide +kernel) rfl
theorem kw_331 : Cond.methodLink "ColourDuel$Solver" 56 ⟨"ColourDuel$Solver", "ofPieces", "(JI)I"⟩ ∈ Tb := tb_of (i := 331) (by decide +kernel) rfl
theorem kw_333 : Cond.instanceMethod ⟨"ColourDuel$Solver", "ofPieces", "(JI)I"⟩ ∈ Tb := tb_of (i := 333) (by decide +kernel) rfl
theorem kw_334 : Cond.code ⟨"ColourDuel$Solver", "ofPieces", "(JI)I"⟩ prog_6_method_8_code 10 (Option.some FieldType.int) ∈ Tb := tb_of (i := 334) (by decide +kernel) rfl
theorem kw_335 : Cond.constantLong "ColourDuel$Solver" 80 (-68719476736 : Int64) ∈ Tb := tb_of (i := 335) (by decide +kernel) rfl
theorem kn_336 : Cond.methodLinkNest "ColourDuel$Solver" 38 ⟨"ColourDuel", "together", "(II)I"⟩ "ColourDuel" ∈ lw_tbl := tn_of (i := 336) (by decide +kernel)
theorem kw_337 : Cond.static ⟨"ColourDuel", "together", "(II)I"⟩ ∈ Tb := tb_of (i := 337) (by decide +kernel) rfl
theorem kw_338 : Cond.code ⟨"ColourDuel", "together", "(II)I"⟩ prog_1_method_45_code 3 (Option.some FieldType.int) ∈ Tb := tb_of (i := 338) (by decide +kernel) rfl
theorem kn_339 : Cond.methodLinkNest "ColourDuel$Solver" 93 ⟨"ColourDuel", "valueIn", "(I)I"⟩ "ColourDuel" ∈ lw_tbl := tn_of (i := 339) (by decide +kernel)
theorem kw_340 : Cond.static ⟨"ColourDuel", "valueIn", "(I)I"⟩ ∈ Tb := tb_of (i := 340) (by decide +kernel) rfl
theorem kw_341 : Cond.code ⟨"ColourDuel", "valueIn", "(I)I"⟩ prog_1_method_42_code 1 (Option.some FieldType.int) ∈ Tb := tb_of (i := 341) (by decide +kernel) rfl
theorem kn_342 : Cond.methodLinkNest "ColourDuel$Solver" 96 ⟨"ColourDuel", "longestIn", "(I)I"⟩ "ColourDuel" ∈ lw_tbl := tn_of (i := 342) (by decide +kernel)
theorem kw_343 : Cond.static ⟨"ColourDuel", "longestIn", "(I)I"⟩ ∈ Tb := tb_of (i := 343) (by decide +kernel) rfl
theorem kw_344 : Cond.code ⟨"ColourDuel", "longestIn", "(I)I"⟩ prog_1_method_43_code 1 (Option.some FieldType.int) ∈ Tb := tb_of (i := 344) (by decide +kernel) rfl
theorem kw_345 : Cond.methodLink "ColourDuel$Solver" 99 ⟨"java/lang/Math", "max", "(II)I"⟩ ∈ Tb := tb_of (i := 345) (by decide +kernel) rfl
theorem kn_348 : Cond.methodLinkNest "ColourDuel$Solver" 104 ⟨"ColourDuel", "shortestIn", "(I)I"⟩ "ColourDuel" ∈ lw_tbl := tn_of (i := 348) (by decide +kernel)
theorem kw_349 : Cond.static ⟨"ColourDuel", "shortestIn", "(I)I"⟩ ∈ Tb := tb_of (i := 349) (by decide +kernel) rfl
theorem kw_350 : Cond.code ⟨"ColourDuel", "shortestIn", "(I)I"⟩ prog_1_method_44_code 1 (Option.some FieldType.int) ∈ Tb := tb_of (i := 350) (by decide +kernel) rfl
theorem kw_351 : Cond.methodLink "ColourDuel$Solver" 107 ⟨"java/lang/Math", "min", "(II)I"⟩ ∈ Tb := tb_of (i := 351) (by decide +kernel) rfl
theorem kn_354 : Cond.methodLinkNest "ColourDuel$Solver" 110 ⟨"ColourDuel", "least", "(I)I"⟩ "ColourDuel" ∈ lw_tbl := tn_of (i := 354) (by decide +kernel)
theorem kw_355 : Cond.static ⟨"ColourDuel", "least", "(I)I"⟩ ∈ Tb := tb_of (i := 355) (by decide +kernel) rfl
theorem kw_356 : Cond.code ⟨"ColourDuel", "least", "(I)I"⟩ prog_1_method_35_code 1 (Option.some FieldType.int) ∈ Tb := tb_of (i := 356) (by decide +kernel) rfl
theorem kw_357 : Cond.methodLink "ColourDuel" 108 ⟨"java/lang/Integer", "bitCount", "(I)I"⟩ ∈ Tb := tb_of (i := 357) (by decide +kernel) rfl
theorem kn_358 : Cond.methodLinkNest "ColourDuel$Solver" 113 ⟨"ColourDuel", "answerOf", "(III)I"⟩ "ColourDuel" ∈ lw_tbl := tn_of (i := 358) (by decide +kernel)
theorem kw_359 : Cond.static ⟨"ColourDuel", "answerOf", "(III)I"⟩ ∈ Tb := tb_of (i := 359) (by decide +kernel) rfl
theorem kw_360 : Cond.code ⟨"ColourDuel", "answerOf", "(III)I"⟩ prog_1_method_41_code 3 (Option.some FieldType.int) ∈ Tb := tb_of (i := 360) (by decide +kernel) rfl
theorem kw_361 : Cond.methodLink "ColourDuel" 190 ⟨"ColourDuel", "valueIn", "(I)I"⟩ ∈ Tb := tb_of (i := 361) (by decide +kernel) rfl
theorem kw_362 : Cond.methodLink "ColourDuel" 132 ⟨"ColourDuel$Board", "passValue", "()I"⟩ ∈ Tb := tb_of (i := 362) (by decide +kernel) rfl
theorem kw_363 : Cond.instanceMethod ⟨"ColourDuel$Board", "passValue", "()I"⟩ ∈ Tb := tb_of (i := 363) (by decide +kernel) rfl
theorem kw_364 : Cond.selects "ColourDuel$Board" ⟨"ColourDuel$Board", "passValue", "()I"⟩ ⟨"ColourDuel$Board", "passValue", "()I"⟩ ∈ Tb := tb_of (i := 364) (by decide +kernel) rfl
theorem kw_365 : Cond.code ⟨"ColourDuel$Board", "passValue", "()I"⟩ prog_2_method_30_code 1 (Option.some FieldType.int) ∈ Tb := tb_of (i := 365) (by decide +kernel) rfl
theorem kw_369 : Cond.code ⟨"ColourDuel", "winningMoves", "()I"⟩ prog_1_method_11_code 3 (Option.some FieldType.int) ∈ Tb := tb_of (i := 369) (by decide +kernel) rfl
theorem kw_370 : Cond.methodLink "ColourDuel" 209 ⟨"ColourDuel", "passWins", "()Z"⟩ ∈ Tb := tb_of (i := 370) (by decide +kernel) rfl
theorem kw_372 : Cond.instanceMethod ⟨"ColourDuel", "passWins", "()Z"⟩ ∈ Tb := tb_of (i := 372) (by decide +kernel) rfl
theorem kw_373 : Cond.code ⟨"ColourDuel", "passWins", "()Z"⟩ prog_1_method_31_code 2 (Option.some FieldType.boolean) ∈ Tb := tb_of (i := 373) (by decide +kernel) rfl
theorem kw_374 : Cond.methodLink "ColourDuel" 212 ⟨"ColourDuel", "winnersOn", "(I)I"⟩ ∈ Tb := tb_of (i := 374) (by decide +kernel) rfl
theorem kw_376 : Cond.instanceMethod ⟨"ColourDuel", "winnersOn", "(I)I"⟩ ∈ Tb := tb_of (i := 376) (by decide +kernel) rfl
theorem kw_377 : Cond.code ⟨"ColourDuel", "winnersOn", "(I)I"⟩ prog_1_method_30_code 5 (Option.some FieldType.int) ∈ Tb := tb_of (i := 377) (by decide +kernel) rfl
theorem kw_378 : Cond.methodLink "ColourDuel" 152 ⟨"ColourDuel$Board", "choicesOn", "(I)I"⟩ ∈ Tb := tb_of (i := 378) (by decide +kernel) rfl
theorem kw_379 : Cond.instanceMethod ⟨"ColourDuel$Board", "choicesOn", "(I)I"⟩ ∈ Tb := tb_of (i := 379) (by decide +kernel) rfl
theorem kw_380 : Cond.selects "ColourDuel$Board" ⟨"ColourDuel$Board", "choicesOn", "(I)I"⟩ ⟨"ColourDuel$Board", "choicesOn", "(I)I"⟩ ∈ Tb := tb_of (i := 380) (by decide +kernel) rfl
theorem kw_381 : Cond.code ⟨"ColourDuel$Board", "choicesOn", "(I)I"⟩ prog_2_method_24_code 4 (Option.some FieldType.int) ∈ Tb := tb_of (i := 381) (by decide +kernel) rfl
theorem kw_382 : Cond.methodLink "ColourDuel$Board" 96 ⟨"ColourDuel$Board", "whyNot", "(II)I"⟩ ∈ Tb := tb_of (i := 382) (by decide +kernel) rfl
theorem kw_383 : Cond.instanceMethod ⟨"ColourDuel$Board", "whyNot", "(II)I"⟩ ∈ Tb := tb_of (i := 383) (by decide +kernel) rfl
theorem kw_384 : Cond.selects "ColourDuel$Board" ⟨"ColourDuel$Board", "whyNot", "(II)I"⟩ ⟨"ColourDuel$Board", "whyNot", "(II)I"⟩ ∈ Tb := tb_of (i := 384) (by decide +kernel) rfl
theorem kw_385 : Cond.code ⟨"ColourDuel$Board", "whyNot", "(II)I"⟩ prog_2_method_23_code 4 (Option.some FieldType.int) ∈ Tb := tb_of (i := 385) (by decide +kernel) rfl
theorem kw_386 : Cond.methodLink "ColourDuel$Board" 87 ⟨"ColourDuel$Board", "isFree", "(I)Z"⟩ ∈ Tb := tb_of (i := 386) (by decide +kernel) rfl
theorem kw_387 : Cond.instanceMethod ⟨"ColourDuel$Board", "isFree", "(I)Z"⟩ ∈ Tb := tb_of (i := 387) (by decide +kernel) rfl
theorem kw_388 : Cond.selects "ColourDuel$Board" ⟨"ColourDuel$Board", "isFree", "(I)Z"⟩ ⟨"ColourDuel$Board", "isFree", "(I)Z"⟩ ∈ Tb := tb_of (i := 388) (by decide +kernel) rfl
theorem kw_389 : Cond.code ⟨"ColourDuel$Board", "isFree", "(I)Z"⟩ prog_2_method_15_code 2 (Option.some FieldType.boolean) ∈ Tb := tb_of (i := 389) (by decide +kernel) rfl
theorem kn_390 : Cond.methodLinkNest "ColourDuel$Board" 59 ⟨"ColourDuel", "has", "(II)Z"⟩ "ColourDuel" ∈ lw_tbl := tn_of (i := 390) (by decide +kernel)
theorem kw_391 : Cond.methodLink "ColourDuel$Board" 93 ⟨"ColourDuel$Board", "neighbours", "(I)I"⟩ ∈ Tb := tb_of (i := 391) (by decide +kernel) rfl
theorem kw_392 : Cond.methodLink "ColourDuel" 294 ⟨"ColourDuel", "has", "(II)Z"⟩ ∈ Tb := tb_of (i := 392) (by decide +kernel) rfl
theorem kw_393 : Cond.methodLink "ColourDuel" 206 ⟨"ColourDuel$Solver", "behindLay", "(II)I"⟩ ∈ Tb := tb_of (i := 393) (by decide +kernel) rfl
theorem kw_394 : Cond.instanceMethod ⟨"ColourDuel$Solver", "behindLay", "(II)I"⟩ ∈ Tb := tb_of (i := 394) (by decide +kernel) rfl
theorem kw_395 : Cond.selects "ColourDuel$Solver" ⟨"ColourDuel$Solver", "behindLay", "(II)I"⟩ ⟨"ColourDuel$Solver", "behindLay", "(II)I"⟩ ∈ Tb := tb_of (i := 395) (by decide +kernel) rfl
theorem kw_396 : Cond.code ⟨"ColourDuel$Solver", "behindLay", "(II)I"⟩ prog_6_method_3_code 6 (Option.some FieldType.int) ∈ Tb := tb_of (i := 396) (by decide +kernel) rfl
theorem kw_397 : Cond.methodLink "ColourDuel$Solver" 41 ⟨"ColourDuel$Board", "partWith", "(I)I"⟩ ∈ Tb := tb_of (i := 397) (by decide +kernel) rfl
theorem kw_398 : Cond.instanceMethod ⟨"ColourDuel$Board", "partWith", "(I)I"⟩ ∈ Tb := tb_of (i := 398) (by decide +kernel) rfl
theorem kw_399 : Cond.selects "ColourDuel$Board" ⟨"ColourDuel$Board", "partWith", "(I)I"⟩ ⟨"ColourDuel$Board", "partWith", "(I)I"⟩ ∈ Tb := tb_of (i := 399) (by decide +kernel) rfl
theorem kw_400 : Cond.code ⟨"ColourDuel$Board", "partWith", "(I)I"⟩ prog_2_method_17_code 2 (Option.some FieldType.int) ∈ Tb := tb_of (i := 400) (by decide +kernel) rfl
theorem kw_401 : Cond.methodLink "ColourDuel$Board" 77 ⟨"ColourDuel$Board", "reachable", "(II)I"⟩ ∈ Tb := tb_of (i := 401) (by decide +kernel) rfl
theorem kw_402 : Cond.methodLink "ColourDuel$Solver" 53 ⟨"ColourDuel$Solver", "ofPartsIn", "(I)I"⟩ ∈ Tb := tb_of (i := 402) (by decide +kernel) rfl
theorem kw_404 : Cond.instanceMethod ⟨"ColourDuel", "longest", "()I"⟩ ∈ Tb := tb_of (i := 404) (by decide +kernel) rfl
theorem kw_405 : Cond.selects "ColourDuel" ⟨"ColourDuel", "longest", "()I"⟩ ⟨"ColourDuel", "longest", "()I"⟩ ∈ Tb := tb_of (i := 405) (by decide +kernel) rfl
theorem kw_406 : Cond.code ⟨"ColourDuel", "longest", "()I"⟩ prog_1_method_13_code 1 (Option.some FieldType.int) ∈ Tb := tb_of (i := 406) (by decide +kernel) rfl
theorem kw_407 : Cond.methodLink "ColourDuel" 193 ⟨"ColourDuel", "longestIn", "(I)I"⟩ ∈ Tb := tb_of (i := 407) (by decide +kernel) rfl
theorem kw_411 : Cond.code ⟨"ColourDuel", "shortest", "()I"⟩ prog_1_method_14_code 1 (Option.some FieldType.int) ∈ Tb := tb_of (i := 411) (by decide +kernel) rfl
theorem kw_412 : Cond.methodLink "ColourDuel" 196 ⟨"ColourDuel", "shortestIn", "(I)I"⟩ ∈ Tb := tb_of (i := 412) (by decide +kernel) rfl
theorem kw_416 : Cond.code ⟨"ColourDuel", "meanValue", "()F"⟩ prog_1_method_15_code 4 (Option.some FieldType.float) ∈ Tb := tb_of (i := 416) (by decide +kernel) rfl
theorem kw_417 : Cond.methodLink "ColourDuel" 113 ⟨"ColourDuel$Board", "partsIn", "(I)I"⟩ ∈ Tb := tb_of (i := 417) (by decide +kernel) rfl
theorem kw_418 : Cond.instanceMethod ⟨"ColourDuel$Board", "partsIn", "(I)I"⟩ ∈ Tb := tb_of (i := 418) (by decide +kernel) rfl
theorem kw_419 : Cond.selects "ColourDuel$Board" ⟨"ColourDuel$Board", "partsIn", "(I)I"⟩ ⟨"ColourDuel$Board", "partsIn", "(I)I"⟩ ∈ Tb := tb_of (i := 419) (by decide +kernel) rfl
theorem kw_420 : Cond.code ⟨"ColourDuel$Board", "partsIn", "(I)I"⟩ prog_2_method_18_code 4 (Option.some FieldType.int) ∈ Tb := tb_of (i := 420) (by decide +kernel) rfl
theorem kw_421 : Cond.methodLink "ColourDuel" 176 ⟨"ColourDuel$Board", "partAt", "(I)I"⟩ ∈ Tb := tb_of (i := 421) (by decide +kernel) rfl
theorem kw_422 : Cond.instanceMethod ⟨"ColourDuel$Board", "partAt", "(I)I"⟩ ∈ Tb := tb_of (i := 422) (by decide +kernel) rfl
theorem kw_423 : Cond.selects "ColourDuel$Board" ⟨"ColourDuel$Board", "partAt", "(I)I"⟩ ⟨"ColourDuel$Board", "partAt", "(I)I"⟩ ∈ Tb := tb_of (i := 423) (by decide +kernel) rfl
theorem kw_424 : Cond.code ⟨"ColourDuel$Board", "partAt", "(I)I"⟩ prog_2_method_19_code 4 (Option.some FieldType.int) ∈ Tb := tb_of (i := 424) (by decide +kernel) rfl
theorem kw_428 : Cond.code ⟨"ColourDuel", "writeBoard", "()I"⟩ prog_1_method_25_code 2 (Option.some FieldType.int) ∈ Tb := tb_of (i := 428) (by decide +kernel) rfl
theorem kw_429 : Cond.methodLink "ColourDuel" 158 ⟨"ColourDuel$Board", "isFree", "(I)Z"⟩ ∈ Tb := tb_of (i := 429) (by decide +kernel) rfl
theorem kw_430 : Cond.methodLink "ColourDuel" 146 ⟨"ColourDuel$Board", "colourOf", "(I)I"⟩ ∈ Tb := tb_of (i := 430) (by decide +kernel) rfl
theorem kw_431 : Cond.instanceMethod ⟨"ColourDuel$Board", "colourOf", "(I)I"⟩ ∈ Tb := tb_of (i := 431) (by decide +kernel) rfl
theorem kw_432 : Cond.selects "ColourDuel$Board" ⟨"ColourDuel$Board", "colourOf", "(I)I"⟩ ⟨"ColourDuel$Board", "colourOf", "(I)I"⟩ ∈ Tb := tb_of (i := 432) (by decide +kernel) rfl
theorem kw_433 : Cond.code ⟨"ColourDuel$Board", "colourOf", "(I)I"⟩ prog_2_method_22_code 3 (Option.some FieldType.int) ∈ Tb := tb_of (i := 433) (by decide +kernel) rfl
theorem kw_434 : Cond.methodLink "ColourDuel$Board" 73 ⟨"ColourDuel$Board", "coloursAt", "([II)I"⟩ ∈ Tb := tb_of (i := 434) (by decide +kernel) rfl
theorem kw_436 : Cond.instanceMethod ⟨"ColourDuel$Board", "coloursAt", "([II)I"⟩ ∈ Tb := tb_of (i := 436) (by decide +kernel) rfl
theorem kw_437 : Cond.code ⟨"ColourDuel$Board", "coloursAt", "([II)I"⟩ prog_2_method_14_code 5 (Option.some FieldType.int) ∈ Tb := tb_of (i := 437) (by decide +kernel) rfl
theorem kn_438 : Cond.methodLinkNest "ColourDuel$Board" 84 ⟨"ColourDuel", "least", "(I)I"⟩ "ColourDuel" ∈ lw_tbl := tn_of (i := 438) (by decide +kernel)
theorem kw_439 : Cond.methodLink "ColourDuel" 273 ⟨"ColourDuel", "write", "(I)V"⟩ ∈ Tb := tb_of (i := 439) (by decide +kernel) rfl
theorem kw_441 : Cond.instanceMethod ⟨"ColourDuel", "write", "(I)V"⟩ ∈ Tb := tb_of (i := 441) (by decide +kernel) rfl
theorem kw_442 : Cond.code ⟨"ColourDuel", "write", "(I)V"⟩ prog_1_method_33_code 2 (Option.none : Option FieldType) ∈ Tb := tb_of (i := 442) (by decide +kernel) rfl
theorem kw_443 : Cond.methodLink "ColourDuel" 116 ⟨"ColourDuel$Board", "turn", "()I"⟩ ∈ Tb := tb_of (i := 443) (by decide +kernel) rfl
theorem kw_444 : Cond.instanceMethod ⟨"ColourDuel$Board", "turn", "()I"⟩ ∈ Tb := tb_of (i := 444) (by decide +kernel) rfl
theorem kw_445 : Cond.selects "ColourDuel$Board" ⟨"ColourDuel$Board", "turn", "()I"⟩ ⟨"ColourDuel$Board", "turn", "()I"⟩ ∈ Tb := tb_of (i := 445) (by decide +kernel) rfl
theorem kw_446 : Cond.code ⟨"ColourDuel$Board", "turn", "()I"⟩ prog_2_method_28_code 1 (Option.some FieldType.int) ∈ Tb := tb_of (i := 446) (by decide +kernel) rfl
theorem kw_454 : Cond.code ⟨"ColourDuel", "append", "(IIIII)I"⟩ prog_1_method_2_code 6 (Option.some FieldType.int) ∈ Tb := tb_of (i := 454) (by decide +kernel) rfl
theorem kw_455 : Cond.classLink "ColourDuel" 51 "java/lang/IllegalStateException" ∈ Tb := tb_of (i := 455) (by decide +kernel) rfl
theorem kn_497 : Cond.stringRef "ColourDuel" 53 "the text buffer is full" ∈ lw_tbl := tn_of (i := 497) (by decide +kernel)
theorem kw_498 : Cond.methodLink "ColourDuel" 55 ⟨"java/lang/IllegalStateException", "<init>", "(Ljava/lang/String;)V"⟩ ∈ Tb := tb_of (i := 498) (by decide +kernel) rfl
theorem kw_523 : Cond.methodLink "ColourDuel" 58 ⟨"ColourDuel$Reader", "addFour", "(I)V"⟩ ∈ Tb := tb_of (i := 523) (by decide +kernel) rfl
theorem kw_524 : Cond.instanceMethod ⟨"ColourDuel$Reader", "addFour", "(I)V"⟩ ∈ Tb := tb_of (i := 524) (by decide +kernel) rfl
theorem kw_525 : Cond.selects "ColourDuel$Reader" ⟨"ColourDuel$Reader", "addFour", "(I)V"⟩ ⟨"ColourDuel$Reader", "addFour", "(I)V"⟩ ∈ Tb := tb_of (i := 525) (by decide +kernel) rfl
theorem kw_526 : Cond.code ⟨"ColourDuel$Reader", "addFour", "(I)V"⟩ prog_5_method_2_code 3 (Option.none : Option FieldType) ∈ Tb := tb_of (i := 526) (by decide +kernel) rfl
theorem kw_534 : Cond.code ⟨"ColourDuel", "load", "(I)I"⟩ prog_1_method_3_code 3 (Option.some FieldType.int) ∈ Tb := tb_of (i := 534) (by decide +kernel) rfl
theorem kw_535 : Cond.classLink "ColourDuel" 62 "java/lang/IllegalArgumentException" ∈ Tb := tb_of (i := 535) (by decide +kernel) rfl
theorem kn_544 : Cond.stringRef "ColourDuel" 64 "no such length" ∈ lw_tbl := tn_of (i := 544) (by decide +kernel)
theorem kw_545 : Cond.methodLink "ColourDuel" 66 ⟨"java/lang/IllegalArgumentException", "<init>", "(Ljava/lang/String;)V"⟩ ∈ Tb := tb_of (i := 545) (by decide +kernel) rfl
theorem kw_551 : Cond.methodLink "ColourDuel" 67 ⟨"ColourDuel$Reader", "readText", "(I)I"⟩ ∈ Tb := tb_of (i := 551) (by decide +kernel) rfl
theorem kw_552 : Cond.instanceMethod ⟨"ColourDuel$Reader", "readText", "(I)I"⟩ ∈ Tb := tb_of (i := 552) (by decide +kernel) rfl
theorem kw_553 : Cond.selects "ColourDuel$Reader" ⟨"ColourDuel$Reader", "readText", "(I)I"⟩ ⟨"ColourDuel$Reader", "readText", "(I)I"⟩ ∈ Tb := tb_of (i := 553) (by decide +kernel) rfl
theorem kw_554 : Cond.code ⟨"ColourDuel$Reader", "readText", "(I)I"⟩ prog_5_method_3_code 3 (Option.some FieldType.int) ∈ Tb := tb_of (i := 554) (by decide +kernel) rfl
theorem kw_555 : Cond.methodLink "ColourDuel$Reader" 32 ⟨"ColourDuel$Reader", "advance", "()V"⟩ ∈ Tb := tb_of (i := 555) (by decide +kernel) rfl
theorem kw_557 : Cond.instanceMethod ⟨"ColourDuel$Reader", "advance", "()V"⟩ ∈ Tb := tb_of (i := 557) (by decide +kernel) rfl
theorem kw_558 : Cond.code ⟨"ColourDuel$Reader", "advance", "()V"⟩ prog_5_method_18_code 2 (Option.none : Option FieldType) ∈ Tb := tb_of (i := 558) (by decide +kernel) rfl
theorem kw_559 : Cond.methodLink "ColourDuel$Reader" 162 ⟨"ColourDuel$Reader", "byteAt", "(I)I"⟩ ∈ Tb := tb_of (i := 559) (by decide +kernel) rfl
theorem kw_561 : Cond.instanceMethod ⟨"ColourDuel$Reader", "byteAt", "(I)I"⟩ ∈ Tb := tb_of (i := 561) (by decide +kernel) rfl
theorem kw_562 : Cond.code ⟨"ColourDuel$Reader", "byteAt", "(I)I"⟩ prog_5_method_19_code 3 (Option.some FieldType.int) ∈ Tb := tb_of (i := 562) (by decide +kernel) rfl
theorem kw_563 : Cond.methodLink "ColourDuel$Reader" 169 ⟨"ColourDuel$Reader", "isLetter", "(I)Z"⟩ ∈ Tb := tb_of (i := 563) (by decide +kernel) rfl
theorem kw_564 : Cond.static ⟨"ColourDuel$Reader", "isLetter", "(I)Z"⟩ ∈ Tb := tb_of (i := 564) (by decide +kernel) rfl
theorem kw_565 : Cond.code ⟨"ColourDuel$Reader", "isLetter", "(I)Z"⟩ prog_5_method_20_code 1 (Option.some FieldType.boolean) ∈ Tb := tb_of (i := 565) (by decide +kernel) rfl
theorem kw_566 : Cond.methodLink "ColourDuel$Reader" 172 ⟨"ColourDuel$Reader", "isDigit", "(I)Z"⟩ ∈ Tb := tb_of (i := 566) (by decide +kernel) rfl
theorem kw_567 : Cond.static ⟨"ColourDuel$Reader", "isDigit", "(I)Z"⟩ ∈ Tb := tb_of (i := 567) (by decide +kernel) rfl
theorem kw_568 : Cond.code ⟨"ColourDuel$Reader", "isDigit", "(I)Z"⟩ prog_5_method_21_code 1 (Option.some FieldType.boolean) ∈ Tb := tb_of (i := 568) (by decide +kernel) rfl
theorem kw_569 : Cond.methodLink "ColourDuel$Reader" 175 ⟨"java/lang/Math", "min", "(II)I"⟩ ∈ Tb := tb_of (i := 569) (by decide +kernel) rfl
theorem kw_570 : Cond.methodLink "ColourDuel$Reader" 35 ⟨"ColourDuel$Reader", "readHead", "()Z"⟩ ∈ Tb := tb_of (i := 570) (by decide +kernel) rfl
theorem kw_572 : Cond.instanceMethod ⟨"ColourDuel$Reader", "readHead", "()Z"⟩ ∈ Tb := tb_of (i := 572) (by decide +kernel) rfl
theorem kw_573 : Cond.code ⟨"ColourDuel$Reader", "readHead", "()Z"⟩ prog_5_method_4_code 3 (Option.some FieldType.boolean) ∈ Tb := tb_of (i := 573) (by decide +kernel) rfl
theorem kn_574 : Cond.stringRef "ColourDuel$Reader" 54 "colours" ∈ lw_tbl := tn_of (i := 574) (by decide +kernel)
theorem kw_575 : Cond.methodLink "ColourDuel$Reader" 56 ⟨"ColourDuel$Reader", "readWord", "(Ljava/lang/String;)Z"⟩ ∈ Tb := tb_of (i := 575) (by decide +kernel) rfl
theorem kw_577 : Cond.instanceMethod ⟨"ColourDuel$Reader", "readWord", "(Ljava/lang/String;)Z"⟩ ∈ Tb := tb_of (i := 577) (by decide +kernel) rfl
theorem kw_578 : Cond.code ⟨"ColourDuel$Reader", "readWord", "(Ljava/lang/String;)Z"⟩ prog_5_method_13_code 2 (Option.some FieldType.boolean) ∈ Tb := tb_of (i := 578) (by decide +kernel) rfl
theorem kw_579 : Cond.methodLink "ColourDuel$Reader" 72 ⟨"ColourDuel$Reader", "atWord", "(Ljava/lang/String;)Z"⟩ ∈ Tb := tb_of (i := 579) (by decide +kernel) rfl
theorem kw_581 : Cond.instanceMethod ⟨"ColourDuel$Reader", "atWord", "(Ljava/lang/String;)Z"⟩ ∈ Tb := tb_of (i := 581) (by decide +kernel) rfl
theorem kw_582 : Cond.code ⟨"ColourDuel$Reader", "atWord", "(Ljava/lang/String;)Z"⟩ prog_5_method_16_code 3 (Option.some FieldType.boolean) ∈ Tb := tb_of (i := 582) (by decide +kernel) rfl
theorem kw_583 : Cond.methodLink "ColourDuel$Reader" 158 ⟨"java/lang/String", "length", "()I"⟩ ∈ Tb := tb_of (i := 583) (by decide +kernel) rfl
theorem kw_593 : Cond.methodLink "ColourDuel$Reader" 165 ⟨"java/lang/String", "charAt", "(I)C"⟩ ∈ Tb := tb_of (i := 593) (by decide +kernel) rfl
theorem kw_631 : Cond.methodLink "ColourDuel$Reader" 88 ⟨"ColourDuel$Reader", "fail", "(I)Z"⟩ ∈ Tb := tb_of (i := 631) (by decide +kernel) rfl
theorem kw_633 : Cond.instanceMethod ⟨"ColourDuel$Reader", "fail", "(I)Z"⟩ ∈ Tb := tb_of (i := 633) (by decide +kernel) rfl
theorem kw_634 : Cond.code ⟨"ColourDuel$Reader", "fail", "(I)Z"⟩ prog_5_method_22_code 2 (Option.some FieldType.boolean) ∈ Tb := tb_of (i := 634) (by decide +kernel) rfl
theorem kw_635 : Cond.methodLink "ColourDuel$Reader" 60 ⟨"ColourDuel$Reader", "readNumber", "(II)I"⟩ ∈ Tb := tb_of (i := 635) (by decide +kernel) rfl
theorem kw_637 : Cond.instanceMethod ⟨"ColourDuel$Reader", "readNumber", "(II)I"⟩ ∈ Tb := tb_of (i := 637) (by decide +kernel) rfl
theorem kw_638 : Cond.code ⟨"ColourDuel$Reader", "readNumber", "(II)I"⟩ prog_5_method_14_code 4 (Option.some FieldType.int) ∈ Tb := tb_of (i := 638) (by decide +kernel) rfl
theorem kw_639 : Cond.methodLink "ColourDuel$Reader" 64 ⟨"ColourDuel$Board", "startEmpty", "(I)V"⟩ ∈ Tb := tb_of (i := 639) (by decide +kernel) rfl
theorem kw_640 : Cond.instanceMethod ⟨"ColourDuel$Board", "startEmpty", "(I)V"⟩ ∈ Tb := tb_of (i := 640) (by decide +kernel) rfl
theorem kw_641 : Cond.selects "ColourDuel$Board" ⟨"ColourDuel$Board", "startEmpty", "(I)V"⟩ ⟨"ColourDuel$Board", "startEmpty", "(I)V"⟩ ∈ Tb := tb_of (i := 641) (by decide +kernel) rfl
theorem kw_642 : Cond.code ⟨"ColourDuel$Board", "startEmpty", "(I)V"⟩ prog_2_method_3_code 2 (Option.none : Option FieldType) ∈ Tb := tb_of (i := 642) (by decide +kernel) rfl
theorem kn_643 : Cond.methodLinkNest "ColourDuel$Board" 55 ⟨"ColourDuel", "clearRow", "([I)V"⟩ "ColourDuel" ∈ lw_tbl := tn_of (i := 643) (by decide +kernel)
theorem kw_644 : Cond.static ⟨"ColourDuel", "clearRow", "([I)V"⟩ ∈ Tb := tb_of (i := 644) (by decide +kernel) rfl
theorem kw_645 : Cond.code ⟨"ColourDuel", "clearRow", "([I)V"⟩ prog_1_method_39_code 2 (Option.none : Option FieldType) ∈ Tb := tb_of (i := 645) (by decide +kernel) rfl
theorem kn_646 : Cond.stringRef "ColourDuel$Reader" 70 "passes" ∈ lw_tbl := tn_of (i := 646) (by decide +kernel)
theorem kw_647 : Cond.methodLink "ColourDuel$Reader" 77 ⟨"ColourDuel$Reader", "readSemicolon", "()Z"⟩ ∈ Tb := tb_of (i := 647) (by decide +kernel) rfl
theorem kw_649 : Cond.instanceMethod ⟨"ColourDuel$Reader", "readSemicolon", "()Z"⟩ ∈ Tb := tb_of (i := 649) (by decide +kernel) rfl
theorem kw_650 : Cond.code ⟨"ColourDuel$Reader", "readSemicolon", "()Z"⟩ prog_5_method_15_code 1 (Option.some FieldType.boolean) ∈ Tb := tb_of (i := 650) (by decide +kernel) rfl
theorem kw_651 : Cond.methodLink "ColourDuel$Reader" 39 ⟨"ColourDuel$Reader", "readVertices", "()Z"⟩ ∈ Tb := tb_of (i := 651) (by decide +kernel) rfl
theorem kw_653 : Cond.instanceMethod ⟨"ColourDuel$Reader", "readVertices", "()Z"⟩ ∈ Tb := tb_of (i := 653) (by decide +kernel) rfl
theorem kw_654 : Cond.code ⟨"ColourDuel$Reader", "readVertices", "()Z"⟩ prog_5_method_5_code 3 (Option.some FieldType.boolean) ∈ Tb := tb_of (i := 654) (by decide +kernel) rfl
theorem kw_655 : Cond.methodLink "ColourDuel$Reader" 80 ⟨"ColourDuel$Reader", "readVertex", "()Z"⟩ ∈ Tb := tb_of (i := 655) (by decide +kernel) rfl
theorem kw_657 : Cond.instanceMethod ⟨"ColourDuel$Reader", "readVertex", "()Z"⟩ ∈ Tb := tb_of (i := 657) (by decide +kernel) rfl
theorem kw_658 : Cond.code ⟨"ColourDuel$Reader", "readVertex", "()Z"⟩ prog_5_method_6_code 2 (Option.some FieldType.boolean) ∈ Tb := tb_of (i := 658) (by decide +kernel) rfl
theorem kn_659 : Cond.stringRef "ColourDuel$Reader" 83 "vertex" ∈ lw_tbl := tn_of (i := 659) (by decide +kernel)
theorem kw_660 : Cond.methodLink "ColourDuel$Reader" 85 ⟨"ColourDuel$Board", "isFull", "()Z"⟩ ∈ Tb := tb_of (i := 660) (by decide +kernel) rfl
theorem kw_661 : Cond.instanceMethod ⟨"ColourDuel$Board", "isFull", "()Z"⟩ ∈ Tb := tb_of (i := 661) (by decide +kernel) rfl
theorem kw_662 : Cond.selects "ColourDuel$Board" ⟨"ColourDuel$Board", "isFull", "()Z"⟩ ⟨"ColourDuel$Board", "isFull", "()Z"⟩ ∈ Tb := tb_of (i := 662) (by decide +kernel) rfl
theorem kw_663 : Cond.code ⟨"ColourDuel$Board", "isFull", "()Z"⟩ prog_2_method_4_code 3 (Option.some FieldType.boolean) ∈ Tb := tb_of (i := 663) (by decide +kernel) rfl
theorem kw_664 : Cond.methodLink "ColourDuel$Reader" 92 ⟨"ColourDuel$Board", "everyColour", "()I"⟩ ∈ Tb := tb_of (i := 664) (by decide +kernel) rfl
theorem kw_665 : Cond.instanceMethod ⟨"ColourDuel$Board", "everyColour", "()I"⟩ ∈ Tb := tb_of (i := 665) (by decide +kernel) rfl
theorem kw_666 : Cond.selects "ColourDuel$Board" ⟨"ColourDuel$Board", "everyColour", "()I"⟩ ⟨"ColourDuel$Board", "everyColour", "()I"⟩ ∈ Tb := tb_of (i := 666) (by decide +kernel) rfl
theorem kw_667 : Cond.code ⟨"ColourDuel$Board", "everyColour", "()I"⟩ prog_2_method_10_code 1 (Option.some FieldType.int) ∈ Tb := tb_of (i := 667) (by decide +kernel) rfl
theorem kw_668 : Cond.methodLink "ColourDuel$Reader" 99 ⟨"ColourDuel$Reader", "listHere", "()I"⟩ ∈ Tb := tb_of (i := 668) (by decide +kernel) rfl
theorem kw_670 : Cond.instanceMethod ⟨"ColourDuel$Reader", "listHere", "()I"⟩ ∈ Tb := tb_of (i := 670) (by decide +kernel) rfl
theorem kw_671 : Cond.code ⟨"ColourDuel$Reader", "listHere", "()I"⟩ prog_5_method_17_code 4 (Option.some FieldType.int) ∈ Tb := tb_of (i := 671) (by decide +kernel) rfl
theorem kn_672 : Cond.methodLinkNest "ColourDuel$Reader" 120 ⟨"ColourDuel", "has", "(II)Z"⟩ "ColourDuel" ∈ lw_tbl := tn_of (i := 672) (by decide +kernel)
theorem kw_673 : Cond.methodLink "ColourDuel$Reader" 102 ⟨"ColourDuel$Board", "addVertex", "(I)V"⟩ ∈ Tb := tb_of (i := 673) (by decide +kernel) rfl
theorem kw_674 : Cond.instanceMethod ⟨"ColourDuel$Board", "addVertex", "(I)V"⟩ ∈ Tb := tb_of (i := 674) (by decide +kernel) rfl
theorem kw_675 : Cond.selects "ColourDuel$Board" ⟨"ColourDuel$Board", "addVertex", "(I)V"⟩ ⟨"ColourDuel$Board", "addVertex", "(I)V"⟩ ∈ Tb := tb_of (i := 675) (by decide +kernel) rfl
theorem kw_676 : Cond.code ⟨"ColourDuel$Board", "addVertex", "(I)V"⟩ prog_2_method_5_code 4 (Option.none : Option FieldType) ∈ Tb := tb_of (i := 676) (by decide +kernel) rfl
theorem kw_677 : Cond.methodLink "ColourDuel$Reader" 42 ⟨"ColourDuel$Reader", "readEdges", "()Z"⟩ ∈ Tb := tb_of (i := 677) (by decide +kernel) rfl
theorem kw_679 : Cond.instanceMethod ⟨"ColourDuel$Reader", "readEdges", "()Z"⟩ ∈ Tb := tb_of (i := 679) (by decide +kernel) rfl
theorem kw_680 : Cond.code ⟨"ColourDuel$Reader", "readEdges", "()Z"⟩ prog_5_method_7_code 3 (Option.some FieldType.boolean) ∈ Tb := tb_of (i := 680) (by decide +kernel) rfl
theorem kn_681 : Cond.stringRef "ColourDuel$Reader" 105 "edge" ∈ lw_tbl := tn_of (i := 681) (by decide +kernel)
theorem kw_682 : Cond.methodLink "ColourDuel$Reader" 107 ⟨"ColourDuel$Reader", "readEdge", "()Z"⟩ ∈ Tb := tb_of (i := 682) (by decide +kernel) rfl
theorem kw_684 : Cond.instanceMethod ⟨"ColourDuel$Reader", "readEdge", "()Z"⟩ ∈ Tb := tb_of (i := 684) (by decide +kernel) rfl
theorem kw_685 : Cond.code ⟨"ColourDuel$Reader", "readEdge", "()Z"⟩ prog_5_method_8_code 3 (Option.some FieldType.boolean) ∈ Tb := tb_of (i := 685) (by decide +kernel) rfl
theorem kw_686 : Cond.methodLink "ColourDuel$Reader" 116 ⟨"ColourDuel$Board", "neighbours", "(I)I"⟩ ∈ Tb := tb_of (i := 686) (by decide +kernel) rfl
theorem kw_687 : Cond.methodLink "ColourDuel$Reader" 124 ⟨"ColourDuel$Board", "addEdge", "(II)V"⟩ ∈ Tb := tb_of (i := 687) (by decide +kernel) rfl
theorem kw_688 : Cond.instanceMethod ⟨"ColourDuel$Board", "addEdge", "(II)V"⟩ ∈ Tb := tb_of (i := 688) (by decide +kernel) rfl
theorem kw_689 : Cond.selects "ColourDuel$Board" ⟨"ColourDuel$Board", "addEdge", "(II)V"⟩ ⟨"ColourDuel$Board", "addEdge", "(II)V"⟩ ∈ Tb := tb_of (i := 689) (by decide +kernel) rfl
theorem kw_690 : Cond.code ⟨"ColourDuel$Board", "addEdge", "(II)V"⟩ prog_2_method_6_code 3 (Option.none : Option FieldType) ∈ Tb := tb_of (i := 690) (by decide +kernel) rfl
theorem kw_691 : Cond.methodLink "ColourDuel$Reader" 45 ⟨"ColourDuel$Reader", "readMoves", "()Z"⟩ ∈ Tb := tb_of (i := 691) (by decide +kernel) rfl
theorem kw_693 : Cond.instanceMethod ⟨"ColourDuel$Reader", "readMoves", "()Z"⟩ ∈ Tb := tb_of (i := 693) (by decide +kernel) rfl
theorem kw_694 : Cond.code ⟨"ColourDuel$Reader", "readMoves", "()Z"⟩ prog_5_method_9_code 3 (Option.some FieldType.boolean) ∈ Tb := tb_of (i := 694) (by decide +kernel) rfl
theorem kn_695 : Cond.stringRef "ColourDuel$Reader" 128 "lay" ∈ lw_tbl := tn_of (i := 695) (by decide +kernel)
theorem kn_696 : Cond.stringRef "ColourDuel$Reader" 130 "pass" ∈ lw_tbl := tn_of (i := 696) (by decide +kernel)
theorem kw_697 : Cond.methodLink "ColourDuel$Reader" 132 ⟨"ColourDuel$Reader", "readLay", "()Z"⟩ ∈ Tb := tb_of (i := 697) (by decide +kernel) rfl
theorem kw_699 : Cond.instanceMethod ⟨"ColourDuel$Reader", "readLay", "()Z"⟩ ∈ Tb := tb_of (i := 699) (by decide +kernel) rfl
theorem kw_700 : Cond.code ⟨"ColourDuel$Reader", "readLay", "()Z"⟩ prog_5_method_10_code 4 (Option.some FieldType.boolean) ∈ Tb := tb_of (i := 700) (by decide +kernel) rfl
theorem kw_701 : Cond.methodLink "ColourDuel$Reader" 138 ⟨"java/lang/Integer", "bitCount", "(I)I"⟩ ∈ Tb := tb_of (i := 701) (by decide +kernel) rfl
theorem kn_702 : Cond.methodLinkNest "ColourDuel$Reader" 143 ⟨"ColourDuel", "least", "(I)I"⟩ "ColourDuel" ∈ lw_tbl := tn_of (i := 702) (by decide +kernel)
theorem kw_703 : Cond.methodLink "ColourDuel$Reader" 146 ⟨"ColourDuel$Board", "whyNot", "(II)I"⟩ ∈ Tb := tb_of (i := 703) (by decide +kernel) rfl
theorem kw_704 : Cond.methodLink "ColourDuel$Reader" 149 ⟨"ColourDuel$Board", "paint", "(II)V"⟩ ∈ Tb := tb_of (i := 704) (by decide +kernel) rfl
theorem kw_705 : Cond.instanceMethod ⟨"ColourDuel$Board", "paint", "(II)V"⟩ ∈ Tb := tb_of (i := 705) (by decide +kernel) rfl
theorem kw_706 : Cond.selects "ColourDuel$Board" ⟨"ColourDuel$Board", "paint", "(II)V"⟩ ⟨"ColourDuel$Board", "paint", "(II)V"⟩ ∈ Tb := tb_of (i := 706) (by decide +kernel) rfl
theorem kw_707 : Cond.code ⟨"ColourDuel$Board", "paint", "(II)V"⟩ prog_2_method_31_code 5 (Option.none : Option FieldType) ∈ Tb := tb_of (i := 707) (by decide +kernel) rfl
theorem kw_708 : Cond.methodLink "ColourDuel$Board" 105 ⟨"ColourDuel$Board", "partWith", "(I)I"⟩ ∈ Tb := tb_of (i := 708) (by decide +kernel) rfl
theorem kw_709 : Cond.classLink "ColourDuel$Board" 108 "ColourDuel$Move" ∈ Tb := tb_of (i := 709) (by decide +kernel) rfl
theorem kw_710 : Cond.instantiable "ColourDuel$Move" 5 ∈ Tb := tb_of (i := 710) (by decide +kernel) rfl
theorem kw_711 : Cond.methodLink "ColourDuel$Board" 110 ⟨"ColourDuel$Board", "partsIn", "(I)I"⟩ ∈ Tb := tb_of (i := 711) (by decide +kernel) rfl
theorem kw_712 : Cond.methodLink "ColourDuel$Board" 113 ⟨"ColourDuel$Move", "<init>", "(LColourDuel$Move;IIII)V"⟩ ∈ Tb := tb_of (i := 712) (by decide +kernel) rfl
theorem kw_713 : Cond.instanceMethod ⟨"ColourDuel$Move", "<init>", "(LColourDuel$Move;IIII)V"⟩ ∈ Tb := tb_of (i := 713) (by decide +kernel) rfl
theorem kw_714 : Cond.code ⟨"ColourDuel$Move", "<init>", "(LColourDuel$Move;IIII)V"⟩ prog_4_method_1_code 6 (Option.none : Option FieldType) ∈ Tb := tb_of (i := 714) (by decide +kernel) rfl
theorem kw_715 : Cond.methodLink "ColourDuel$Move" 3 ⟨"java/lang/Object", "<init>", "()V"⟩ ∈ Tb := tb_of (i := 715) (by decide +kernel) rfl
theorem kw_716 : Cond.fieldLink "ColourDuel$Move" 9 "ColourDuel$Move" "before" "LColourDuel$Move;" ∈ Tb := tb_of (i := 716) (by decide +kernel) rfl
theorem kw_717 : Cond.fieldLink "ColourDuel$Board" 116 "ColourDuel$Move" "before" "LColourDuel$Move;" ∈ Tb := tb_of (i := 717) (by decide +kernel) rfl
theorem kw_718 : Cond.fieldLink "ColourDuel$Move" 15 "ColourDuel$Move" "vertex" "I" ∈ Tb := tb_of (i := 718) (by decide +kernel) rfl
theorem kw_719 : Cond.fieldLink "ColourDuel" 247 "ColourDuel$Move" "vertex" "I" ∈ Tb := tb_of (i := 719) (by decide +kernel) rfl
theorem kw_720 : Cond.fieldLink "ColourDuel$Move" 19 "ColourDuel$Move" "colour" "I" ∈ Tb := tb_of (i := 720) (by decide +kernel) rfl
theorem kw_721 : Cond.fieldLink "ColourDuel" 252 "ColourDuel$Move" "colour" "I" ∈ Tb := tb_of (i := 721) (by decide +kernel) rfl
theorem kw_722 : Cond.fieldLink "ColourDuel$Board" 122 "ColourDuel$Move" "colour" "I" ∈ Tb := tb_of (i := 722) (by decide +kernel) rfl
theorem kw_723 : Cond.fieldLink "ColourDuel$Move" 22 "ColourDuel$Move" "partsBehind" "I" ∈ Tb := tb_of (i := 723) (by decide +kernel) rfl
theorem kw_724 : Cond.fieldLink "ColourDuel" 255 "ColourDuel$Move" "partsBehind" "I" ∈ Tb := tb_of (i := 724) (by decide +kernel) rfl
theorem kw_725 : Cond.fieldLink "ColourDuel$Move" 25 "ColourDuel$Move" "pieces" "I" ∈ Tb := tb_of (i := 725) (by decide +kernel) rfl
theorem kw_737 : Cond.methodLink "ColourDuel$Reader" 135 ⟨"ColourDuel$Reader", "readPass", "()Z"⟩ ∈ Tb := tb_of (i := 737) (by decide +kernel) rfl
theorem kw_739 : Cond.instanceMethod ⟨"ColourDuel$Reader", "readPass", "()Z"⟩ ∈ Tb := tb_of (i := 739) (by decide +kernel) rfl
theorem kw_740 : Cond.code ⟨"ColourDuel$Reader", "readPass", "()Z"⟩ prog_5_method_11_code 1 (Option.some FieldType.boolean) ∈ Tb := tb_of (i := 740) (by decide +kernel) rfl
theorem kw_741 : Cond.methodLink "ColourDuel$Reader" 152 ⟨"ColourDuel$Board", "spendPass", "()V"⟩ ∈ Tb := tb_of (i := 741) (by decide +kernel) rfl
theorem kw_742 : Cond.instanceMethod ⟨"ColourDuel$Board", "spendPass", "()V"⟩ ∈ Tb := tb_of (i := 742) (by decide +kernel) rfl
theorem kw_743 : Cond.selects "ColourDuel$Board" ⟨"ColourDuel$Board", "spendPass", "()V"⟩ ⟨"ColourDuel$Board", "spendPass", "()V"⟩ ∈ Tb := tb_of (i := 743) (by decide +kernel) rfl
theorem kw_744 : Cond.code ⟨"ColourDuel$Board", "spendPass", "()V"⟩ prog_2_method_32_code 1 (Option.none : Option FieldType) ∈ Tb := tb_of (i := 744) (by decide +kernel) rfl
theorem kw_745 : Cond.methodLink "ColourDuel$Reader" 48 ⟨"ColourDuel$Reader", "readEnd", "()Z"⟩ ∈ Tb := tb_of (i := 745) (by decide +kernel) rfl
theorem kw_747 : Cond.instanceMethod ⟨"ColourDuel$Reader", "readEnd", "()Z"⟩ ∈ Tb := tb_of (i := 747) (by decide +kernel) rfl
theorem kw_748 : Cond.code ⟨"ColourDuel$Reader", "readEnd", "()Z"⟩ prog_5_method_12_code 1 (Option.some FieldType.boolean) ∈ Tb := tb_of (i := 748) (by decide +kernel) rfl
theorem kw_749 : Cond.methodLink "ColourDuel" 71 ⟨"ColourDuel$History", "keep", "(LColourDuel$Board;)V"⟩ ∈ Tb := tb_of (i := 749) (by decide +kernel) rfl
theorem kw_750 : Cond.instanceMethod ⟨"ColourDuel$History", "keep", "(LColourDuel$Board;)V"⟩ ∈ Tb := tb_of (i := 750) (by decide +kernel) rfl
theorem kw_751 : Cond.selects "ColourDuel$History" ⟨"ColourDuel$History", "keep", "(LColourDuel$Board;)V"⟩ ⟨"ColourDuel$History", "keep", "(LColourDuel$Board;)V"⟩ ∈ Tb := tb_of (i := 751) (by decide +kernel) rfl
theorem kw_752 : Cond.code ⟨"ColourDuel$History", "keep", "(LColourDuel$Board;)V"⟩ prog_3_method_2_code 2 (Option.none : Option FieldType) ∈ Tb := tb_of (i := 752) (by decide +kernel) rfl
theorem kn_753 : Cond.methodLinkNest "ColourDuel$History" 21 ⟨"ColourDuel", "keepCopy", "([LColourDuel$Board;ILColourDuel$Board;)V"⟩ "ColourDuel" ∈ lw_tbl := tn_of (i := 753) (by decide +kernel)
theorem kw_754 : Cond.static ⟨"ColourDuel", "keepCopy", "([LColourDuel$Board;ILColourDuel$Board;)V"⟩ ∈ Tb := tb_of (i := 754) (by decide +kernel) rfl
theorem kw_755 : Cond.code ⟨"ColourDuel", "keepCopy", "([LColourDuel$Board;ILColourDuel$Board;)V"⟩ prog_1_method_40_code 4 (Option.none : Option FieldType) ∈ Tb := tb_of (i := 755) (by decide +kernel) rfl
theorem kw_756 : Cond.methodLink "ColourDuel" 80 ⟨"ColourDuel$Board", "takeFrom", "(LColourDuel$Board;)V"⟩ ∈ Tb := tb_of (i := 756) (by decide +kernel) rfl
theorem kw_757 : Cond.instanceMethod ⟨"ColourDuel$Board", "takeFrom", "(LColourDuel$Board;)V"⟩ ∈ Tb := tb_of (i := 757) (by decide +kernel) rfl
theorem kw_758 : Cond.selects "ColourDuel$Board" ⟨"ColourDuel$Board", "takeFrom", "(LColourDuel$Board;)V"⟩ ⟨"ColourDuel$Board", "takeFrom", "(LColourDuel$Board;)V"⟩ ∈ Tb := tb_of (i := 758) (by decide +kernel) rfl
theorem kw_759 : Cond.code ⟨"ColourDuel$Board", "takeFrom", "(LColourDuel$Board;)V"⟩ prog_2_method_2_code 2 (Option.none : Option FieldType) ∈ Tb := tb_of (i := 759) (by decide +kernel) rfl
theorem kn_760 : Cond.methodLinkNest "ColourDuel$Board" 51 ⟨"ColourDuel", "copyRow", "([I[I)V"⟩ "ColourDuel" ∈ lw_tbl := tn_of (i := 760) (by decide +kernel)
theorem kw_761 : Cond.static ⟨"ColourDuel", "copyRow", "([I[I)V"⟩ ∈ Tb := tb_of (i := 761) (by decide +kernel) rfl
theorem kw_762 : Cond.code ⟨"ColourDuel", "copyRow", "([I[I)V"⟩ prog_1_method_38_code 3 (Option.none : Option FieldType) ∈ Tb := tb_of (i := 762) (by decide +kernel) rfl
theorem kw_763 : Cond.methodLink "ColourDuel$History" 28 ⟨"java/lang/Math", "min", "(II)I"⟩ ∈ Tb := tb_of (i := 763) (by decide +kernel) rfl
theorem kw_770 : Cond.code ⟨"ColourDuel", "count", "(I)I"⟩ prog_1_method_5_code 2 (Option.some FieldType.int) ∈ Tb := tb_of (i := 770) (by decide +kernel) rfl
theorem kw_771 : Cond.methodLink "ColourDuel" 92 ⟨"ColourDuel$Board", "everyVertex", "()I"⟩ ∈ Tb := tb_of (i := 771) (by decide +kernel) rfl
theorem kw_772 : Cond.instanceMethod ⟨"ColourDuel$Board", "everyVertex", "()I"⟩ ∈ Tb := tb_of (i := 772) (by decide +kernel) rfl
theorem kw_773 : Cond.selects "ColourDuel$Board" ⟨"ColourDuel$Board", "everyVertex", "()I"⟩ ⟨"ColourDuel$Board", "everyVertex", "()I"⟩ ∈ Tb := tb_of (i := 773) (by decide +kernel) rfl
theorem kw_774 : Cond.code ⟨"ColourDuel$Board", "everyVertex", "()I"⟩ prog_2_method_9_code 1 (Option.some FieldType.int) ∈ Tb := tb_of (i := 774) (by decide +kernel) rfl
theorem kw_775 : Cond.methodLink "ColourDuel" 96 ⟨"ColourDuel$Board", "edgesIn", "(I)I"⟩ ∈ Tb := tb_of (i := 775) (by decide +kernel) rfl
theorem kw_776 : Cond.instanceMethod ⟨"ColourDuel$Board", "edgesIn", "(I)I"⟩ ∈ Tb := tb_of (i := 776) (by decide +kernel) rfl
theorem kw_777 : Cond.selects "ColourDuel$Board" ⟨"ColourDuel$Board", "edgesIn", "(I)I"⟩ ⟨"ColourDuel$Board", "edgesIn", "(I)I"⟩ ∈ Tb := tb_of (i := 777) (by decide +kernel) rfl
theorem kw_778 : Cond.code ⟨"ColourDuel$Board", "edgesIn", "(I)I"⟩ prog_2_method_12_code 4 (Option.some FieldType.int) ∈ Tb := tb_of (i := 778) (by decide +kernel) rfl
theorem kw_779 : Cond.methodLink "ColourDuel" 122 ⟨"ColourDuel$Board", "isOver", "()Z"⟩ ∈ Tb := tb_of (i := 779) (by decide +kernel) rfl
theorem kw_780 : Cond.instanceMethod ⟨"ColourDuel$Board", "isOver", "()Z"⟩ ∈ Tb := tb_of (i := 780) (by decide +kernel) rfl
theorem kw_781 : Cond.selects "ColourDuel$Board" ⟨"ColourDuel$Board", "isOver", "()Z"⟩ ⟨"ColourDuel$Board", "isOver", "()Z"⟩ ∈ Tb := tb_of (i := 781) (by decide +kernel) rfl
theorem kw_782 : Cond.code ⟨"ColourDuel$Board", "isOver", "()Z"⟩ prog_2_method_29_code 1 (Option.some FieldType.boolean) ∈ Tb := tb_of (i := 782) (by decide +kernel) rfl
theorem kw_783 : Cond.methodLink "ColourDuel$Board" 102 ⟨"ColourDuel$Board", "choicesIn", "(I)I"⟩ ∈ Tb := tb_of (i := 783) (by decide +kernel) rfl
theorem kw_784 : Cond.instanceMethod ⟨"ColourDuel$Board", "choicesIn", "(I)I"⟩ ∈ Tb := tb_of (i := 784) (by decide +kernel) rfl
theorem kw_785 : Cond.selects "ColourDuel$Board" ⟨"ColourDuel$Board", "choicesIn", "(I)I"⟩ ⟨"ColourDuel$Board", "choicesIn", "(I)I"⟩ ∈ Tb := tb_of (i := 785) (by decide +kernel) rfl
theorem kw_786 : Cond.code ⟨"ColourDuel$Board", "choicesIn", "(I)I"⟩ prog_2_method_25_code 4 (Option.some FieldType.int) ∈ Tb := tb_of (i := 786) (by decide +kernel) rfl
theorem kw_787 : Cond.methodLink "ColourDuel$Board" 99 ⟨"ColourDuel$Board", "choicesOn", "(I)I"⟩ ∈ Tb := tb_of (i := 787) (by decide +kernel) rfl
theorem kw_788 : Cond.methodLink "ColourDuel" 126 ⟨"ColourDuel$Board", "choicesIn", "(I)I"⟩ ∈ Tb := tb_of (i := 788) (by decide +kernel) rfl
theorem kw_789 : Cond.methodLink "ColourDuel" 129 ⟨"ColourDuel$Board", "stuckVertices", "()I"⟩ ∈ Tb := tb_of (i := 789) (by decide +kernel) rfl
theorem kw_790 : Cond.instanceMethod ⟨"ColourDuel$Board", "stuckVertices", "()I"⟩ ∈ Tb := tb_of (i := 790) (by decide +kernel) rfl
theorem kw_791 : Cond.selects "ColourDuel$Board" ⟨"ColourDuel$Board", "stuckVertices", "()I"⟩ ⟨"ColourDuel$Board", "stuckVertices", "()I"⟩ ∈ Tb := tb_of (i := 791) (by decide +kernel) rfl
theorem kw_792 : Cond.code ⟨"ColourDuel$Board", "stuckVertices", "()I"⟩ prog_2_method_26_code 3 (Option.some FieldType.int) ∈ Tb := tb_of (i := 792) (by decide +kernel) rfl
theorem kn_793 : Cond.stringRef "ColourDuel" 135 "no such number of the board" ∈ lw_tbl := tn_of (i := 793) (by decide +kernel)
theorem kw_801 : Cond.code ⟨"ColourDuel", "vertex", "(II)I"⟩ prog_1_method_6_code 3 (Option.some FieldType.int) ∈ Tb := tb_of (i := 801) (by decide +kernel) rfl
theorem kw_802 : Cond.methodLink "ColourDuel" 137 ⟨"ColourDuel$Board", "hasVertex", "(I)Z"⟩ ∈ Tb := tb_of (i := 802) (by decide +kernel) rfl
theorem kw_803 : Cond.instanceMethod ⟨"ColourDuel$Board", "hasVertex", "(I)Z"⟩ ∈ Tb := tb_of (i := 803) (by decide +kernel) rfl
theorem kw_804 : Cond.selects "ColourDuel$Board" ⟨"ColourDuel$Board", "hasVertex", "(I)Z"⟩ ⟨"ColourDuel$Board", "hasVertex", "(I)Z"⟩ ∈ Tb := tb_of (i := 804) (by decide +kernel) rfl
theorem kw_805 : Cond.code ⟨"ColourDuel$Board", "hasVertex", "(I)Z"⟩ prog_2_method_7_code 2 (Option.some FieldType.boolean) ∈ Tb := tb_of (i := 805) (by decide +kernel) rfl
theorem kw_806 : Cond.classLink "ColourDuel" 141 "java/lang/IndexOutOfBoundsException" ∈ Tb := tb_of (i := 806) (by decide +kernel) rfl
theorem kn_815 : Cond.stringRef "ColourDuel" 143 "no such vertex" ∈ lw_tbl := tn_of (i := 815) (by decide +kernel)
theorem kw_816 : Cond.methodLink "ColourDuel" 145 ⟨"java/lang/IndexOutOfBoundsException", "<init>", "(Ljava/lang/String;)V"⟩ ∈ Tb := tb_of (i := 816) (by decide +kernel) rfl
theorem kw_822 : Cond.methodLink "ColourDuel" 149 ⟨"ColourDuel$Board", "listOf", "(I)I"⟩ ∈ Tb := tb_of (i := 822) (by decide +kernel) rfl
theorem kw_823 : Cond.instanceMethod ⟨"ColourDuel$Board", "listOf", "(I)I"⟩ ∈ Tb := tb_of (i := 823) (by decide +kernel) rfl
theorem kw_824 : Cond.selects "ColourDuel$Board" ⟨"ColourDuel$Board", "listOf", "(I)I"⟩ ⟨"ColourDuel$Board", "listOf", "(I)I"⟩ ∈ Tb := tb_of (i := 824) (by decide +kernel) rfl
theorem kw_825 : Cond.code ⟨"ColourDuel$Board", "listOf", "(I)I"⟩ prog_2_method_13_code 2 (Option.some FieldType.int) ∈ Tb := tb_of (i := 825) (by decide +kernel) rfl
theorem kw_826 : Cond.methodLink "ColourDuel" 155 ⟨"ColourDuel$Board", "neighbours", "(I)I"⟩ ∈ Tb := tb_of (i := 826) (by decide +kernel) rfl
theorem kw_827 : Cond.methodLink "ColourDuel" 161 ⟨"ColourDuel$Board", "partNumberOf", "(I)I"⟩ ∈ Tb := tb_of (i := 827) (by decide +kernel) rfl
theorem kw_828 : Cond.instanceMethod ⟨"ColourDuel$Board", "partNumberOf", "(I)I"⟩ ∈ Tb := tb_of (i := 828) (by decide +kernel) rfl
theorem kw_829 : Cond.selects "ColourDuel$Board" ⟨"ColourDuel$Board", "partNumberOf", "(I)I"⟩ ⟨"ColourDuel$Board", "partNumberOf", "(I)I"⟩ ∈ Tb := tb_of (i := 829) (by decide +kernel) rfl
theorem kw_830 : Cond.code ⟨"ColourDuel$Board", "partNumberOf", "(I)I"⟩ prog_2_method_20_code 3 (Option.some FieldType.int) ∈ Tb := tb_of (i := 830) (by decide +kernel) rfl
theorem kw_831 : Cond.methodLink "ColourDuel$Board" 81 ⟨"ColourDuel$Board", "partAt", "(I)I"⟩ ∈ Tb := tb_of (i := 831) (by decide +kernel) rfl
theorem kn_832 : Cond.stringRef "ColourDuel" 164 "no such number of a vertex" ∈ lw_tbl := tn_of (i := 832) (by decide +kernel)
theorem kw_839 : Cond.code ⟨"ColourDuel", "reason", "(II)I"⟩ prog_1_method_7_code 3 (Option.some FieldType.int) ∈ Tb := tb_of (i := 839) (by decide +kernel) rfl
theorem kw_840 : Cond.methodLink "ColourDuel" 166 ⟨"ColourDuel$Board", "hasPair", "(II)Z"⟩ ∈ Tb := tb_of (i := 840) (by decide +kernel) rfl
theorem kw_841 : Cond.instanceMethod ⟨"ColourDuel$Board", "hasPair", "(II)Z"⟩ ∈ Tb := tb_of (i := 841) (by decide +kernel) rfl
theorem kw_842 : Cond.selects "ColourDuel$Board" ⟨"ColourDuel$Board", "hasPair", "(II)Z"⟩ ⟨"ColourDuel$Board", "hasPair", "(II)Z"⟩ ∈ Tb := tb_of (i := 842) (by decide +kernel) rfl
theorem kw_843 : Cond.code ⟨"ColourDuel$Board", "hasPair", "(II)Z"⟩ prog_2_method_8_code 3 (Option.some FieldType.boolean) ∈ Tb := tb_of (i := 843) (by decide +kernel) rfl
theorem kw_844 : Cond.methodLink "ColourDuel$Board" 63 ⟨"ColourDuel$Board", "hasVertex", "(I)Z"⟩ ∈ Tb := tb_of (i := 844) (by decide +kernel) rfl
theorem kn_845 : Cond.stringRef "ColourDuel" 170 "no such vertex or colour" ∈ lw_tbl := tn_of (i := 845) (by decide +kernel)
theorem kw_846 : Cond.methodLink "ColourDuel" 172 ⟨"ColourDuel$Board", "whyNot", "(II)I"⟩ ∈ Tb := tb_of (i := 846) (by decide +kernel) rfl
theorem kw_853 : Cond.code ⟨"ColourDuel", "part", "(II)I"⟩ prog_1_method_8_code 4 (Option.some FieldType.int) ∈ Tb := tb_of (i := 853) (by decide +kernel) rfl
theorem kn_854 : Cond.stringRef "ColourDuel" 179 "no such part" ∈ lw_tbl := tn_of (i := 854) (by decide +kernel)
theorem kw_855 : Cond.methodLink "ColourDuel" 181 ⟨"ColourDuel", "least", "(I)I"⟩ ∈ Tb := tb_of (i := 855) (by decide +kernel) rfl
theorem kw_856 : Cond.methodLink "ColourDuel" 184 ⟨"ColourDuel$Board", "banOf", "(I)I"⟩ ∈ Tb := tb_of (i := 856) (by decide +kernel) rfl
theorem kn_857 : Cond.stringRef "ColourDuel" 199 "no such number of a part" ∈ lw_tbl := tn_of (i := 857) (by decide +kernel)
theorem kw_865 : Cond.code ⟨"ColourDuel", "valueIf", "(II)I"⟩ prog_1_method_10_code 3 (Option.some FieldType.int) ∈ Tb := tb_of (i := 865) (by decide +kernel) rfl
theorem kw_866 : Cond.classLink "ColourDuel" 201 "java/util/NoSuchElementException" ∈ Tb := tb_of (i := 866) (by decide +kernel) rfl
theorem kn_875 : Cond.stringRef "ColourDuel" 203 "the colour cannot be laid there" ∈ lw_tbl := tn_of (i := 875) (by decide +kernel)
theorem kw_876 : Cond.methodLink "ColourDuel" 205 ⟨"java/util/NoSuchElementException", "<init>", "(Ljava/lang/String;)V"⟩ ∈ Tb := tb_of (i := 876) (by decide +kernel) rfl
theorem kw_888 : Cond.code ⟨"ColourDuel", "bestMove", "()I"⟩ prog_1_method_12_code 1 (Option.some FieldType.int) ∈ Tb := tb_of (i := 888) (by decide +kernel) rfl
theorem kn_889 : Cond.stringRef "ColourDuel" 215 "the game is over" ∈ lw_tbl := tn_of (i := 889) (by decide +kernel)
theorem kw_890 : Cond.methodLink "ColourDuel" 217 ⟨"ColourDuel", "chosenMove", "()I"⟩ ∈ Tb := tb_of (i := 890) (by decide +kernel) rfl
theorem kw_892 : Cond.instanceMethod ⟨"ColourDuel", "chosenMove", "()I"⟩ ∈ Tb := tb_of (i := 892) (by decide +kernel) rfl
theorem kw_893 : Cond.code ⟨"ColourDuel", "chosenMove", "()I"⟩ prog_1_method_32_code 7 (Option.some FieldType.int) ∈ Tb := tb_of (i := 893) (by decide +kernel) rfl
theorem kw_894 : Cond.methodLink "ColourDuel" 297 ⟨"ColourDuel", "longest", "()I"⟩ ∈ Tb := tb_of (i := 894) (by decide +kernel) rfl
theorem kw_901 : Cond.code ⟨"ColourDuel", "winningColours", "(I)I"⟩ prog_1_method_16_code 2 (Option.some FieldType.int) ∈ Tb := tb_of (i := 901) (by decide +kernel) rfl
theorem kw_908 : Cond.code ⟨"ColourDuel", "falls", "(I)I"⟩ prog_1_method_17_code 2 (Option.some FieldType.int) ∈ Tb := tb_of (i := 908) (by decide +kernel) rfl
theorem kn_909 : Cond.stringRef "ColourDuel" 220 "the vertex is not free" ∈ lw_tbl := tn_of (i := 909) (by decide +kernel)
theorem kw_910 : Cond.methodLink "ColourDuel" 222 ⟨"ColourDuel$Board", "partWith", "(I)I"⟩ ∈ Tb := tb_of (i := 910) (by decide +kernel) rfl
theorem kw_917 : Cond.code ⟨"ColourDuel", "valueWithout", "(I)I"⟩ prog_1_method_18_code 2 (Option.some FieldType.int) ∈ Tb := tb_of (i := 917) (by decide +kernel) rfl
theorem kw_918 : Cond.methodLink "ColourDuel" 225 ⟨"ColourDuel$Solver", "without", "(I)I"⟩ ∈ Tb := tb_of (i := 918) (by decide +kernel) rfl
theorem kw_919 : Cond.instanceMethod ⟨"ColourDuel$Solver", "without", "(I)I"⟩ ∈ Tb := tb_of (i := 919) (by decide +kernel) rfl
theorem kw_920 : Cond.selects "ColourDuel$Solver" ⟨"ColourDuel$Solver", "without", "(I)I"⟩ ⟨"ColourDuel$Solver", "without", "(I)I"⟩ ∈ Tb := tb_of (i := 920) (by decide +kernel) rfl
theorem kw_921 : Cond.code ⟨"ColourDuel$Solver", "without", "(I)I"⟩ prog_6_method_4_code 5 (Option.some FieldType.int) ∈ Tb := tb_of (i := 921) (by decide +kernel) rfl
theorem kw_928 : Cond.code ⟨"ColourDuel", "lay", "(II)I"⟩ prog_1_method_19_code 3 (Option.some FieldType.int) ∈ Tb := tb_of (i := 928) (by decide +kernel) rfl
theorem kw_929 : Cond.methodLink "ColourDuel" 228 ⟨"ColourDuel$Board", "paint", "(II)V"⟩ ∈ Tb := tb_of (i := 929) (by decide +kernel) rfl
theorem kw_936 : Cond.code ⟨"ColourDuel", "pass", "()I"⟩ prog_1_method_20_code 1 (Option.some FieldType.int) ∈ Tb := tb_of (i := 936) (by decide +kernel) rfl
theorem kn_937 : Cond.stringRef "ColourDuel" 232 "no pass is left" ∈ lw_tbl := tn_of (i := 937) (by decide +kernel)
theorem kw_938 : Cond.methodLink "ColourDuel" 234 ⟨"ColourDuel$Board", "spendPass", "()V"⟩ ∈ Tb := tb_of (i := 938) (by decide +kernel) rfl
theorem kw_945 : Cond.code ⟨"ColourDuel", "playOut", "(I)I"⟩ prog_1_method_21_code 4 (Option.some FieldType.int) ∈ Tb := tb_of (i := 945) (by decide +kernel) rfl
theorem kn_946 : Cond.stringRef "ColourDuel" 237 "no such number of moves" ∈ lw_tbl := tn_of (i := 946) (by decide +kernel)
theorem kw_953 : Cond.code ⟨"ColourDuel", "setPasses", "(I)I"⟩ prog_1_method_22_code 3 (Option.some FieldType.int) ∈ Tb := tb_of (i := 953) (by decide +kernel) rfl
theorem kn_954 : Cond.stringRef "ColourDuel" 239 "no such number of passes" ∈ lw_tbl := tn_of (i := 954) (by decide +kernel)
theorem kw_961 : Cond.code ⟨"ColourDuel", "move", "(II)I"⟩ prog_1_method_23_code 4 (Option.some FieldType.int) ∈ Tb := tb_of (i := 961) (by decide +kernel) rfl
theorem kw_962 : Cond.methodLink "ColourDuel" 241 ⟨"ColourDuel$Board", "moveAt", "(I)LColourDuel$Move;"⟩ ∈ Tb := tb_of (i := 962) (by decide +kernel) rfl
theorem kw_963 : Cond.instanceMethod ⟨"ColourDuel$Board", "moveAt", "(I)LColourDuel$Move;"⟩ ∈ Tb := tb_of (i := 963) (by decide +kernel) rfl
theorem kw_964 : Cond.selects "ColourDuel$Board" ⟨"ColourDuel$Board", "moveAt", "(I)LColourDuel$Move;"⟩ ⟨"ColourDuel$Board", "moveAt", "(I)LColourDuel$Move;"⟩ ∈ Tb := tb_of (i := 964) (by decide +kernel) rfl
theorem kw_965 : Cond.code ⟨"ColourDuel$Board", "moveAt", "(I)LColourDuel$Move;"⟩ prog_2_method_33_code 4 (Option.some (FieldType.object "ColourDuel$Move")) ∈ Tb := tb_of (i := 965) (by decide +kernel) rfl
theorem kn_966 : Cond.stringRef "ColourDuel" 245 "no such move" ∈ lw_tbl := tn_of (i := 966) (by decide +kernel)
theorem kn_967 : Cond.stringRef "ColourDuel" 258 "no such number of a move" ∈ lw_tbl := tn_of (i := 967) (by decide +kernel)
theorem kw_974 : Cond.code ⟨"ColourDuel", "account", "(II)I"⟩ prog_1_method_24_code 3 (Option.some FieldType.int) ∈ Tb := tb_of (i := 974) (by decide +kernel) rfl
theorem kn_975 : Cond.stringRef "ColourDuel" 260 "no such player" ∈ lw_tbl := tn_of (i := 975) (by decide +kernel)
theorem kn_976 : Cond.stringRef "ColourDuel" 262 "no such account" ∈ lw_tbl := tn_of (i := 976) (by decide +kernel)
theorem kw_977 : Cond.methodLink "ColourDuel" 264 ⟨"ColourDuel$Board", "coloursLaidBy", "(I)I"⟩ ∈ Tb := tb_of (i := 977) (by decide +kernel) rfl
theorem kw_978 : Cond.instanceMethod ⟨"ColourDuel$Board", "coloursLaidBy", "(I)I"⟩ ∈ Tb := tb_of (i := 978) (by decide +kernel) rfl
theorem kw_979 : Cond.selects "ColourDuel$Board" ⟨"ColourDuel$Board", "coloursLaidBy", "(I)I"⟩ ⟨"ColourDuel$Board", "coloursLaidBy", "(I)I"⟩ ∈ Tb := tb_of (i := 979) (by decide +kernel) rfl
theorem kw_980 : Cond.code ⟨"ColourDuel$Board", "coloursLaidBy", "(I)I"⟩ prog_2_method_35_code 5 (Option.some FieldType.int) ∈ Tb := tb_of (i := 980) (by decide +kernel) rfl
theorem kw_981 : Cond.methodLink "ColourDuel" 267 ⟨"ColourDuel$Board", "movesBy", "(II)I"⟩ ∈ Tb := tb_of (i := 981) (by decide +kernel) rfl
theorem kw_982 : Cond.instanceMethod ⟨"ColourDuel$Board", "movesBy", "(II)I"⟩ ∈ Tb := tb_of (i := 982) (by decide +kernel) rfl
theorem kw_983 : Cond.selects "ColourDuel$Board" ⟨"ColourDuel$Board", "movesBy", "(II)I"⟩ ⟨"ColourDuel$Board", "movesBy", "(II)I"⟩ ∈ Tb := tb_of (i := 983) (by decide +kernel) rfl
theorem kw_984 : Cond.code ⟨"ColourDuel$Board", "movesBy", "(II)I"⟩ prog_2_method_34_code 6 (Option.some FieldType.int) ∈ Tb := tb_of (i := 984) (by decide +kernel) rfl
theorem kw_985 : Cond.methodLink "ColourDuel$Board" 119 ⟨"ColourDuel$Move", "countsAs", "(I)Z"⟩ ∈ Tb := tb_of (i := 985) (by decide +kernel) rfl
theorem kw_986 : Cond.instanceMethod ⟨"ColourDuel$Move", "countsAs", "(I)Z"⟩ ∈ Tb := tb_of (i := 986) (by decide +kernel) rfl
theorem kw_987 : Cond.selects "ColourDuel$Move" ⟨"ColourDuel$Move", "countsAs", "(I)Z"⟩ ⟨"ColourDuel$Move", "countsAs", "(I)Z"⟩ ∈ Tb := tb_of (i := 987) (by decide +kernel) rfl
theorem kw_988 : Cond.code ⟨"ColourDuel$Move", "countsAs", "(I)Z"⟩ prog_4_method_2_code 2 (Option.some FieldType.boolean) ∈ Tb := tb_of (i := 988) (by decide +kernel) rfl
theorem kw_995 : Cond.code ⟨"ColourDuel", "writtenByte", "(I)I"⟩ prog_1_method_26_code 2 (Option.some FieldType.int) ∈ Tb := tb_of (i := 995) (by decide +kernel) rfl
theorem kn_996 : Cond.stringRef "ColourDuel" 276 "no such byte" ∈ lw_tbl := tn_of (i := 996) (by decide +kernel)
theorem kw_1003 : Cond.code ⟨"ColourDuel", "undo", "()I"⟩ prog_1_method_27_code 1 (Option.some FieldType.int) ∈ Tb := tb_of (i := 1003) (by decide +kernel) rfl
theorem kn_1004 : Cond.stringRef "ColourDuel" 281 "there is no change to undo" ∈ lw_tbl := tn_of (i := 1004) (by decide +kernel)
theorem kw_1005 : Cond.methodLink "ColourDuel" 283 ⟨"ColourDuel$History", "bringBack", "(LColourDuel$Board;)V"⟩ ∈ Tb := tb_of (i := 1005) (by decide +kernel) rfl
theorem kw_1006 : Cond.instanceMethod ⟨"ColourDuel$History", "bringBack", "(LColourDuel$Board;)V"⟩ ∈ Tb := tb_of (i := 1006) (by decide +kernel) rfl
theorem kw_1007 : Cond.selects "ColourDuel$History" ⟨"ColourDuel$History", "bringBack", "(LColourDuel$Board;)V"⟩ ⟨"ColourDuel$History", "bringBack", "(LColourDuel$Board;)V"⟩ ∈ Tb := tb_of (i := 1007) (by decide +kernel) rfl
theorem kw_1008 : Cond.code ⟨"ColourDuel$History", "bringBack", "(LColourDuel$Board;)V"⟩ prog_3_method_3_code 3 (Option.none : Option FieldType) ∈ Tb := tb_of (i := 1008) (by decide +kernel) rfl
theorem kw_1009 : Cond.methodLink "ColourDuel$History" 34 ⟨"ColourDuel$Board", "takeFrom", "(LColourDuel$Board;)V"⟩ ∈ Tb := tb_of (i := 1009) (by decide +kernel) rfl
theorem kw_1016 : Cond.code ⟨"ColourDuel", "save", "(I)I"⟩ prog_1_method_28_code 2 (Option.some FieldType.int) ∈ Tb := tb_of (i := 1016) (by decide +kernel) rfl
theorem kn_1017 : Cond.stringRef "ColourDuel" 286 "no such slot" ∈ lw_tbl := tn_of (i := 1017) (by decide +kernel)
theorem kw_1018 : Cond.methodLink "ColourDuel" 288 ⟨"ColourDuel", "keepCopy", "([LColourDuel$Board;ILColourDuel$Board;)V"⟩ ∈ Tb := tb_of (i := 1018) (by decide +kernel) rfl
theorem kw_1025 : Cond.code ⟨"ColourDuel", "restore", "(I)I"⟩ prog_1_method_29_code 3 (Option.some FieldType.int) ∈ Tb := tb_of (i := 1025) (by decide +kernel) rfl
theorem kn_1026 : Cond.stringRef "ColourDuel" 292 "nothing was saved there" ∈ lw_tbl := tn_of (i := 1026) (by decide +kernel)
theorem kw_1031 : Cond.code ⟨"ColourDuelModel", "<init>", "()V"⟩ prog_8_method_1_code 1 (Option.none : Option FieldType) ∈ Tb := tb_of (i := 1031) (by decide +kernel) rfl
theorem kw_1032 : Cond.methodLink "ColourDuelModel" 1 ⟨"java/lang/Object", "<init>", "()V"⟩ ∈ Tb := tb_of (i := 1032) (by decide +kernel) rfl
theorem kw_1033 : Cond.constant "ColourDuelModel" 19 (33088 : Int32) ∈ Tb := tb_of (i := 1033) (by decide +kernel) rfl
theorem kw_1034 : Cond.constant "ColourDuelModel" 37 (80000 : Int32) ∈ Tb := tb_of (i := 1034) (by decide +kernel) rfl
theorem kw_1035 : Cond.fieldLink "ColourDuelModel" 7 "ColourDuelModel" "a" "[I" ∈ Tb := tb_of (i := 1035) (by decide +kernel) rfl
theorem kw_1036 : Cond.fieldLink "ColourDuelModel" 13 "ColourDuelModel" "aside" "[I" ∈ Tb := tb_of (i := 1036) (by decide +kernel) rfl
theorem kw_1037 : Cond.fieldLink "ColourDuelModel" 16 "ColourDuelModel" "fresh" "[I" ∈ Tb := tb_of (i := 1037) (by decide +kernel) rfl
theorem kw_1038 : Cond.fieldLink "ColourDuelModel" 20 "ColourDuelModel" "kept" "[I" ∈ Tb := tb_of (i := 1038) (by decide +kernel) rfl
theorem kw_1039 : Cond.fieldLink "ColourDuelModel" 23 "ColourDuelModel" "slots" "[I" ∈ Tb := tb_of (i := 1039) (by decide +kernel) rfl
theorem kw_1040 : Cond.fieldLink "ColourDuelModel" 26 "ColourDuelModel" "isSaved" "[Z" ∈ Tb := tb_of (i := 1040) (by decide +kernel) rfl
theorem kw_1041 : Cond.fieldLink "ColourDuelModel" 50 "ColourDuelModel" "keptMany" "I" ∈ Tb := tb_of (i := 1041) (by decide +kernel) rfl
theorem kw_1042 : Cond.fieldLink "ColourDuelModel" 47 "ColourDuelModel" "thrown" "I" ∈ Tb := tb_of (i := 1042) (by decide +kernel) rfl
theorem kw_1043 : Cond.fieldLink "ColourDuelModel" 30 "ColourDuelModel" "buffer" "[I" ∈ Tb := tb_of (i := 1043) (by decide +kernel) rfl
theorem kw_1044 : Cond.fieldLink "ColourDuelModel" 57 "ColourDuelModel" "buffered" "I" ∈ Tb := tb_of (i := 1044) (by decide +kernel) rfl
theorem kw_1045 : Cond.fieldLink "ColourDuelModel" 60 "ColourDuelModel" "size" "I" ∈ Tb := tb_of (i := 1045) (by decide +kernel) rfl
theorem kw_1046 : Cond.fieldLink "ColourDuelModel" 66 "ColourDuelModel" "at" "I" ∈ Tb := tb_of (i := 1046) (by decide +kernel) rfl
theorem kw_1047 : Cond.fieldLink "ColourDuelModel" 63 "ColourDuelModel" "behind" "I" ∈ Tb := tb_of (i := 1047) (by decide +kernel) rfl
theorem kw_1048 : Cond.fieldLink "ColourDuelModel" 73 "ColourDuelModel" "kind" "I" ∈ Tb := tb_of (i := 1048) (by decide +kernel) rfl
theorem kw_1049 : Cond.fieldLink "ColourDuelModel" 80 "ColourDuelModel" "number" "I" ∈ Tb := tb_of (i := 1049) (by decide +kernel) rfl
theorem kw_1050 : Cond.fieldLink "ColourDuelModel" 83 "ColourDuelModel" "wrong" "I" ∈ Tb := tb_of (i := 1050) (by decide +kernel) rfl
theorem kw_1051 : Cond.fieldLink "ColourDuelModel" 96 "ColourDuelModel" "wrongAt" "I" ∈ Tb := tb_of (i := 1051) (by decide +kernel) rfl
theorem kw_1052 : Cond.fieldLink "ColourDuelModel" 33 "ColourDuelModel" "errorAt" "I" ∈ Tb := tb_of (i := 1052) (by decide +kernel) rfl
theorem kw_1053 : Cond.fieldLink "ColourDuelModel" 38 "ColourDuelModel" "known" "[I" ∈ Tb := tb_of (i := 1053) (by decide +kernel) rfl
theorem kw_1054 : Cond.fieldLink "ColourDuelModel" 41 "ColourDuelModel" "bansWere" "[I" ∈ Tb := tb_of (i := 1054) (by decide +kernel) rfl
theorem kw_1055 : Cond.fieldLink "ColourDuelModel" 44 "ColourDuelModel" "written" "[I" ∈ Tb := tb_of (i := 1055) (by decide +kernel) rfl
theorem kw_1056 : Cond.fieldLink "ColourDuelModel" 278 "ColourDuelModel" "writtenMany" "I" ∈ Tb := tb_of (i := 1056) (by decide +kernel) rfl
theorem kw_1102 : Cond.arrayClass FieldType.boolean ∈ Tb := tb_of (i := 1102) (by decide +kernel) rfl
theorem kw_1106 : Cond.code ⟨"ColourDuelModel", "thrown", "()I"⟩ prog_8_method_2_code 1 (Option.some FieldType.int) ∈ Tb := tb_of (i := 1106) (by decide +kernel) rfl
theorem kw_1110 : Cond.code ⟨"ColourDuelModel", "undo", "()I"⟩ prog_8_method_6_code 1 (Option.some FieldType.int) ∈ Tb := tb_of (i := 1110) (by decide +kernel) rfl
theorem kw_1111 : Cond.methodLink "ColourDuelModel" 53 ⟨"ColourDuelModel", "sets", "([II[II)V"⟩ ∈ Tb := tb_of (i := 1111) (by decide +kernel) rfl
theorem kw_1112 : Cond.static ⟨"ColourDuelModel", "sets", "([II[II)V"⟩ ∈ Tb := tb_of (i := 1112) (by decide +kernel) rfl
theorem kw_1113 : Cond.code ⟨"ColourDuelModel", "sets", "([II[II)V"⟩ prog_8_method_4_code 5 (Option.none : Option FieldType) ∈ Tb := tb_of (i := 1113) (by decide +kernel) rfl
theorem kw_1117 : Cond.code ⟨"ColourDuelModel", "append", "(IIIII)I"⟩ prog_8_method_7_code 8 (Option.some FieldType.int) ∈ Tb := tb_of (i := 1117) (by decide +kernel) rfl
theorem kw_1121 : Cond.code ⟨"ColourDuelModel", "load", "(I)I"⟩ prog_8_method_22_code 3 (Option.some FieldType.int) ∈ Tb := tb_of (i := 1121) (by decide +kernel) rfl
theorem kw_1122 : Cond.methodLink "ColourDuelModel" 76 ⟨"ColourDuelModel", "isIn", "(III)Z"⟩ ∈ Tb := tb_of (i := 1122) (by decide +kernel) rfl
theorem kw_1123 : Cond.static ⟨"ColourDuelModel", "isIn", "(III)Z"⟩ ∈ Tb := tb_of (i := 1123) (by decide +kernel) rfl
theorem kw_1124 : Cond.code ⟨"ColourDuelModel", "isIn", "(III)Z"⟩ prog_8_method_3_code 3 (Option.some FieldType.boolean) ∈ Tb := tb_of (i := 1124) (by decide +kernel) rfl
theorem kw_1125 : Cond.methodLink "ColourDuelModel" 103 ⟨"ColourDuelModel", "next", "()V"⟩ ∈ Tb := tb_of (i := 1125) (by decide +kernel) rfl
theorem kw_1127 : Cond.instanceMethod ⟨"ColourDuelModel", "next", "()V"⟩ ∈ Tb := tb_of (i := 1127) (by decide +kernel) rfl
theorem kw_1128 : Cond.code ⟨"ColourDuelModel", "next", "()V"⟩ prog_8_method_9_code 1 (Option.none : Option FieldType) ∈ Tb := tb_of (i := 1128) (by decide +kernel) rfl
theorem kw_1129 : Cond.methodLink "ColourDuelModel" 69 ⟨"ColourDuelModel", "see", "(I)I"⟩ ∈ Tb := tb_of (i := 1129) (by decide +kernel) rfl
theorem kw_1131 : Cond.instanceMethod ⟨"ColourDuelModel", "see", "(I)I"⟩ ∈ Tb := tb_of (i := 1131) (by decide +kernel) rfl
theorem kw_1132 : Cond.code ⟨"ColourDuelModel", "see", "(I)I"⟩ prog_8_method_8_code 2 (Option.some FieldType.int) ∈ Tb := tb_of (i := 1132) (by decide +kernel) rfl
theorem kw_1133 : Cond.methodLink "ColourDuelModel" 164 ⟨"ColourDuelModel", "reads", "()V"⟩ ∈ Tb := tb_of (i := 1133) (by decide +kernel) rfl
theorem kw_1135 : Cond.instanceMethod ⟨"ColourDuelModel", "reads", "()V"⟩ ∈ Tb := tb_of (i := 1135) (by decide +kernel) rfl
theorem kw_1136 : Cond.code ⟨"ColourDuelModel", "reads", "()V"⟩ prog_8_method_21_code 1 (Option.none : Option FieldType) ∈ Tb := tb_of (i := 1136) (by decide +kernel) rfl
theorem kn_1137 : Cond.stringRef "ColourDuelModel" 137 "colours" ∈ lw_tbl := tn_of (i := 1137) (by decide +kernel)
theorem kw_1138 : Cond.methodLink "ColourDuelModel" 139 ⟨"ColourDuelModel", "isWord", "(Ljava/lang/String;)Z"⟩ ∈ Tb := tb_of (i := 1138) (by decide +kernel) rfl
theorem kw_1140 : Cond.instanceMethod ⟨"ColourDuelModel", "isWord", "(Ljava/lang/String;)Z"⟩ ∈ Tb := tb_of (i := 1140) (by decide +kernel) rfl
theorem kw_1141 : Cond.code ⟨"ColourDuelModel", "isWord", "(Ljava/lang/String;)Z"⟩ prog_8_method_10_code 3 (Option.some FieldType.boolean) ∈ Tb := tb_of (i := 1141) (by decide +kernel) rfl
theorem kw_1142 : Cond.methodLink "ColourDuelModel" 86 ⟨"java/lang/String", "length", "()I"⟩ ∈ Tb := tb_of (i := 1142) (by decide +kernel) rfl
theorem kw_1143 : Cond.methodLink "ColourDuelModel" 92 ⟨"java/lang/String", "charAt", "(I)C"⟩ ∈ Tb := tb_of (i := 1143) (by decide +kernel) rfl
theorem kw_1144 : Cond.methodLink "ColourDuelModel" 106 ⟨"ColourDuelModel", "must", "(Z)V"⟩ ∈ Tb := tb_of (i := 1144) (by decide +kernel) rfl
theorem kw_1146 : Cond.instanceMethod ⟨"ColourDuelModel", "must", "(Z)V"⟩ ∈ Tb := tb_of (i := 1146) (by decide +kernel) rfl
theorem kw_1147 : Cond.code ⟨"ColourDuelModel", "must", "(Z)V"⟩ prog_8_method_12_code 2 (Option.none : Option FieldType) ∈ Tb := tb_of (i := 1147) (by decide +kernel) rfl
theorem kw_1148 : Cond.methodLink "ColourDuelModel" 99 ⟨"ColourDuelModel", "fails", "(I)V"⟩ ∈ Tb := tb_of (i := 1148) (by decide +kernel) rfl
theorem kw_1150 : Cond.instanceMethod ⟨"ColourDuelModel", "fails", "(I)V"⟩ ∈ Tb := tb_of (i := 1150) (by decide +kernel) rfl
theorem kw_1151 : Cond.code ⟨"ColourDuelModel", "fails", "(I)V"⟩ prog_8_method_11_code 2 (Option.none : Option FieldType) ∈ Tb := tb_of (i := 1151) (by decide +kernel) rfl
theorem kw_1152 : Cond.methodLink "ColourDuelModel" 119 ⟨"ColourDuelModel", "takes", "(II)I"⟩ ∈ Tb := tb_of (i := 1152) (by decide +kernel) rfl
theorem kw_1154 : Cond.instanceMethod ⟨"ColourDuelModel", "takes", "(II)I"⟩ ∈ Tb := tb_of (i := 1154) (by decide +kernel) rfl
theorem kw_1155 : Cond.code ⟨"ColourDuelModel", "takes", "(II)I"⟩ prog_8_method_13_code 4 (Option.some FieldType.int) ∈ Tb := tb_of (i := 1155) (by decide +kernel) rfl
theorem kn_1156 : Cond.stringRef "ColourDuelModel" 143 "passes" ∈ lw_tbl := tn_of (i := 1156) (by decide +kernel)
theorem kw_1157 : Cond.methodLink "ColourDuelModel" 116 ⟨"ColourDuelModel", "mustEnd", "()V"⟩ ∈ Tb := tb_of (i := 1157) (by decide +kernel) rfl
theorem kw_1159 : Cond.instanceMethod ⟨"ColourDuelModel", "mustEnd", "()V"⟩ ∈ Tb := tb_of (i := 1159) (by decide +kernel) rfl
theorem kw_1160 : Cond.code ⟨"ColourDuelModel", "mustEnd", "()V"⟩ prog_8_method_14_code 1 (Option.none : Option FieldType) ∈ Tb := tb_of (i := 1160) (by decide +kernel) rfl
theorem kn_1161 : Cond.stringRef "ColourDuelModel" 144 "vertex" ∈ lw_tbl := tn_of (i := 1161) (by decide +kernel)
theorem kw_1162 : Cond.methodLink "ColourDuelModel" 146 ⟨"ColourDuelModel", "readsVertex", "()V"⟩ ∈ Tb := tb_of (i := 1162) (by decide +kernel) rfl
theorem kw_1164 : Cond.instanceMethod ⟨"ColourDuelModel", "readsVertex", "()V"⟩ ∈ Tb := tb_of (i := 1164) (by decide +kernel) rfl
theorem kw_1165 : Cond.code ⟨"ColourDuelModel", "readsVertex", "()V"⟩ prog_8_method_17_code 2 (Option.none : Option FieldType) ∈ Tb := tb_of (i := 1165) (by decide +kernel) rfl
theorem kw_1166 : Cond.methodLink "ColourDuelModel" 110 ⟨"ColourDuelModel", "colouringsNext", "()I"⟩ ∈ Tb := tb_of (i := 1166) (by decide +kernel) rfl
theorem kw_1168 : Cond.instanceMethod ⟨"ColourDuelModel", "colouringsNext", "()I"⟩ ∈ Tb := tb_of (i := 1168) (by decide +kernel) rfl
theorem kw_1169 : Cond.code ⟨"ColourDuelModel", "colouringsNext", "()I"⟩ prog_8_method_16_code 3 (Option.some FieldType.int) ∈ Tb := tb_of (i := 1169) (by decide +kernel) rfl
theorem kw_1170 : Cond.methodLink "ColourDuelModel" 113 ⟨"ColourDuelModel", "lettersHere", "()I"⟩ ∈ Tb := tb_of (i := 1170) (by decide +kernel) rfl
theorem kw_1172 : Cond.instanceMethod ⟨"ColourDuelModel", "lettersHere", "()I"⟩ ∈ Tb := tb_of (i := 1172) (by decide +kernel) rfl
theorem kw_1173 : Cond.code ⟨"ColourDuelModel", "lettersHere", "()I"⟩ prog_8_method_15_code 4 (Option.some FieldType.int) ∈ Tb := tb_of (i := 1173) (by decide +kernel) rfl
theorem kn_1174 : Cond.stringRef "ColourDuelModel" 149 "edge" ∈ lw_tbl := tn_of (i := 1174) (by decide +kernel)
theorem kw_1175 : Cond.methodLink "ColourDuelModel" 151 ⟨"ColourDuelModel", "readsEdge", "()V"⟩ ∈ Tb := tb_of (i := 1175) (by decide +kernel) rfl
theorem kw_1177 : Cond.instanceMethod ⟨"ColourDuelModel", "readsEdge", "()V"⟩ ∈ Tb := tb_of (i := 1177) (by decide +kernel) rfl
theorem kw_1178 : Cond.code ⟨"ColourDuelModel", "readsEdge", "()V"⟩ prog_8_method_18_code 3 (Option.none : Option FieldType) ∈ Tb := tb_of (i := 1178) (by decide +kernel) rfl
theorem kw_1179 : Cond.methodLink "ColourDuelModel" 123 ⟨"ColourDuelModel", "areNext", "(II)Z"⟩ ∈ Tb := tb_of (i := 1179) (by decide +kernel) rfl
theorem kw_1181 : Cond.instanceMethod ⟨"ColourDuelModel", "areNext", "(II)Z"⟩ ∈ Tb := tb_of (i := 1181) (by decide +kernel) rfl
theorem kw_1182 : Cond.code ⟨"ColourDuelModel", "areNext", "(II)Z"⟩ prog_8_method_24_code 3 (Option.some FieldType.boolean) ∈ Tb := tb_of (i := 1182) (by decide +kernel) rfl
theorem kn_1183 : Cond.stringRef "ColourDuelModel" 154 "lay" ∈ lw_tbl := tn_of (i := 1183) (by decide +kernel)
theorem kn_1184 : Cond.stringRef "ColourDuelModel" 156 "pass" ∈ lw_tbl := tn_of (i := 1184) (by decide +kernel)
theorem kw_1185 : Cond.methodLink "ColourDuelModel" 158 ⟨"ColourDuelModel", "readsLay", "()V"⟩ ∈ Tb := tb_of (i := 1185) (by decide +kernel) rfl
theorem kw_1187 : Cond.instanceMethod ⟨"ColourDuelModel", "readsLay", "()V"⟩ ∈ Tb := tb_of (i := 1187) (by decide +kernel) rfl
theorem kw_1188 : Cond.code ⟨"ColourDuelModel", "readsLay", "()V"⟩ prog_8_method_19_code 4 (Option.none : Option FieldType) ∈ Tb := tb_of (i := 1188) (by decide +kernel) rfl
theorem kw_1189 : Cond.methodLink "ColourDuelModel" 127 ⟨"ColourDuelModel", "whyNot", "(II)I"⟩ ∈ Tb := tb_of (i := 1189) (by decide +kernel) rfl
theorem kw_1191 : Cond.instanceMethod ⟨"ColourDuelModel", "whyNot", "(II)I"⟩ ∈ Tb := tb_of (i := 1191) (by decide +kernel) rfl
theorem kw_1192 : Cond.code ⟨"ColourDuelModel", "whyNot", "(II)I"⟩ prog_8_method_38_code 3 (Option.some FieldType.int) ∈ Tb := tb_of (i := 1192) (by decide +kernel) rfl
theorem kw_1193 : Cond.methodLink "ColourDuelModel" 170 ⟨"ColourDuelModel", "isFree", "(I)Z"⟩ ∈ Tb := tb_of (i := 1193) (by decide +kernel) rfl
theorem kw_1195 : Cond.instanceMethod ⟨"ColourDuelModel", "isFree", "(I)Z"⟩ ∈ Tb := tb_of (i := 1195) (by decide +kernel) rfl
theorem kw_1196 : Cond.code ⟨"ColourDuelModel", "isFree", "(I)Z"⟩ prog_8_method_26_code 2 (Option.some FieldType.boolean) ∈ Tb := tb_of (i := 1196) (by decide +kernel) rfl
theorem kw_1197 : Cond.methodLink "ColourDuelModel" 186 ⟨"ColourDuelModel", "around", "(I)I"⟩ ∈ Tb := tb_of (i := 1197) (by decide +kernel) rfl
theorem kw_1199 : Cond.instanceMethod ⟨"ColourDuelModel", "around", "(I)I"⟩ ∈ Tb := tb_of (i := 1199) (by decide +kernel) rfl
theorem kw_1200 : Cond.code ⟨"ColourDuelModel", "around", "(I)I"⟩ prog_8_method_34_code 4 (Option.some FieldType.int) ∈ Tb := tb_of (i := 1200) (by decide +kernel) rfl
theorem kw_1201 : Cond.methodLink "ColourDuelModel" 183 ⟨"ColourDuelModel", "colourOf", "(I)I"⟩ ∈ Tb := tb_of (i := 1201) (by decide +kernel) rfl
theorem kw_1203 : Cond.instanceMethod ⟨"ColourDuelModel", "colourOf", "(I)I"⟩ ∈ Tb := tb_of (i := 1203) (by decide +kernel) rfl
theorem kw_1204 : Cond.code ⟨"ColourDuelModel", "colourOf", "(I)I"⟩ prog_8_method_25_code 2 (Option.some FieldType.int) ∈ Tb := tb_of (i := 1204) (by decide +kernel) rfl
theorem kw_1205 : Cond.methodLink "ColourDuelModel" 199 ⟨"ColourDuelModel", "colours", "(I)I"⟩ ∈ Tb := tb_of (i := 1205) (by decide +kernel) rfl
theorem kw_1207 : Cond.instanceMethod ⟨"ColourDuelModel", "colours", "(I)I"⟩ ∈ Tb := tb_of (i := 1207) (by decide +kernel) rfl
theorem kw_1208 : Cond.code ⟨"ColourDuelModel", "colours", "(I)I"⟩ prog_8_method_37_code 2 (Option.some FieldType.int) ∈ Tb := tb_of (i := 1208) (by decide +kernel) rfl
theorem kw_1209 : Cond.methodLink "ColourDuelModel" 180 ⟨"ColourDuelModel", "freeSet", "()I"⟩ ∈ Tb := tb_of (i := 1209) (by decide +kernel) rfl
theorem kw_1211 : Cond.instanceMethod ⟨"ColourDuelModel", "freeSet", "()I"⟩ ∈ Tb := tb_of (i := 1211) (by decide +kernel) rfl
theorem kw_1212 : Cond.code ⟨"ColourDuelModel", "freeSet", "()I"⟩ prog_8_method_27_code 3 (Option.some FieldType.int) ∈ Tb := tb_of (i := 1212) (by decide +kernel) rfl
theorem kw_1213 : Cond.methodLink "ColourDuelModel" 177 ⟨"ColourDuelModel", "reached", "(II)I"⟩ ∈ Tb := tb_of (i := 1213) (by decide +kernel) rfl
theorem kw_1215 : Cond.instanceMethod ⟨"ColourDuelModel", "reached", "(II)I"⟩ ∈ Tb := tb_of (i := 1215) (by decide +kernel) rfl
theorem kw_1216 : Cond.code ⟨"ColourDuelModel", "reached", "(II)I"⟩ prog_8_method_30_code 6 (Option.some FieldType.int) ∈ Tb := tb_of (i := 1216) (by decide +kernel) rfl
theorem kw_1217 : Cond.methodLink "ColourDuelModel" 192 ⟨"ColourDuelModel", "banOf", "(I)I"⟩ ∈ Tb := tb_of (i := 1217) (by decide +kernel) rfl
theorem kw_1219 : Cond.instanceMethod ⟨"ColourDuelModel", "banOf", "(I)I"⟩ ∈ Tb := tb_of (i := 1219) (by decide +kernel) rfl
theorem kw_1220 : Cond.code ⟨"ColourDuelModel", "banOf", "(I)I"⟩ prog_8_method_36_code 2 (Option.some FieldType.int) ∈ Tb := tb_of (i := 1220) (by decide +kernel) rfl
theorem kw_1221 : Cond.methodLink "ColourDuelModel" 195 ⟨"ColourDuelModel", "canLay", "(III)I"⟩ ∈ Tb := tb_of (i := 1221) (by decide +kernel) rfl
theorem kw_1223 : Cond.instanceMethod ⟨"ColourDuelModel", "canLay", "(III)I"⟩ ∈ Tb := tb_of (i := 1223) (by decide +kernel) rfl
theorem kw_1224 : Cond.code ⟨"ColourDuelModel", "canLay", "(III)I"⟩ prog_8_method_35_code 5 (Option.some FieldType.int) ∈ Tb := tb_of (i := 1224) (by decide +kernel) rfl
theorem kw_1225 : Cond.methodLink "ColourDuelModel" 189 ⟨"ColourDuelModel", "bits", "(I)I"⟩ ∈ Tb := tb_of (i := 1225) (by decide +kernel) rfl
theorem kw_1226 : Cond.static ⟨"ColourDuelModel", "bits", "(I)I"⟩ ∈ Tb := tb_of (i := 1226) (by decide +kernel) rfl
theorem kw_1227 : Cond.code ⟨"ColourDuelModel", "bits", "(I)I"⟩ prog_8_method_28_code 3 (Option.some FieldType.int) ∈ Tb := tb_of (i := 1227) (by decide +kernel) rfl
theorem kw_1228 : Cond.methodLink "ColourDuelModel" 130 ⟨"ColourDuelModel", "lays", "(II)V"⟩ ∈ Tb := tb_of (i := 1228) (by decide +kernel) rfl
theorem kw_1230 : Cond.instanceMethod ⟨"ColourDuelModel", "lays", "(II)V"⟩ ∈ Tb := tb_of (i := 1230) (by decide +kernel) rfl
theorem kw_1231 : Cond.code ⟨"ColourDuelModel", "lays", "(II)V"⟩ prog_8_method_73_code 5 (Option.none : Option FieldType) ∈ Tb := tb_of (i := 1231) (by decide +kernel) rfl
theorem kw_1232 : Cond.methodLink "ColourDuelModel" 207 ⟨"ColourDuelModel", "partsIn", "(I)I"⟩ ∈ Tb := tb_of (i := 1232) (by decide +kernel) rfl
theorem kw_1234 : Cond.instanceMethod ⟨"ColourDuelModel", "partsIn", "(I)I"⟩ ∈ Tb := tb_of (i := 1234) (by decide +kernel) rfl
theorem kw_1235 : Cond.code ⟨"ColourDuelModel", "partsIn", "(I)I"⟩ prog_8_method_31_code 4 (Option.some FieldType.int) ∈ Tb := tb_of (i := 1235) (by decide +kernel) rfl
theorem kw_1236 : Cond.methodLink "ColourDuelModel" 174 ⟨"ColourDuelModel", "lowest", "(I)I"⟩ ∈ Tb := tb_of (i := 1236) (by decide +kernel) rfl
theorem kw_1237 : Cond.static ⟨"ColourDuelModel", "lowest", "(I)I"⟩ ∈ Tb := tb_of (i := 1237) (by decide +kernel) rfl
theorem kw_1238 : Cond.code ⟨"ColourDuelModel", "lowest", "(I)I"⟩ prog_8_method_29_code 2 (Option.some FieldType.int) ∈ Tb := tb_of (i := 1238) (by decide +kernel) rfl
theorem kw_1239 : Cond.methodLink "ColourDuelModel" 268 ⟨"ColourDuelModel", "notes", "(III)V"⟩ ∈ Tb := tb_of (i := 1239) (by decide +kernel) rfl
theorem kw_1241 : Cond.instanceMethod ⟨"ColourDuelModel", "notes", "(III)V"⟩ ∈ Tb := tb_of (i := 1241) (by decide +kernel) rfl
theorem kw_1242 : Cond.code ⟨"ColourDuelModel", "notes", "(III)V"⟩ prog_8_method_72_code 5 (Option.none : Option FieldType) ∈ Tb := tb_of (i := 1242) (by decide +kernel) rfl
theorem kw_1243 : Cond.methodLink "ColourDuelModel" 210 ⟨"ColourDuelModel", "turn", "()I"⟩ ∈ Tb := tb_of (i := 1243) (by decide +kernel) rfl
theorem kw_1245 : Cond.instanceMethod ⟨"ColourDuelModel", "turn", "()I"⟩ ∈ Tb := tb_of (i := 1245) (by decide +kernel) rfl
theorem kw_1246 : Cond.code ⟨"ColourDuelModel", "turn", "()I"⟩ prog_8_method_41_code 1 (Option.some FieldType.int) ∈ Tb := tb_of (i := 1246) (by decide +kernel) rfl
theorem kw_1247 : Cond.methodLink "ColourDuelModel" 161 ⟨"ColourDuelModel", "readsPass", "()V"⟩ ∈ Tb := tb_of (i := 1247) (by decide +kernel) rfl
theorem kw_1249 : Cond.instanceMethod ⟨"ColourDuelModel", "readsPass", "()V"⟩ ∈ Tb := tb_of (i := 1249) (by decide +kernel) rfl
theorem kw_1250 : Cond.code ⟨"ColourDuelModel", "readsPass", "()V"⟩ prog_8_method_20_code 1 (Option.none : Option FieldType) ∈ Tb := tb_of (i := 1250) (by decide +kernel) rfl
theorem kw_1251 : Cond.methodLink "ColourDuelModel" 134 ⟨"ColourDuelModel", "passes", "()V"⟩ ∈ Tb := tb_of (i := 1251) (by decide +kernel) rfl
theorem kw_1253 : Cond.instanceMethod ⟨"ColourDuelModel", "passes", "()V"⟩ ∈ Tb := tb_of (i := 1253) (by decide +kernel) rfl
theorem kw_1254 : Cond.code ⟨"ColourDuelModel", "passes", "()V"⟩ prog_8_method_74_code 1 (Option.none : Option FieldType) ∈ Tb := tb_of (i := 1254) (by decide +kernel) rfl
theorem kw_1255 : Cond.methodLink "ColourDuelModel" 167 ⟨"ColourDuelModel", "keeps", "()V"⟩ ∈ Tb := tb_of (i := 1255) (by decide +kernel) rfl
theorem kw_1257 : Cond.instanceMethod ⟨"ColourDuelModel", "keeps", "()V"⟩ ∈ Tb := tb_of (i := 1257) (by decide +kernel) rfl
theorem kw_1258 : Cond.code ⟨"ColourDuelModel", "keeps", "()V"⟩ prog_8_method_5_code 2 (Option.none : Option FieldType) ∈ Tb := tb_of (i := 1258) (by decide +kernel) rfl
theorem kw_1262 : Cond.code ⟨"ColourDuelModel", "errorPosition", "()I"⟩ prog_8_method_23_code 1 (Option.some FieldType.int) ∈ Tb := tb_of (i := 1262) (by decide +kernel) rfl
theorem kw_1266 : Cond.code ⟨"ColourDuelModel", "count", "(I)I"⟩ prog_8_method_44_code 2 (Option.some FieldType.int) ∈ Tb := tb_of (i := 1266) (by decide +kernel) rfl
theorem kw_1267 : Cond.methodLink "ColourDuelModel" 204 ⟨"ColourDuelModel", "edgesIn", "(I)I"⟩ ∈ Tb := tb_of (i := 1267) (by decide +kernel) rfl
theorem kw_1269 : Cond.instanceMethod ⟨"ColourDuelModel", "edgesIn", "(I)I"⟩ ∈ Tb := tb_of (i := 1269) (by decide +kernel) rfl
theorem kw_1270 : Cond.code ⟨"ColourDuelModel", "edgesIn", "(I)I"⟩ prog_8_method_43_code 4 (Option.some FieldType.int) ∈ Tb := tb_of (i := 1270) (by decide +kernel) rfl
theorem kw_1271 : Cond.methodLink "ColourDuelModel" 213 ⟨"ColourDuelModel", "isOver", "()Z"⟩ ∈ Tb := tb_of (i := 1271) (by decide +kernel) rfl
theorem kw_1273 : Cond.instanceMethod ⟨"ColourDuelModel", "isOver", "()Z"⟩ ∈ Tb := tb_of (i := 1273) (by decide +kernel) rfl
theorem kw_1274 : Cond.code ⟨"ColourDuelModel", "isOver", "()Z"⟩ prog_8_method_40_code 1 (Option.some FieldType.boolean) ∈ Tb := tb_of (i := 1274) (by decide +kernel) rfl
theorem kw_1275 : Cond.methodLink "ColourDuelModel" 201 ⟨"ColourDuelModel", "pairs", "()I"⟩ ∈ Tb := tb_of (i := 1275) (by decide +kernel) rfl
theorem kw_1277 : Cond.instanceMethod ⟨"ColourDuelModel", "pairs", "()I"⟩ ∈ Tb := tb_of (i := 1277) (by decide +kernel) rfl
theorem kw_1278 : Cond.code ⟨"ColourDuelModel", "pairs", "()I"⟩ prog_8_method_39_code 3 (Option.some FieldType.int) ∈ Tb := tb_of (i := 1278) (by decide +kernel) rfl
theorem kw_1279 : Cond.methodLink "ColourDuelModel" 217 ⟨"ColourDuelModel", "stuck", "()I"⟩ ∈ Tb := tb_of (i := 1279) (by decide +kernel) rfl
theorem kw_1281 : Cond.instanceMethod ⟨"ColourDuelModel", "stuck", "()I"⟩ ∈ Tb := tb_of (i := 1281) (by decide +kernel) rfl
theorem kw_1282 : Cond.code ⟨"ColourDuelModel", "stuck", "()I"⟩ prog_8_method_42_code 3 (Option.some FieldType.int) ∈ Tb := tb_of (i := 1282) (by decide +kernel) rfl
theorem kw_1286 : Cond.code ⟨"ColourDuelModel", "vertex", "(II)I"⟩ prog_8_method_47_code 3 (Option.some FieldType.int) ∈ Tb := tb_of (i := 1286) (by decide +kernel) rfl
theorem kw_1287 : Cond.methodLink "ColourDuelModel" 220 ⟨"ColourDuelModel", "isVertex", "(I)Z"⟩ ∈ Tb := tb_of (i := 1287) (by decide +kernel) rfl
theorem kw_1289 : Cond.instanceMethod ⟨"ColourDuelModel", "isVertex", "(I)Z"⟩ ∈ Tb := tb_of (i := 1289) (by decide +kernel) rfl
theorem kw_1290 : Cond.code ⟨"ColourDuelModel", "isVertex", "(I)Z"⟩ prog_8_method_45_code 2 (Option.some FieldType.boolean) ∈ Tb := tb_of (i := 1290) (by decide +kernel) rfl
theorem kw_1291 : Cond.methodLink "ColourDuelModel" 223 ⟨"ColourDuelModel", "partOf", "(I)I"⟩ ∈ Tb := tb_of (i := 1291) (by decide +kernel) rfl
theorem kw_1293 : Cond.instanceMethod ⟨"ColourDuelModel", "partOf", "(I)I"⟩ ∈ Tb := tb_of (i := 1293) (by decide +kernel) rfl
theorem kw_1294 : Cond.code ⟨"ColourDuelModel", "partOf", "(I)I"⟩ prog_8_method_33_code 5 (Option.some FieldType.int) ∈ Tb := tb_of (i := 1294) (by decide +kernel) rfl
theorem kw_1298 : Cond.code ⟨"ColourDuelModel", "reason", "(II)I"⟩ prog_8_method_48_code 3 (Option.some FieldType.int) ∈ Tb := tb_of (i := 1298) (by decide +kernel) rfl
theorem kw_1299 : Cond.methodLink "ColourDuelModel" 226 ⟨"ColourDuelModel", "isColour", "(I)Z"⟩ ∈ Tb := tb_of (i := 1299) (by decide +kernel) rfl
theorem kw_1301 : Cond.instanceMethod ⟨"ColourDuelModel", "isColour", "(I)Z"⟩ ∈ Tb := tb_of (i := 1301) (by decide +kernel) rfl
theorem kw_1302 : Cond.code ⟨"ColourDuelModel", "isColour", "(I)Z"⟩ prog_8_method_46_code 2 (Option.some FieldType.boolean) ∈ Tb := tb_of (i := 1302) (by decide +kernel) rfl
theorem kw_1306 : Cond.code ⟨"ColourDuelModel", "part", "(II)I"⟩ prog_8_method_58_code 5 (Option.some FieldType.int) ∈ Tb := tb_of (i := 1306) (by decide +kernel) rfl
theorem kw_1307 : Cond.methodLink "ColourDuelModel" 244 ⟨"ColourDuelModel", "partSet", "(I)I"⟩ ∈ Tb := tb_of (i := 1307) (by decide +kernel) rfl
theorem kw_1309 : Cond.instanceMethod ⟨"ColourDuelModel", "partSet", "(I)I"⟩ ∈ Tb := tb_of (i := 1309) (by decide +kernel) rfl
theorem kw_1310 : Cond.code ⟨"ColourDuelModel", "partSet", "(I)I"⟩ prog_8_method_32_code 5 (Option.some FieldType.int) ∈ Tb := tb_of (i := 1310) (by decide +kernel) rfl
theorem kw_1311 : Cond.methodLink "ColourDuelModel" 247 ⟨"ColourDuelModel", "pairsIn", "(I)I"⟩ ∈ Tb := tb_of (i := 1311) (by decide +kernel) rfl
theorem kw_1313 : Cond.instanceMethod ⟨"ColourDuelModel", "pairsIn", "(I)I"⟩ ∈ Tb := tb_of (i := 1313) (by decide +kernel) rfl
theorem kw_1314 : Cond.code ⟨"ColourDuelModel", "pairsIn", "(I)I"⟩ prog_8_method_59_code 4 (Option.some FieldType.int) ∈ Tb := tb_of (i := 1314) (by decide +kernel) rfl
theorem kw_1315 : Cond.methodLink "ColourDuelModel" 250 ⟨"ColourDuelModel", "ofPart", "(III)I"⟩ ∈ Tb := tb_of (i := 1315) (by decide +kernel) rfl
theorem kw_1317 : Cond.instanceMethod ⟨"ColourDuelModel", "ofPart", "(III)I"⟩ ∈ Tb := tb_of (i := 1317) (by decide +kernel) rfl
theorem kw_1318 : Cond.code ⟨"ColourDuelModel", "ofPart", "(III)I"⟩ prog_8_method_60_code 5 (Option.some FieldType.int) ∈ Tb := tb_of (i := 1318) (by decide +kernel) rfl
theorem kw_1319 : Cond.methodLink "ColourDuelModel" 253 ⟨"ColourDuelModel", "forgets", "()V"⟩ ∈ Tb := tb_of (i := 1319) (by decide +kernel) rfl
theorem kw_1321 : Cond.instanceMethod ⟨"ColourDuelModel", "forgets", "()V"⟩ ∈ Tb := tb_of (i := 1321) (by decide +kernel) rfl
theorem kw_1322 : Cond.code ⟨"ColourDuelModel", "forgets", "()V"⟩ prog_8_method_49_code 2 (Option.none : Option FieldType) ∈ Tb := tb_of (i := 1322) (by decide +kernel) rfl
theorem kw_1323 : Cond.methodLink "ColourDuelModel" 229 ⟨"ColourDuelModel", "knownOf", "(II)I"⟩ ∈ Tb := tb_of (i := 1323) (by decide +kernel) rfl
theorem kw_1325 : Cond.instanceMethod ⟨"ColourDuelModel", "knownOf", "(II)I"⟩ ∈ Tb := tb_of (i := 1325) (by decide +kernel) rfl
theorem kw_1326 : Cond.code ⟨"ColourDuelModel", "knownOf", "(II)I"⟩ prog_8_method_52_code 13 (Option.some FieldType.int) ∈ Tb := tb_of (i := 1326) (by decide +kernel) rfl
theorem kw_1327 : Cond.methodLink "ColourDuelModel" 232 ⟨"ColourDuelModel", "placeOf", "(II)I"⟩ ∈ Tb := tb_of (i := 1327) (by decide +kernel) rfl
theorem kw_1329 : Cond.instanceMethod ⟨"ColourDuelModel", "placeOf", "(II)I"⟩ ∈ Tb := tb_of (i := 1329) (by decide +kernel) rfl
theorem kw_1330 : Cond.code ⟨"ColourDuelModel", "placeOf", "(II)I"⟩ prog_8_method_50_code 7 (Option.some FieldType.int) ∈ Tb := tb_of (i := 1330) (by decide +kernel) rfl
theorem kw_1331 : Cond.methodLink "ColourDuelModel" 235 ⟨"ColourDuelModel", "together", "(II)I"⟩ ∈ Tb := tb_of (i := 1331) (by decide +kernel) rfl
theorem kw_1333 : Cond.instanceMethod ⟨"ColourDuelModel", "together", "(II)I"⟩ ∈ Tb := tb_of (i := 1333) (by decide +kernel) rfl
theorem kw_1334 : Cond.code ⟨"ColourDuelModel", "together", "(II)I"⟩ prog_8_method_51_code 9 (Option.some FieldType.int) ∈ Tb := tb_of (i := 1334) (by decide +kernel) rfl
theorem kw_1338 : Cond.code ⟨"ColourDuelModel", "value", "()I"⟩ prog_8_method_61_code 1 (Option.some FieldType.int) ∈ Tb := tb_of (i := 1338) (by decide +kernel) rfl
theorem kw_1339 : Cond.methodLink "ColourDuelModel" 256 ⟨"ColourDuelModel", "valueNow", "()I"⟩ ∈ Tb := tb_of (i := 1339) (by decide +kernel) rfl
theorem kw_1341 : Cond.instanceMethod ⟨"ColourDuelModel", "valueNow", "()I"⟩ ∈ Tb := tb_of (i := 1341) (by decide +kernel) rfl
theorem kw_1342 : Cond.code ⟨"ColourDuelModel", "valueNow", "()I"⟩ prog_8_method_54_code 1 (Option.some FieldType.int) ∈ Tb := tb_of (i := 1342) (by decide +kernel) rfl
theorem kw_1343 : Cond.methodLink "ColourDuelModel" 238 ⟨"ColourDuelModel", "board", "()I"⟩ ∈ Tb := tb_of (i := 1343) (by decide +kernel) rfl
theorem kw_1345 : Cond.instanceMethod ⟨"ColourDuelModel", "board", "()I"⟩ ∈ Tb := tb_of (i := 1345) (by decide +kernel) rfl
theorem kw_1346 : Cond.code ⟨"ColourDuelModel", "board", "()I"⟩ prog_8_method_53_code 8 (Option.some FieldType.int) ∈ Tb := tb_of (i := 1346) (by decide +kernel) rfl
theorem kw_1350 : Cond.code ⟨"ColourDuelModel", "valueIf", "(II)I"⟩ prog_8_method_62_code 3 (Option.some FieldType.int) ∈ Tb := tb_of (i := 1350) (by decide +kernel) rfl
theorem kw_1351 : Cond.methodLink "ColourDuelModel" 241 ⟨"ColourDuelModel", "boardIf", "(II)I"⟩ ∈ Tb := tb_of (i := 1351) (by decide +kernel) rfl
theorem kw_1353 : Cond.instanceMethod ⟨"ColourDuelModel", "boardIf", "(II)I"⟩ ∈ Tb := tb_of (i := 1353) (by decide +kernel) rfl
theorem kw_1354 : Cond.code ⟨"ColourDuelModel", "boardIf", "(II)I"⟩ prog_8_method_55_code 6 (Option.some FieldType.int) ∈ Tb := tb_of (i := 1354) (by decide +kernel) rfl
theorem kw_1358 : Cond.code ⟨"ColourDuelModel", "winningMoves", "()I"⟩ prog_8_method_63_code 3 (Option.some FieldType.int) ∈ Tb := tb_of (i := 1358) (by decide +kernel) rfl
theorem kw_1359 : Cond.methodLink "ColourDuelModel" 259 ⟨"ColourDuelModel", "passWins", "()Z"⟩ ∈ Tb := tb_of (i := 1359) (by decide +kernel) rfl
theorem kw_1361 : Cond.instanceMethod ⟨"ColourDuelModel", "passWins", "()Z"⟩ ∈ Tb := tb_of (i := 1361) (by decide +kernel) rfl
theorem kw_1362 : Cond.code ⟨"ColourDuelModel", "passWins", "()Z"⟩ prog_8_method_57_code 1 (Option.some FieldType.boolean) ∈ Tb := tb_of (i := 1362) (by decide +kernel) rfl
theorem kw_1363 : Cond.methodLink "ColourDuelModel" 262 ⟨"ColourDuelModel", "winningOn", "(I)I"⟩ ∈ Tb := tb_of (i := 1363) (by decide +kernel) rfl
theorem kw_1365 : Cond.instanceMethod ⟨"ColourDuelModel", "winningOn", "(I)I"⟩ ∈ Tb := tb_of (i := 1365) (by decide +kernel) rfl
theorem kw_1366 : Cond.code ⟨"ColourDuelModel", "winningOn", "(I)I"⟩ prog_8_method_56_code 5 (Option.some FieldType.int) ∈ Tb := tb_of (i := 1366) (by decide +kernel) rfl
theorem kw_1370 : Cond.code ⟨"ColourDuelModel", "winningColours", "(I)I"⟩ prog_8_method_64_code 2 (Option.some FieldType.int) ∈ Tb := tb_of (i := 1370) (by decide +kernel) rfl
theorem kw_1374 : Cond.code ⟨"ColourDuelModel", "bestMove", "()I"⟩ prog_8_method_66_code 1 (Option.some FieldType.int) ∈ Tb := tb_of (i := 1374) (by decide +kernel) rfl
theorem kw_1375 : Cond.methodLink "ColourDuelModel" 265 ⟨"ColourDuelModel", "best", "()I"⟩ ∈ Tb := tb_of (i := 1375) (by decide +kernel) rfl
theorem kw_1377 : Cond.instanceMethod ⟨"ColourDuelModel", "best", "()I"⟩ ∈ Tb := tb_of (i := 1377) (by decide +kernel) rfl
theorem kw_1378 : Cond.code ⟨"ColourDuelModel", "best", "()I"⟩ prog_8_method_65_code 7 (Option.some FieldType.int) ∈ Tb := tb_of (i := 1378) (by decide +kernel) rfl
theorem kw_1382 : Cond.code ⟨"ColourDuelModel", "longest", "()I"⟩ prog_8_method_67_code 1 (Option.some FieldType.int) ∈ Tb := tb_of (i := 1382) (by decide +kernel) rfl
theorem kw_1386 : Cond.code ⟨"ColourDuelModel", "shortest", "()I"⟩ prog_8_method_68_code 1 (Option.some FieldType.int) ∈ Tb := tb_of (i := 1386) (by decide +kernel) rfl
theorem kw_1390 : Cond.code ⟨"ColourDuelModel", "meanValue", "()F"⟩ prog_8_method_69_code 4 (Option.some FieldType.float) ∈ Tb := tb_of (i := 1390) (by decide +kernel) rfl
theorem kw_1394 : Cond.code ⟨"ColourDuelModel", "falls", "(I)I"⟩ prog_8_method_70_code 2 (Option.some FieldType.int) ∈ Tb := tb_of (i := 1394) (by decide +kernel) rfl
theorem kw_1398 : Cond.code ⟨"ColourDuelModel", "valueWithout", "(I)I"⟩ prog_8_method_71_code 7 (Option.some FieldType.int) ∈ Tb := tb_of (i := 1398) (by decide +kernel) rfl
theorem kw_1402 : Cond.code ⟨"ColourDuelModel", "lay", "(II)I"⟩ prog_8_method_75_code 3 (Option.some FieldType.int) ∈ Tb := tb_of (i := 1402) (by decide +kernel) rfl
theorem kw_1406 : Cond.code ⟨"ColourDuelModel", "pass", "()I"⟩ prog_8_method_76_code 1 (Option.some FieldType.int) ∈ Tb := tb_of (i := 1406) (by decide +kernel) rfl
theorem kw_1410 : Cond.code ⟨"ColourDuelModel", "playOut", "(I)I"⟩ prog_8_method_77_code 4 (Option.some FieldType.int) ∈ Tb := tb_of (i := 1410) (by decide +kernel) rfl
theorem kw_1414 : Cond.code ⟨"ColourDuelModel", "setPasses", "(I)I"⟩ prog_8_method_78_code 3 (Option.some FieldType.int) ∈ Tb := tb_of (i := 1414) (by decide +kernel) rfl
theorem kw_1418 : Cond.code ⟨"ColourDuelModel", "move", "(II)I"⟩ prog_8_method_80_code 3 (Option.some FieldType.int) ∈ Tb := tb_of (i := 1418) (by decide +kernel) rfl
theorem kw_1419 : Cond.methodLink "ColourDuelModel" 272 ⟨"ColourDuelModel", "moved", "(II)I"⟩ ∈ Tb := tb_of (i := 1419) (by decide +kernel) rfl
theorem kw_1421 : Cond.instanceMethod ⟨"ColourDuelModel", "moved", "(II)I"⟩ ∈ Tb := tb_of (i := 1421) (by decide +kernel) rfl
theorem kw_1422 : Cond.code ⟨"ColourDuelModel", "moved", "(II)I"⟩ prog_8_method_79_code 4 (Option.some FieldType.int) ∈ Tb := tb_of (i := 1422) (by decide +kernel) rfl
theorem kw_1426 : Cond.code ⟨"ColourDuelModel", "account", "(II)I"⟩ prog_8_method_82_code 6 (Option.some FieldType.int) ∈ Tb := tb_of (i := 1426) (by decide +kernel) rfl
theorem kw_1427 : Cond.methodLink "ColourDuelModel" 275 ⟨"ColourDuelModel", "counts", "(II)Z"⟩ ∈ Tb := tb_of (i := 1427) (by decide +kernel) rfl
theorem kw_1429 : Cond.instanceMethod ⟨"ColourDuelModel", "counts", "(II)Z"⟩ ∈ Tb := tb_of (i := 1429) (by decide +kernel) rfl
theorem kw_1430 : Cond.code ⟨"ColourDuelModel", "counts", "(II)Z"⟩ prog_8_method_81_code 4 (Option.some FieldType.boolean) ∈ Tb := tb_of (i := 1430) (by decide +kernel) rfl
theorem kw_1434 : Cond.code ⟨"ColourDuelModel", "writeBoard", "()I"⟩ prog_8_method_84_code 2 (Option.some FieldType.int) ∈ Tb := tb_of (i := 1434) (by decide +kernel) rfl
theorem kw_1435 : Cond.methodLink "ColourDuelModel" 281 ⟨"ColourDuelModel", "says", "(I)V"⟩ ∈ Tb := tb_of (i := 1435) (by decide +kernel) rfl
theorem kw_1437 : Cond.instanceMethod ⟨"ColourDuelModel", "says", "(I)V"⟩ ∈ Tb := tb_of (i := 1437) (by decide +kernel) rfl
theorem kw_1438 : Cond.code ⟨"ColourDuelModel", "says", "(I)V"⟩ prog_8_method_83_code 2 (Option.none : Option FieldType) ∈ Tb := tb_of (i := 1438) (by decide +kernel) rfl
theorem kw_1442 : Cond.code ⟨"ColourDuelModel", "writtenByte", "(I)I"⟩ prog_8_method_85_code 2 (Option.some FieldType.int) ∈ Tb := tb_of (i := 1442) (by decide +kernel) rfl
theorem kw_1446 : Cond.code ⟨"ColourDuelModel", "save", "(I)I"⟩ prog_8_method_86_code 2 (Option.some FieldType.int) ∈ Tb := tb_of (i := 1446) (by decide +kernel) rfl
theorem kw_1450 : Cond.code ⟨"ColourDuelModel", "restore", "(I)I"⟩ prog_8_method_87_code 2 (Option.some FieldType.int) ∈ Tb := tb_of (i := 1450) (by decide +kernel) rfl
abbrev M_J6_bitCount : Mt := (yJ6_bitCount_0f7a4, cJ6_bitCount_0f7a4, 1, (some .int), [])
theorem K_J6_bitCount : KM M_J6_bitCount 1 := ⟨kw_285, kw_98, ⟨by decide, by decide, by decide +kernel⟩, by decide, by decide, rfl⟩
abbrev M_X5_errorPosition : Mt := (yX5_errorPosition, cX5_errorPosition, 1, (some .int), [])
theorem K_X5_errorPosition : KM M_X5_errorPosition 0 := ⟨kw_270, kw_82, ⟨by decide, by decide, by decide +kernel⟩, by decide, by decide, rfl⟩
abbrev M_X5_writtenByte : Mt := (yX5_writtenByte, cX5_writtenByte, 2, (some .int), [])
theorem K_X5_writtenByte : KM M_X5_writtenByte 1 := ⟨kw_995, kw_82, ⟨by decide, by decide, by decide +kernel⟩, by decide, by decide, rfl⟩
abbrev M_X5_write : Mt := (yX5_write, cX5_write, 2, none, [])
theorem K_X5_write : KM M_X5_write 1 := ⟨kw_442, kw_82, ⟨by decide, by decide, by decide +kernel⟩, by decide, by decide, rfl⟩
abbrev M_X5_has : Mt := (yX5_has, cX5_has, 2, (some .boolean), [])
theorem K_X5_has : KM M_X5_has 2 := ⟨kw_319, kw_82, ⟨by decide, by decide, by decide +kernel⟩, by decide, by decide, rfl⟩
abbrev M_X5_at : Mt := (yX5_at, cX5_at, 2, (some .int), [])
theorem K_X5_at : KM M_X5_at 2 := ⟨kw_303, kw_82, ⟨by decide, by decide, by decide +kernel⟩, by decide, by decide, rfl⟩
abbrev M_X5_add : Mt := (yX5_add, cX5_add, 3, none, [])
theorem K_X5_add : KM M_X5_add 3 := ⟨kw_118, kw_82, ⟨by decide, by decide, by decide +kernel⟩, by decide, by decide, rfl⟩
abbrev M_X5_copyRow : Mt := (yX5_copyRow, cX5_copyRow, 3, none, [])
theorem K_X5_copyRow : KM M_X5_copyRow 2 := ⟨kw_762, kw_82, ⟨by decide, by decide, by decide +kernel⟩, by decide, by decide, rfl⟩
abbrev M_X5_clearRow : Mt := (yX5_clearRow, cX5_clearRow, 2, none, [])
theorem K_X5_clearRow : KM M_X5_clearRow 1 := ⟨kw_645, kw_82, ⟨by decide, by decide, by decide +kernel⟩, by decide, by decide, rfl⟩
abbrev M_X5_answerOf : Mt := (yX5_answerOf, cX5_answerOf, 3, (some .int), [])
theorem K_X5_answerOf : KM M_X5_answerOf 3 := ⟨kw_360, kw_82, ⟨by decide, by decide, by decide +kernel⟩, by decide, by decide, rfl⟩
abbrev M_X5_valueIn : Mt := (yX5_valueIn, cX5_valueIn, 1, (some .int), [])
theorem K_X5_valueIn : KM M_X5_valueIn 1 := ⟨kw_341, kw_82, ⟨by decide, by decide, by decide +kernel⟩, by decide, by decide, rfl⟩
abbrev M_X5_longestIn : Mt := (yX5_longestIn, cX5_longestIn, 1, (some .int), [])
theorem K_X5_longestIn : KM M_X5_longestIn 1 := ⟨kw_344, kw_82, ⟨by decide, by decide, by decide +kernel⟩, by decide, by decide, rfl⟩
abbrev M_X5_shortestIn : Mt := (yX5_shortestIn, cX5_shortestIn, 1, (some .int), [])
theorem K_X5_shortestIn : KM M_X5_shortestIn 1 := ⟨kw_350, kw_82, ⟨by decide, by decide, by decide +kernel⟩, by decide, by decide, rfl⟩
abbrev M_X5_together : Mt := (yX5_together, cX5_together, 3, (some .int), [])
theorem K_X5_together : KM M_X5_together 2 := ⟨kw_338, kw_82, ⟨by decide, by decide, by decide +kernel⟩, by decide, by decide, rfl⟩
abbrev M_X6_init : Mt := (yX6_init, cX6_init, 1, none, [])
theorem K_X6_init : KM M_X6_init 0 := ⟨kw_1031, kw_87, ⟨by decide, by decide, by decide +kernel⟩, by decide, by decide, rfl⟩
abbrev M_X6_thrown : Mt := (yX6_thrown, cX6_thrown, 1, (some .int), [])
theorem K_X6_thrown : KM M_X6_thrown 0 := ⟨kw_1106, kw_87, ⟨by decide, by decide, by decide +kernel⟩, by decide, by decide, rfl⟩
abbrev M_X6_isIn : Mt := (yX6_isIn, cX6_isIn, 3, (some .boolean), [])
theorem K_X6_isIn : KM M_X6_isIn 3 := ⟨kw_1124, kw_87, ⟨by decide, by decide, by decide +kernel⟩, by decide, by decide, rfl⟩
abbrev M_X6_sets : Mt := (yX6_sets, cX6_sets, 5, none, [])
theorem K_X6_sets : KM M_X6_sets 4 := ⟨kw_1113, kw_87, ⟨by decide, by decide, by decide +kernel⟩, by decide, by decide, rfl⟩
abbrev M_X6_append : Mt := (yX6_append, cX6_append, 8, (some .int), [])
theorem K_X6_append : KM M_X6_append 5 := ⟨kw_1117, kw_87, ⟨by decide, by decide, by decide +kernel⟩, by decide, by decide, rfl⟩
abbrev M_X6_see : Mt := (yX6_see, cX6_see, 2, (some .int), [])
theorem K_X6_see : KM M_X6_see 1 := ⟨kw_1132, kw_87, ⟨by decide, by decide, by decide +kernel⟩, by decide, by decide, rfl⟩
abbrev M_X6_fails : Mt := (yX6_fails, cX6_fails, 2, none, [])
theorem K_X6_fails : KM M_X6_fails 1 := ⟨kw_1151, kw_87, ⟨by decide, by decide, by decide +kernel⟩, by decide, by decide, rfl⟩
abbrev M_X6_lettersHere : Mt := (yX6_lettersHere, cX6_lettersHere, 4, (some .int), [])
theorem K_X6_lettersHere : KM M_X6_lettersHere 0 := ⟨kw_1173, kw_87, ⟨by decide, by decide, by decide +kernel⟩, by decide, by decide, rfl⟩
abbrev M_X6_colouringsNext : Mt := (yX6_colouringsNext, cX6_colouringsNext, 3, (some .int), [])
theorem K_X6_colouringsNext : KM M_X6_colouringsNext 0 := ⟨kw_1169, kw_87, ⟨by decide, by decide, by decide +kernel⟩, by decide, by decide, rfl⟩
abbrev M_X6_errorPosition : Mt := (yX6_errorPosition, cX6_errorPosition, 1, (some .int), [])
theorem K_X6_errorPosition : KM M_X6_errorPosition 0 := ⟨kw_1262, kw_87, ⟨by decide, by decide, by decide +kernel⟩, by decide, by decide, rfl⟩
abbrev M_X6_areNext : Mt := (yX6_areNext, cX6_areNext, 3, (some .boolean), [])
theorem K_X6_areNext : KM M_X6_areNext 2 := ⟨kw_1182, kw_87, ⟨by decide, by decide, by decide +kernel⟩, by decide, by decide, rfl⟩
abbrev M_X6_colourOf : Mt := (yX6_colourOf, cX6_colourOf, 2, (some .int), [])
theorem K_X6_colourOf : KM M_X6_colourOf 1 := ⟨kw_1204, kw_87, ⟨by decide, by decide, by decide +kernel⟩, by decide, by decide, rfl⟩
abbrev M_X6_isFree : Mt := (yX6_isFree, cX6_isFree, 2, (some .boolean), [])
theorem K_X6_isFree : KM M_X6_isFree 1 := ⟨kw_1196, kw_87, ⟨by decide, by decide, by decide +kernel⟩, by decide, by decide, rfl⟩
abbrev M_X6_bits : Mt := (yX6_bits, cX6_bits, 3, (some .int), [])
theorem K_X6_bits : KM M_X6_bits 1 := ⟨kw_1227, kw_87, ⟨by decide, by decide, by decide +kernel⟩, by decide, by decide, rfl⟩
abbrev M_X6_lowest : Mt := (yX6_lowest, cX6_lowest, 2, (some .int), [])
theorem K_X6_lowest : KM M_X6_lowest 1 := ⟨kw_1238, kw_87, ⟨by decide, by decide, by decide +kernel⟩, by decide, by decide, rfl⟩
abbrev M_X6_reached : Mt := (yX6_reached, cX6_reached, 6, (some .int), [])
theorem K_X6_reached : KM M_X6_reached 2 := ⟨kw_1216, kw_87, ⟨by decide, by decide, by decide +kernel⟩, by decide, by decide, rfl⟩
abbrev M_X6_banOf : Mt := (yX6_banOf, cX6_banOf, 2, (some .int), [])
theorem K_X6_banOf : KM M_X6_banOf 1 := ⟨kw_1220, kw_87, ⟨by decide, by decide, by decide +kernel⟩, by decide, by decide, rfl⟩
abbrev M_X6_turn : Mt := (yX6_turn, cX6_turn, 1, (some .int), [])
theorem K_X6_turn : KM M_X6_turn 0 := ⟨kw_1246, kw_87, ⟨by decide, by decide, by decide +kernel⟩, by decide, by decide, rfl⟩
abbrev M_X6_forgets : Mt := (yX6_forgets, cX6_forgets, 2, none, [])
theorem K_X6_forgets : KM M_X6_forgets 0 := ⟨kw_1322, kw_87, ⟨by decide, by decide, by decide +kernel⟩, by decide, by decide, rfl⟩
abbrev M_X6_moved : Mt := (yX6_moved, cX6_moved, 4, (some .int), [])
theorem K_X6_moved : KM M_X6_moved 2 := ⟨kw_1422, kw_87, ⟨by decide, by decide, by decide +kernel⟩, by decide, by decide, rfl⟩
abbrev M_X6_says : Mt := (yX6_says, cX6_says, 2, none, [])
theorem K_X6_says : KM M_X6_says 1 := ⟨kw_1438, kw_87, ⟨by decide, by decide, by decide +kernel⟩, by decide, by decide, rfl⟩
abbrev M_X0_isFull : Mt := (yX0_isFull, cX0_isFull, 3, (some .boolean), [])
theorem K_X0_isFull : KM M_X0_isFull 0 := ⟨kw_663, kw_83, ⟨by decide, by decide, by decide +kernel⟩, by decide, by decide, rfl⟩
abbrev M_X0_hasVertex : Mt := (yX0_hasVertex, cX0_hasVertex, 2, (some .boolean), [])
theorem K_X0_hasVertex : KM M_X0_hasVertex 1 := ⟨kw_805, kw_83, ⟨by decide, by decide, by decide +kernel⟩, by decide, by decide, rfl⟩
abbrev M_X0_everyVertex : Mt := (yX0_everyVertex, cX0_everyVertex, 1, (some .int), [])
theorem K_X0_everyVertex : KM M_X0_everyVertex 0 := ⟨kw_774, kw_83, ⟨by decide, by decide, by decide +kernel⟩, by decide, by decide, rfl⟩
abbrev M_X0_everyColour : Mt := (yX0_everyColour, cX0_everyColour, 1, (some .int), [])
theorem K_X0_everyColour : KM M_X0_everyColour 0 := ⟨kw_667, kw_83, ⟨by decide, by decide, by decide +kernel⟩, by decide, by decide, rfl⟩
abbrev M_X0_neighbours : Mt := (yX0_neighbours, cX0_neighbours, 2, (some .int), [])
theorem K_X0_neighbours : KM M_X0_neighbours 1 := ⟨kw_327, kw_83, ⟨by decide, by decide, by decide +kernel⟩, by decide, by decide, rfl⟩
abbrev M_X0_banOf : Mt := (yX0_banOf, cX0_banOf, 3, (some .int), [])
theorem K_X0_banOf : KM M_X0_banOf 1 := ⟨kw_296, kw_83, ⟨by decide, by decide, by decide +kernel⟩, by decide, by decide, rfl⟩
abbrev M_X0_turn : Mt := (yX0_turn, cX0_turn, 1, (some .int), [])
theorem K_X0_turn : KM M_X0_turn 0 := ⟨kw_446, kw_83, ⟨by decide, by decide, by decide +kernel⟩, by decide, by decide, rfl⟩
abbrev M_X0_passValue : Mt := (yX0_passValue, cX0_passValue, 1, (some .int), [])
theorem K_X0_passValue : KM M_X0_passValue 0 := ⟨kw_365, kw_83, ⟨by decide, by decide, by decide +kernel⟩, by decide, by decide, rfl⟩
abbrev M_X0_moveAt : Mt := (yX0_moveAt, cX0_moveAt, 4, (some (.object "ColourDuel$Move")), [])
theorem K_X0_moveAt : KM M_X0_moveAt 1 := ⟨kw_965, kw_83, ⟨by decide, by decide, by decide +kernel⟩, by decide, by decide, rfl⟩
abbrev M_X0_coloursLaidBy : Mt := (yX0_coloursLaidBy, cX0_coloursLaidBy, 5, (some .int), [])
theorem K_X0_coloursLaidBy : KM M_X0_coloursLaidBy 1 := ⟨kw_980, kw_83, ⟨by decide, by decide, by decide +kernel⟩, by decide, by decide, rfl⟩
abbrev M_X1_init : Mt := (yX1_init, cX1_init, 1, none, [])
theorem K_X1_init : KM M_X1_init 0 := ⟨kw_227, kw_86, ⟨by decide, by decide, by decide +kernel⟩, by decide, by decide, rfl⟩
abbrev M_X2_init : Mt := (yX2_init, cX2_init, 6, none, [])
theorem K_X2_init : KM M_X2_init 5 := ⟨kw_714, kw_99, ⟨by decide, by decide, by decide +kernel⟩, by decide, by decide, rfl⟩
abbrev M_X2_countsAs : Mt := (yX2_countsAs, cX2_countsAs, 2, (some .boolean), [])
theorem K_X2_countsAs : KM M_X2_countsAs 1 := ⟨kw_988, kw_99, ⟨by decide, by decide, by decide +kernel⟩, by decide, by decide, rfl⟩
abbrev M_X3_init : Mt := (yX3_init, cX3_init, 2, none, [])
theorem K_X3_init : KM M_X3_init 1 := ⟨kw_186, kw_85, ⟨by decide, by decide, by decide +kernel⟩, by decide, by decide, rfl⟩
abbrev M_X3_addFour : Mt := (yX3_addFour, cX3_addFour, 3, none, [])
theorem K_X3_addFour : KM M_X3_addFour 1 := ⟨kw_526, kw_85, ⟨by decide, by decide, by decide +kernel⟩, by decide, by decide, rfl⟩
abbrev M_X3_byteAt : Mt := (yX3_byteAt, cX3_byteAt, 3, (some .int), [])
theorem K_X3_byteAt : KM M_X3_byteAt 1 := ⟨kw_562, kw_85, ⟨by decide, by decide, by decide +kernel⟩, by decide, by decide, rfl⟩
abbrev M_X3_isLetter : Mt := (yX3_isLetter, cX3_isLetter, 1, (some .boolean), [])
theorem K_X3_isLetter : KM M_X3_isLetter 1 := ⟨kw_565, kw_85, ⟨by decide, by decide, by decide +kernel⟩, by decide, by decide, rfl⟩
abbrev M_X3_isDigit : Mt := (yX3_isDigit, cX3_isDigit, 1, (some .boolean), [])
theorem K_X3_isDigit : KM M_X3_isDigit 1 := ⟨kw_568, kw_85, ⟨by decide, by decide, by decide +kernel⟩, by decide, by decide, rfl⟩
abbrev M_X3_fail : Mt := (yX3_fail, cX3_fail, 2, (some .boolean), [])
theorem K_X3_fail : KM M_X3_fail 1 := ⟨kw_634, kw_85, ⟨by decide, by decide, by decide +kernel⟩, by decide, by decide, rfl⟩
abbrev M_X4_init : Mt := (yX4_init, cX4_init, 2, none, [])
theorem K_X4_init : KM M_X4_init 1 := ⟨kw_168, kw_84, ⟨by decide, by decide, by decide +kernel⟩, by decide, by decide, rfl⟩
abbrev M_X4_setShift : Mt := (yX4_setShift, cX4_setShift, 1, (some .int), [])
theorem K_X4_setShift : KM M_X4_setShift 1 := ⟨kw_306, kw_84, ⟨by decide, by decide, by decide +kernel⟩, by decide, by decide, rfl⟩
abbrev M_X5_append : Mt := (yX5_append, cX5_append, 6, (some .int), [])
theorem K_X5_append : KM M_X5_append 5 := ⟨kw_454, kw_82, ⟨by decide, by decide, by decide +kernel⟩, by decide, by decide, rfl⟩
abbrev M_X5_move : Mt := (yX5_move, cX5_move, 4, (some .int), [])
theorem K_X5_move : KM M_X5_move 2 := ⟨kw_961, kw_82, ⟨by decide, by decide, by decide +kernel⟩, by decide, by decide, rfl⟩
abbrev M_X5_least : Mt := (yX5_least, cX5_least, 1, (some .int), [])
theorem K_X5_least : KM M_X5_least 1 := ⟨kw_356, kw_82, ⟨by decide, by decide, by decide +kernel⟩, by decide, by decide, rfl⟩
abbrev M_X6_keeps : Mt := (yX6_keeps, cX6_keeps, 2, none, [])
theorem K_X6_keeps : KM M_X6_keeps 0 := ⟨kw_1258, kw_87, ⟨by decide, by decide, by decide +kernel⟩, by decide, by decide, rfl⟩
abbrev M_X6_undo : Mt := (yX6_undo, cX6_undo, 1, (some .int), [])
theorem K_X6_undo : KM M_X6_undo 0 := ⟨kw_1110, kw_87, ⟨by decide, by decide, by decide +kernel⟩, by decide, by decide, rfl⟩
abbrev M_X6_next : Mt := (yX6_next, cX6_next, 1, none, [])
theorem K_X6_next : KM M_X6_next 0 := ⟨kw_1128, kw_87, ⟨by decide, by decide, by decide +kernel⟩, by decide, by decide, rfl⟩
abbrev M_X6_freeSet : Mt := (yX6_freeSet, cX6_freeSet, 3, (some .int), [])
theorem K_X6_freeSet : KM M_X6_freeSet 0 := ⟨kw_1212, kw_87, ⟨by decide, by decide, by decide +kernel⟩, by decide, by decide, rfl⟩
abbrev M_X6_partsIn : Mt := (yX6_partsIn, cX6_partsIn, 4, (some .int), [])
theorem K_X6_partsIn : KM M_X6_partsIn 1 := ⟨kw_1235, kw_87, ⟨by decide, by decide, by decide +kernel⟩, by decide, by decide, rfl⟩
abbrev M_X6_around : Mt := (yX6_around, cX6_around, 4, (some .int), [])
theorem K_X6_around : KM M_X6_around 1 := ⟨kw_1200, kw_87, ⟨by decide, by decide, by decide +kernel⟩, by decide, by decide, rfl⟩
abbrev M_X6_edgesIn : Mt := (yX6_edgesIn, cX6_edgesIn, 4, (some .int), [])
theorem K_X6_edgesIn : KM M_X6_edgesIn 1 := ⟨kw_1270, kw_87, ⟨by decide, by decide, by decide +kernel⟩, by decide, by decide, rfl⟩
abbrev M_X6_isVertex : Mt := (yX6_isVertex, cX6_isVertex, 2, (some .boolean), [])
theorem K_X6_isVertex : KM M_X6_isVertex 1 := ⟨kw_1290, kw_87, ⟨by decide, by decide, by decide +kernel⟩, by decide, by decide, rfl⟩
abbrev M_X6_isColour : Mt := (yX6_isColour, cX6_isColour, 2, (some .boolean), [])
theorem K_X6_isColour : KM M_X6_isColour 1 := ⟨kw_1302, kw_87, ⟨by decide, by decide, by decide +kernel⟩, by decide, by decide, rfl⟩
abbrev M_X6_placeOf : Mt := (yX6_placeOf, cX6_placeOf, 7, (some .int), [])
theorem K_X6_placeOf : KM M_X6_placeOf 2 := ⟨kw_1330, kw_87, ⟨by decide, by decide, by decide +kernel⟩, by decide, by decide, rfl⟩
abbrev M_X6_move : Mt := (yX6_move, cX6_move, 3, (some .int), [])
theorem K_X6_move : KM M_X6_move 2 := ⟨kw_1418, kw_87, ⟨by decide, by decide, by decide +kernel⟩, by decide, by decide, rfl⟩
abbrev M_X6_counts : Mt := (yX6_counts, cX6_counts, 4, (some .boolean), [])
theorem K_X6_counts : KM M_X6_counts 2 := ⟨kw_1430, kw_87, ⟨by decide, by decide, by decide +kernel⟩, by decide, by decide, rfl⟩
abbrev M_X6_writeBoard : Mt := (yX6_writeBoard, cX6_writeBoard, 2, (some .int), [])
theorem K_X6_writeBoard : KM M_X6_writeBoard 0 := ⟨kw_1434, kw_87, ⟨by decide, by decide, by decide +kernel⟩, by decide, by decide, rfl⟩
abbrev M_X6_writtenByte : Mt := (yX6_writtenByte, cX6_writtenByte, 2, (some .int), [])
theorem K_X6_writtenByte : KM M_X6_writtenByte 1 := ⟨kw_1442, kw_87, ⟨by decide, by decide, by decide +kernel⟩, by decide, by decide, rfl⟩
abbrev M_X6_save : Mt := (yX6_save, cX6_save, 2, (some .int), [])
theorem K_X6_save : KM M_X6_save 1 := ⟨kw_1446, kw_87, ⟨by decide, by decide, by decide +kernel⟩, by decide, by decide, rfl⟩
abbrev M_X0_init : Mt := (yX0_init, cX0_init, 1, none, [])
theorem K_X0_init : KM M_X0_init 0 := ⟨kw_114, kw_83, ⟨by decide, by decide, by decide +kernel⟩, by decide, by decide, rfl⟩
abbrev M_X0_takeFrom : Mt := (yX0_takeFrom, cX0_takeFrom, 2, none, [])
theorem K_X0_takeFrom : KM M_X0_takeFrom 1 := ⟨kw_759, kw_83, ⟨by decide, by decide, by decide +kernel⟩, by decide, by decide, rfl⟩
abbrev M_X0_startEmpty : Mt := (yX0_startEmpty, cX0_startEmpty, 2, none, [])
theorem K_X0_startEmpty : KM M_X0_startEmpty 1 := ⟨kw_642, kw_83, ⟨by decide, by decide, by decide +kernel⟩, by decide, by decide, rfl⟩
abbrev M_X0_addVertex : Mt := (yX0_addVertex, cX0_addVertex, 4, none, [])
theorem K_X0_addVertex : KM M_X0_addVertex 1 := ⟨kw_676, kw_83, ⟨by decide, by decide, by decide +kernel⟩, by decide, by decide, rfl⟩
abbrev M_X0_addEdge : Mt := (yX0_addEdge, cX0_addEdge, 3, none, [])
theorem K_X0_addEdge : KM M_X0_addEdge 2 := ⟨kw_690, kw_83, ⟨by decide, by decide, by decide +kernel⟩, by decide, by decide, rfl⟩
abbrev M_X0_hasPair : Mt := (yX0_hasPair, cX0_hasPair, 3, (some .boolean), [])
theorem K_X0_hasPair : KM M_X0_hasPair 2 := ⟨kw_843, kw_83, ⟨by decide, by decide, by decide +kernel⟩, by decide, by decide, rfl⟩
abbrev M_X0_edgesIn : Mt := (yX0_edgesIn, cX0_edgesIn, 4, (some .int), [])
theorem K_X0_edgesIn : KM M_X0_edgesIn 1 := ⟨kw_778, kw_83, ⟨by decide, by decide, by decide +kernel⟩, by decide, by decide, rfl⟩
abbrev M_X0_coloursAt : Mt := (yX0_coloursAt, cX0_coloursAt, 5, (some .int), [])
theorem K_X0_coloursAt : KM M_X0_coloursAt 2 := ⟨kw_437, kw_83, ⟨by decide, by decide, by decide +kernel⟩, by decide, by decide, rfl⟩
abbrev M_X0_isFree : Mt := (yX0_isFree, cX0_isFree, 2, (some .boolean), [])
theorem K_X0_isFree : KM M_X0_isFree 1 := ⟨kw_389, kw_83, ⟨by decide, by decide, by decide +kernel⟩, by decide, by decide, rfl⟩
abbrev M_X0_reachable : Mt := (yX0_reachable, cX0_reachable, 9, (some .int), [])
theorem K_X0_reachable : KM M_X0_reachable 2 := ⟨kw_282, kw_83, ⟨by decide, by decide, by decide +kernel⟩, by decide, by decide, rfl⟩
abbrev M_X0_openTo : Mt := (yX0_openTo, cX0_openTo, 4, (some .int), [])
theorem K_X0_openTo : KM M_X0_openTo 1 := ⟨kw_300, kw_83, ⟨by decide, by decide, by decide +kernel⟩, by decide, by decide, rfl⟩
abbrev M_X0_movesBy : Mt := (yX0_movesBy, cX0_movesBy, 6, (some .int), [])
theorem K_X0_movesBy : KM M_X0_movesBy 2 := ⟨kw_984, kw_83, ⟨by decide, by decide, by decide +kernel⟩, by decide, by decide, rfl⟩
abbrev M_X3_readEnd : Mt := (yX3_readEnd, cX3_readEnd, 1, (some .boolean), [])
theorem K_X3_readEnd : KM M_X3_readEnd 0 := ⟨kw_748, kw_85, ⟨by decide, by decide, by decide +kernel⟩, by decide, by decide, rfl⟩
abbrev M_X3_listHere : Mt := (yX3_listHere, cX3_listHere, 4, (some .int), [])
theorem K_X3_listHere : KM M_X3_listHere 0 := ⟨kw_671, kw_85, ⟨by decide, by decide, by decide +kernel⟩, by decide, by decide, rfl⟩
abbrev M_X3_advance : Mt := (yX3_advance, cX3_advance, 2, none, [])
theorem K_X3_advance : KM M_X3_advance 0 := ⟨kw_558, kw_85, ⟨by decide, by decide, by decide +kernel⟩, by decide, by decide, rfl⟩
abbrev M_X4_behind : Mt := (yX4_behind, cX4_behind, 7, (some .long), [])
theorem K_X4_behind : KM M_X4_behind 3 := ⟨kw_323, kw_84, ⟨by decide, by decide, by decide +kernel⟩, by decide, by decide, rfl⟩
abbrev M_X5_init : Mt := (yX5_init, cX5_init, 1, none, [])
theorem K_X5_init : KM M_X5_init 0 := ⟨kw_106, kw_82, ⟨by decide, by decide, by decide +kernel⟩, by decide, by decide, rfl⟩
abbrev M_X5_account : Mt := (yX5_account, cX5_account, 3, (some .int), [])
theorem K_X5_account : KM M_X5_account 2 := ⟨kw_974, kw_82, ⟨by decide, by decide, by decide +kernel⟩, by decide, by decide, rfl⟩
abbrev M_X5_keepCopy : Mt := (yX5_keepCopy, cX5_keepCopy, 4, none, [])
theorem K_X5_keepCopy : KM M_X5_keepCopy 3 := ⟨kw_755, kw_82, ⟨by decide, by decide, by decide +kernel⟩, by decide, by decide, rfl⟩
abbrev M_X6_must : Mt := (yX6_must, cX6_must, 2, none, [])
theorem K_X6_must : KM M_X6_must 1 := ⟨kw_1147, kw_87, ⟨by decide, by decide, by decide +kernel⟩, by decide, by decide, rfl⟩
abbrev M_X6_takes : Mt := (yX6_takes, cX6_takes, 4, (some .int), [])
theorem K_X6_takes : KM M_X6_takes 2 := ⟨kw_1155, kw_87, ⟨by decide, by decide, by decide +kernel⟩, by decide, by decide, rfl⟩
abbrev M_X6_partSet : Mt := (yX6_partSet, cX6_partSet, 5, (some .int), [])
theorem K_X6_partSet : KM M_X6_partSet 1 := ⟨kw_1310, kw_87, ⟨by decide, by decide, by decide +kernel⟩, by decide, by decide, rfl⟩
abbrev M_X6_partOf : Mt := (yX6_partOf, cX6_partOf, 5, (some .int), [])
theorem K_X6_partOf : KM M_X6_partOf 1 := ⟨kw_1294, kw_87, ⟨by decide, by decide, by decide +kernel⟩, by decide, by decide, rfl⟩
abbrev M_X6_canLay : Mt := (yX6_canLay, cX6_canLay, 5, (some .int), [])
theorem K_X6_canLay : KM M_X6_canLay 3 := ⟨kw_1224, kw_87, ⟨by decide, by decide, by decide +kernel⟩, by decide, by decide, rfl⟩
abbrev M_X6_falls : Mt := (yX6_falls, cX6_falls, 2, (some .int), [])
theorem K_X6_falls : KM M_X6_falls 1 := ⟨kw_1394, kw_87, ⟨by decide, by decide, by decide +kernel⟩, by decide, by decide, rfl⟩
abbrev M_X6_notes : Mt := (yX6_notes, cX6_notes, 5, none, [])
theorem K_X6_notes : KM M_X6_notes 3 := ⟨kw_1242, kw_87, ⟨by decide, by decide, by decide +kernel⟩, by decide, by decide, rfl⟩
abbrev M_X6_setPasses : Mt := (yX6_setPasses, cX6_setPasses, 3, (some .int), [])
theorem K_X6_setPasses : KM M_X6_setPasses 1 := ⟨kw_1414, kw_87, ⟨by decide, by decide, by decide +kernel⟩, by decide, by decide, rfl⟩
abbrev M_X6_account : Mt := (yX6_account, cX6_account, 6, (some .int), [])
theorem K_X6_account : KM M_X6_account 2 := ⟨kw_1426, kw_87, ⟨by decide, by decide, by decide +kernel⟩, by decide, by decide, rfl⟩
abbrev M_X6_restore : Mt := (yX6_restore, cX6_restore, 2, (some .int), [])
theorem K_X6_restore : KM M_X6_restore 1 := ⟨kw_1450, kw_87, ⟨by decide, by decide, by decide +kernel⟩, by decide, by decide, rfl⟩
abbrev M_X0_listOf : Mt := (yX0_listOf, cX0_listOf, 2, (some .int), [])
theorem K_X0_listOf : KM M_X0_listOf 1 := ⟨kw_825, kw_83, ⟨by decide, by decide, by decide +kernel⟩, by decide, by decide, rfl⟩
abbrev M_X0_partWith : Mt := (yX0_partWith, cX0_partWith, 2, (some .int), [])
theorem K_X0_partWith : KM M_X0_partWith 1 := ⟨kw_400, kw_83, ⟨by decide, by decide, by decide +kernel⟩, by decide, by decide, rfl⟩
abbrev M_X0_partsIn : Mt := (yX0_partsIn, cX0_partsIn, 4, (some .int), [])
theorem K_X0_partsIn : KM M_X0_partsIn 1 := ⟨kw_420, kw_83, ⟨by decide, by decide, by decide +kernel⟩, by decide, by decide, rfl⟩
abbrev M_X0_partAt : Mt := (yX0_partAt, cX0_partAt, 4, (some .int), [])
theorem K_X0_partAt : KM M_X0_partAt 1 := ⟨kw_424, kw_83, ⟨by decide, by decide, by decide +kernel⟩, by decide, by decide, rfl⟩
abbrev M_X0_colourOf : Mt := (yX0_colourOf, cX0_colourOf, 3, (some .int), [])
theorem K_X0_colourOf : KM M_X0_colourOf 1 := ⟨kw_433, kw_83, ⟨by decide, by decide, by decide +kernel⟩, by decide, by decide, rfl⟩
abbrev M_X0_whyNot : Mt := (yX0_whyNot, cX0_whyNot, 4, (some .int), [])
theorem K_X0_whyNot : KM M_X0_whyNot 2 := ⟨kw_385, kw_83, ⟨by decide, by decide, by decide +kernel⟩, by decide, by decide, rfl⟩
abbrev M_X1_bringBack : Mt := (yX1_bringBack, cX1_bringBack, 3, none, [])
theorem K_X1_bringBack : KM M_X1_bringBack 1 := ⟨kw_1008, kw_86, ⟨by decide, by decide, by decide +kernel⟩, by decide, by decide, rfl⟩
abbrev M_X3_readNumber : Mt := (yX3_readNumber, cX3_readNumber, 4, (some .int), [])
theorem K_X3_readNumber : KM M_X3_readNumber 2 := ⟨kw_638, kw_85, ⟨by decide, by decide, by decide +kernel⟩, by decide, by decide, rfl⟩
abbrev M_X3_readSemicolon : Mt := (yX3_readSemicolon, cX3_readSemicolon, 1, (some .boolean), [])
theorem K_X3_readSemicolon : KM M_X3_readSemicolon 0 := ⟨kw_650, kw_85, ⟨by decide, by decide, by decide +kernel⟩, by decide, by decide, rfl⟩
abbrev M_X4_placeOf : Mt := (yX4_placeOf, cX4_placeOf, 5, (some .long), [])
theorem K_X4_placeOf : KM M_X4_placeOf 1 := ⟨kw_292, kw_84, ⟨by decide, by decide, by decide +kernel⟩, by decide, by decide, rfl⟩
abbrev M_X4_ofPieces : Mt := (yX4_ofPieces, cX4_ofPieces, 10, (some .int), [])
theorem K_X4_ofPieces : KM M_X4_ofPieces 2 := ⟨kw_334, kw_84, ⟨by decide, by decide, by decide +kernel⟩, by decide, by decide, rfl⟩
abbrev M_X4_workOut : Mt := (yX4_workOut, cX4_workOut, 14, (some .int), [])
theorem K_X4_workOut : KM M_X4_workOut 2 := ⟨kw_315, kw_84, ⟨by decide, by decide, by decide +kernel⟩, by decide, by decide, rfl⟩
abbrev M_X4_ofPlace : Mt := (yX4_ofPlace, cX4_ofPlace, 6, (some .int), [])
theorem K_X4_ofPlace : KM M_X4_ofPlace 2 := ⟨kw_310, kw_84, ⟨by decide, by decide, by decide +kernel⟩, by decide, by decide, rfl⟩
abbrev M_X5_reason : Mt := (yX5_reason, cX5_reason, 3, (some .int), [])
theorem K_X5_reason : KM M_X5_reason 2 := ⟨kw_839, kw_82, ⟨by decide, by decide, by decide +kernel⟩, by decide, by decide, rfl⟩
abbrev M_X5_falls : Mt := (yX5_falls, cX5_falls, 2, (some .int), [])
theorem K_X5_falls : KM M_X5_falls 1 := ⟨kw_908, kw_82, ⟨by decide, by decide, by decide +kernel⟩, by decide, by decide, rfl⟩
abbrev M_X5_writeBoard : Mt := (yX5_writeBoard, cX5_writeBoard, 2, (some .int), [])
theorem K_X5_writeBoard : KM M_X5_writeBoard 0 := ⟨kw_428, kw_82, ⟨by decide, by decide, by decide +kernel⟩, by decide, by decide, rfl⟩
abbrev M_X5_undo : Mt := (yX5_undo, cX5_undo, 1, (some .int), [])
theorem K_X5_undo : KM M_X5_undo 0 := ⟨kw_1003, kw_82, ⟨by decide, by decide, by decide +kernel⟩, by decide, by decide, rfl⟩
abbrev M_X5_save : Mt := (yX5_save, cX5_save, 2, (some .int), [])
theorem K_X5_save : KM M_X5_save 1 := ⟨kw_1016, kw_82, ⟨by decide, by decide, by decide +kernel⟩, by decide, by decide, rfl⟩
abbrev M_X6_mustEnd : Mt := (yX6_mustEnd, cX6_mustEnd, 1, none, [])
theorem K_X6_mustEnd : KM M_X6_mustEnd 0 := ⟨kw_1160, kw_87, ⟨by decide, by decide, by decide +kernel⟩, by decide, by decide, rfl⟩
abbrev M_X6_colours : Mt := (yX6_colours, cX6_colours, 2, (some .int), [])
theorem K_X6_colours : KM M_X6_colours 1 := ⟨kw_1208, kw_87, ⟨by decide, by decide, by decide +kernel⟩, by decide, by decide, rfl⟩
abbrev M_X6_lays : Mt := (yX6_lays, cX6_lays, 5, none, [])
theorem K_X6_lays : KM M_X6_lays 2 := ⟨kw_1231, kw_87, ⟨by decide, by decide, by decide +kernel⟩, by decide, by decide, rfl⟩
abbrev M_X6_passes : Mt := (yX6_passes, cX6_passes, 1, none, [])
theorem K_X6_passes : KM M_X6_passes 0 := ⟨kw_1254, kw_87, ⟨by decide, by decide, by decide +kernel⟩, by decide, by decide, rfl⟩
abbrev M_X0_partNumberOf : Mt := (yX0_partNumberOf, cX0_partNumberOf, 3, (some .int), [])
theorem K_X0_partNumberOf : KM M_X0_partNumberOf 1 := ⟨kw_830, kw_83, ⟨by decide, by decide, by decide +kernel⟩, by decide, by decide, rfl⟩
abbrev M_X0_choicesOn : Mt := (yX0_choicesOn, cX0_choicesOn, 4, (some .int), [])
theorem K_X0_choicesOn : KM M_X0_choicesOn 1 := ⟨kw_381, kw_83, ⟨by decide, by decide, by decide +kernel⟩, by decide, by decide, rfl⟩
abbrev M_X0_paint : Mt := (yX0_paint, cX0_paint, 5, none, [])
theorem K_X0_paint : KM M_X0_paint 2 := ⟨kw_707, kw_83, ⟨by decide, by decide, by decide +kernel⟩, by decide, by decide, rfl⟩
abbrev M_X0_spendPass : Mt := (yX0_spendPass, cX0_spendPass, 1, none, [])
theorem K_X0_spendPass : KM M_X0_spendPass 0 := ⟨kw_744, kw_83, ⟨by decide, by decide, by decide +kernel⟩, by decide, by decide, rfl⟩
abbrev M_X1_keep : Mt := (yX1_keep, cX1_keep, 2, none, [])
theorem K_X1_keep : KM M_X1_keep 1 := ⟨kw_752, kw_86, ⟨by decide, by decide, by decide +kernel⟩, by decide, by decide, rfl⟩
abbrev M_X6_together : Mt := (yX6_together, cX6_together, 9, (some .int), [])
theorem K_X6_together : KM M_X6_together 2 := ⟨kw_1334, kw_87, ⟨by decide, by decide, by decide +kernel⟩, by decide, by decide, rfl⟩
abbrev M_X6_knownOf : Mt := (yX6_knownOf, cX6_knownOf, 13, (some .int), [])
theorem K_X6_knownOf : KM M_X6_knownOf 2 := ⟨kw_1326, kw_87, ⟨by decide, by decide, by decide +kernel⟩, by decide, by decide, rfl⟩
abbrev M_X5_vertex : Mt := (yX5_vertex, cX5_vertex, 3, (some .int), [])
theorem K_X5_vertex : KM M_X5_vertex 2 := ⟨kw_801, kw_82, ⟨by decide, by decide, by decide +kernel⟩, by decide, by decide, rfl⟩
abbrev M_X5_lay : Mt := (yX5_lay, cX5_lay, 3, (some .int), [])
theorem K_X5_lay : KM M_X5_lay 2 := ⟨kw_928, kw_82, ⟨by decide, by decide, by decide +kernel⟩, by decide, by decide, rfl⟩
abbrev M_X5_pass : Mt := (yX5_pass, cX5_pass, 1, (some .int), [])
theorem K_X5_pass : KM M_X5_pass 0 := ⟨kw_936, kw_82, ⟨by decide, by decide, by decide +kernel⟩, by decide, by decide, rfl⟩
abbrev M_X5_setPasses : Mt := (yX5_setPasses, cX5_setPasses, 3, (some .int), [])
theorem K_X5_setPasses : KM M_X5_setPasses 1 := ⟨kw_953, kw_82, ⟨by decide, by decide, by decide +kernel⟩, by decide, by decide, rfl⟩
abbrev M_X5_restore : Mt := (yX5_restore, cX5_restore, 3, (some .int), [])
theorem K_X5_restore : KM M_X5_restore 1 := ⟨kw_1025, kw_82, ⟨by decide, by decide, by decide +kernel⟩, by decide, by decide, rfl⟩
abbrev M_X6_readsVertex : Mt := (yX6_readsVertex, cX6_readsVertex, 2, none, [])
theorem K_X6_readsVertex : KM M_X6_readsVertex 0 := ⟨kw_1165, kw_87, ⟨by decide, by decide, by decide +kernel⟩, by decide, by decide, rfl⟩
abbrev M_X6_readsEdge : Mt := (yX6_readsEdge, cX6_readsEdge, 3, none, [])
theorem K_X6_readsEdge : KM M_X6_readsEdge 0 := ⟨kw_1178, kw_87, ⟨by decide, by decide, by decide +kernel⟩, by decide, by decide, rfl⟩
abbrev M_X6_readsPass : Mt := (yX6_readsPass, cX6_readsPass, 1, none, [])
theorem K_X6_readsPass : KM M_X6_readsPass 0 := ⟨kw_1250, kw_87, ⟨by decide, by decide, by decide +kernel⟩, by decide, by decide, rfl⟩
abbrev M_X6_whyNot : Mt := (yX6_whyNot, cX6_whyNot, 3, (some .int), [])
theorem K_X6_whyNot : KM M_X6_whyNot 2 := ⟨kw_1192, kw_87, ⟨by decide, by decide, by decide +kernel⟩, by decide, by decide, rfl⟩
abbrev M_X6_pairs : Mt := (yX6_pairs, cX6_pairs, 3, (some .int), [])
theorem K_X6_pairs : KM M_X6_pairs 0 := ⟨kw_1278, kw_87, ⟨by decide, by decide, by decide +kernel⟩, by decide, by decide, rfl⟩
abbrev M_X6_stuck : Mt := (yX6_stuck, cX6_stuck, 3, (some .int), [])
theorem K_X6_stuck : KM M_X6_stuck 0 := ⟨kw_1282, kw_87, ⟨by decide, by decide, by decide +kernel⟩, by decide, by decide, rfl⟩
abbrev M_X6_vertex : Mt := (yX6_vertex, cX6_vertex, 3, (some .int), [])
theorem K_X6_vertex : KM M_X6_vertex 2 := ⟨kw_1286, kw_87, ⟨by decide, by decide, by decide +kernel⟩, by decide, by decide, rfl⟩
abbrev M_X6_pairsIn : Mt := (yX6_pairsIn, cX6_pairsIn, 4, (some .int), [])
theorem K_X6_pairsIn : KM M_X6_pairsIn 1 := ⟨kw_1314, kw_87, ⟨by decide, by decide, by decide +kernel⟩, by decide, by decide, rfl⟩
abbrev M_X6_pass : Mt := (yX6_pass, cX6_pass, 1, (some .int), [])
theorem K_X6_pass : KM M_X6_pass 0 := ⟨kw_1406, kw_87, ⟨by decide, by decide, by decide +kernel⟩, by decide, by decide, rfl⟩
abbrev M_X0_choicesIn : Mt := (yX0_choicesIn, cX0_choicesIn, 4, (some .int), [])
theorem K_X0_choicesIn : KM M_X0_choicesIn 1 := ⟨kw_786, kw_83, ⟨by decide, by decide, by decide +kernel⟩, by decide, by decide, rfl⟩
abbrev M_X0_stuckVertices : Mt := (yX0_stuckVertices, cX0_stuckVertices, 3, (some .int), [])
theorem K_X0_stuckVertices : KM M_X0_stuckVertices 0 := ⟨kw_792, kw_83, ⟨by decide, by decide, by decide +kernel⟩, by decide, by decide, rfl⟩
abbrev M_X6_readsLay : Mt := (yX6_readsLay, cX6_readsLay, 4, none, [])
theorem K_X6_readsLay : KM M_X6_readsLay 0 := ⟨kw_1188, kw_87, ⟨by decide, by decide, by decide +kernel⟩, by decide, by decide, rfl⟩
abbrev M_X6_isOver : Mt := (yX6_isOver, cX6_isOver, 1, (some .boolean), [])
theorem K_X6_isOver : KM M_X6_isOver 0 := ⟨kw_1274, kw_87, ⟨by decide, by decide, by decide +kernel⟩, by decide, by decide, rfl⟩
abbrev M_X6_reason : Mt := (yX6_reason, cX6_reason, 3, (some .int), [])
theorem K_X6_reason : KM M_X6_reason 2 := ⟨kw_1298, kw_87, ⟨by decide, by decide, by decide +kernel⟩, by decide, by decide, rfl⟩
abbrev M_X6_lay : Mt := (yX6_lay, cX6_lay, 3, (some .int), [])
theorem K_X6_lay : KM M_X6_lay 2 := ⟨kw_1402, kw_87, ⟨by decide, by decide, by decide +kernel⟩, by decide, by decide, rfl⟩
abbrev M_X0_isOver : Mt := (yX0_isOver, cX0_isOver, 1, (some .boolean), [])
theorem K_X0_isOver : KM M_X0_isOver 0 := ⟨kw_782, kw_83, ⟨by decide, by decide, by decide +kernel⟩, by decide, by decide, rfl⟩
abbrev M_X5_count : Mt := (yX5_count, cX5_count, 2, (some .int), [])
theorem K_X5_count : KM M_X5_count 1 := ⟨kw_770, kw_82, ⟨by decide, by decide, by decide +kernel⟩, by decide, by decide, rfl⟩
abbrev M_X6_count : Mt := (yX6_count, cX6_count, 2, (some .int), [])
theorem K_X6_count : KM M_X6_count 1 := ⟨kw_1266, kw_87, ⟨by decide, by decide, by decide +kernel⟩, by decide, by decide, rfl⟩
abbrev M_X6_isWord : Mt := (yX6_isWord, cX6_isWord, 3, (some .boolean), [])
theorem K_X6_isWord : KM M_X6_isWord 1 := ⟨kw_1141, kw_87, ⟨by decide, by decide, by decide +kernel⟩, by decide, by decide, rfl⟩
abbrev M_X3_atWord : Mt := (yX3_atWord, cX3_atWord, 3, (some .boolean), [])
theorem K_X3_atWord : KM M_X3_atWord 1 := ⟨kw_582, kw_85, ⟨by decide, by decide, by decide +kernel⟩, by decide, by decide, rfl⟩
abbrev M_X6_reads : Mt := (yX6_reads, cX6_reads, 1, none, [])
theorem K_X6_reads : KM M_X6_reads 0 := ⟨kw_1136, kw_87, ⟨by decide, by decide, by decide +kernel⟩, by decide, by decide, rfl⟩
abbrev M_X3_readWord : Mt := (yX3_readWord, cX3_readWord, 2, (some .boolean), [])
theorem K_X3_readWord : KM M_X3_readWord 1 := ⟨kw_578, kw_85, ⟨by decide, by decide, by decide +kernel⟩, by decide, by decide, rfl⟩
abbrev M_X6_load : Mt := (yX6_load, cX6_load, 3, (some .int), [])
theorem K_X6_load : KM M_X6_load 1 := ⟨kw_1121, kw_87, ⟨by decide, by decide, by decide +kernel⟩, by decide, by decide, rfl⟩
abbrev M_X3_readHead : Mt := (yX3_readHead, cX3_readHead, 3, (some .boolean), [])
theorem K_X3_readHead : KM M_X3_readHead 0 := ⟨kw_573, kw_85, ⟨by decide, by decide, by decide +kernel⟩, by decide, by decide, rfl⟩
abbrev M_X3_readVertex : Mt := (yX3_readVertex, cX3_readVertex, 2, (some .boolean), [])
theorem K_X3_readVertex : KM M_X3_readVertex 0 := ⟨kw_658, kw_85, ⟨by decide, by decide, by decide +kernel⟩, by decide, by decide, rfl⟩
abbrev M_X3_readEdge : Mt := (yX3_readEdge, cX3_readEdge, 3, (some .boolean), [])
theorem K_X3_readEdge : KM M_X3_readEdge 0 := ⟨kw_685, kw_85, ⟨by decide, by decide, by decide +kernel⟩, by decide, by decide, rfl⟩
abbrev M_X3_readLay : Mt := (yX3_readLay, cX3_readLay, 4, (some .boolean), [])
theorem K_X3_readLay : KM M_X3_readLay 0 := ⟨kw_700, kw_85, ⟨by decide, by decide, by decide +kernel⟩, by decide, by decide, rfl⟩
abbrev M_X3_readPass : Mt := (yX3_readPass, cX3_readPass, 1, (some .boolean), [])
theorem K_X3_readPass : KM M_X3_readPass 0 := ⟨kw_740, kw_85, ⟨by decide, by decide, by decide +kernel⟩, by decide, by decide, rfl⟩
abbrev M_X3_readVertices : Mt := (yX3_readVertices, cX3_readVertices, 3, (some .boolean), [])
theorem K_X3_readVertices : KM M_X3_readVertices 0 := ⟨kw_654, kw_85, ⟨by decide, by decide, by decide +kernel⟩, by decide, by decide, rfl⟩
abbrev M_X3_readEdges : Mt := (yX3_readEdges, cX3_readEdges, 3, (some .boolean), [])
theorem K_X3_readEdges : KM M_X3_readEdges 0 := ⟨kw_680, kw_85, ⟨by decide, by decide, by decide +kernel⟩, by decide, by decide, rfl⟩
abbrev M_X3_readMoves : Mt := (yX3_readMoves, cX3_readMoves, 3, (some .boolean), [])
theorem K_X3_readMoves : KM M_X3_readMoves 0 := ⟨kw_694, kw_85, ⟨by decide, by decide, by decide +kernel⟩, by decide, by decide, rfl⟩
abbrev M_X3_readText : Mt := (yX3_readText, cX3_readText, 3, (some .int), [])
theorem K_X3_readText : KM M_X3_readText 1 := ⟨kw_554, kw_85, ⟨by decide, by decide, by decide +kernel⟩, by decide, by decide, rfl⟩
abbrev M_X5_load : Mt := (yX5_load, cX5_load, 3, (some .int), [])
theorem K_X5_load : KM M_X5_load 1 := ⟨kw_534, kw_82, ⟨by decide, by decide, by decide +kernel⟩, by decide, by decide, rfl⟩
abbrev M_X6_board : Mt := (yX6_board, cX6_board, 8, (some .int), [])
theorem K_X6_board : KM M_X6_board 0 := ⟨kw_1346, kw_87, ⟨by decide, by decide, by decide +kernel⟩, by decide, by decide, rfl⟩
abbrev M_X6_ofPart : Mt := (yX6_ofPart, cX6_ofPart, 5, (some .int), [])
theorem K_X6_ofPart : KM M_X6_ofPart 3 := ⟨kw_1318, kw_87, ⟨by decide, by decide, by decide +kernel⟩, by decide, by decide, rfl⟩
abbrev M_X6_meanValue : Mt := (yX6_meanValue, cX6_meanValue, 4, (some .float), [])
theorem K_X6_meanValue : KM M_X6_meanValue 0 := ⟨kw_1390, kw_87, ⟨by decide, by decide, by decide +kernel⟩, by decide, by decide, rfl⟩
abbrev M_X6_valueNow : Mt := (yX6_valueNow, cX6_valueNow, 1, (some .int), [])
theorem K_X6_valueNow : KM M_X6_valueNow 0 := ⟨kw_1342, kw_87, ⟨by decide, by decide, by decide +kernel⟩, by decide, by decide, rfl⟩
abbrev M_X6_boardIf : Mt := (yX6_boardIf, cX6_boardIf, 6, (some .int), [])
theorem K_X6_boardIf : KM M_X6_boardIf 2 := ⟨kw_1354, kw_87, ⟨by decide, by decide, by decide +kernel⟩, by decide, by decide, rfl⟩
abbrev M_X6_passWins : Mt := (yX6_passWins, cX6_passWins, 1, (some .boolean), [])
theorem K_X6_passWins : KM M_X6_passWins 0 := ⟨kw_1362, kw_87, ⟨by decide, by decide, by decide +kernel⟩, by decide, by decide, rfl⟩
abbrev M_X6_part : Mt := (yX6_part, cX6_part, 5, (some .int), [])
theorem K_X6_part : KM M_X6_part 2 := ⟨kw_1306, kw_87, ⟨by decide, by decide, by decide +kernel⟩, by decide, by decide, rfl⟩
abbrev M_X6_longest : Mt := (yX6_longest, cX6_longest, 1, (some .int), [])
theorem K_X6_longest : KM M_X6_longest 0 := ⟨kw_1382, kw_87, ⟨by decide, by decide, by decide +kernel⟩, by decide, by decide, rfl⟩
abbrev M_X6_shortest : Mt := (yX6_shortest, cX6_shortest, 1, (some .int), [])
theorem K_X6_shortest : KM M_X6_shortest 0 := ⟨kw_1386, kw_87, ⟨by decide, by decide, by decide +kernel⟩, by decide, by decide, rfl⟩
abbrev M_X6_winningOn : Mt := (yX6_winningOn, cX6_winningOn, 5, (some .int), [])
theorem K_X6_winningOn : KM M_X6_winningOn 1 := ⟨kw_1366, kw_87, ⟨by decide, by decide, by decide +kernel⟩, by decide, by decide, rfl⟩
abbrev M_X6_value : Mt := (yX6_value, cX6_value, 1, (some .int), [])
theorem K_X6_value : KM M_X6_value 0 := ⟨kw_1338, kw_87, ⟨by decide, by decide, by decide +kernel⟩, by decide, by decide, rfl⟩
abbrev M_X6_valueIf : Mt := (yX6_valueIf, cX6_valueIf, 3, (some .int), [])
theorem K_X6_valueIf : KM M_X6_valueIf 2 := ⟨kw_1350, kw_87, ⟨by decide, by decide, by decide +kernel⟩, by decide, by decide, rfl⟩
abbrev M_X6_valueWithout : Mt := (yX6_valueWithout, cX6_valueWithout, 7, (some .int), [])
theorem K_X6_valueWithout : KM M_X6_valueWithout 1 := ⟨kw_1398, kw_87, ⟨by decide, by decide, by decide +kernel⟩, by decide, by decide, rfl⟩
abbrev M_X6_winningMoves : Mt := (yX6_winningMoves, cX6_winningMoves, 3, (some .int), [])
theorem K_X6_winningMoves : KM M_X6_winningMoves 0 := ⟨kw_1358, kw_87, ⟨by decide, by decide, by decide +kernel⟩, by decide, by decide, rfl⟩
abbrev M_X6_winningColours : Mt := (yX6_winningColours, cX6_winningColours, 2, (some .int), [])
theorem K_X6_winningColours : KM M_X6_winningColours 1 := ⟨kw_1370, kw_87, ⟨by decide, by decide, by decide +kernel⟩, by decide, by decide, rfl⟩
abbrev M_X6_best : Mt := (yX6_best, cX6_best, 7, (some .int), [])
theorem K_X6_best : KM M_X6_best 0 := ⟨kw_1378, kw_87, ⟨by decide, by decide, by decide +kernel⟩, by decide, by decide, rfl⟩
abbrev M_X6_bestMove : Mt := (yX6_bestMove, cX6_bestMove, 1, (some .int), [])
theorem K_X6_bestMove : KM M_X6_bestMove 0 := ⟨kw_1374, kw_87, ⟨by decide, by decide, by decide +kernel⟩, by decide, by decide, rfl⟩
abbrev M_X6_playOut : Mt := (yX6_playOut, cX6_playOut, 4, (some .int), [])
theorem K_X6_playOut : KM M_X6_playOut 1 := ⟨kw_1410, kw_87, ⟨by decide, by decide, by decide +kernel⟩, by decide, by decide, rfl⟩
abbrev M_X4_ofPartsIn : Mt := (yX4_ofPartsIn, cX4_ofPartsIn, 6, (some .int), [])
theorem K_X4_ofPartsIn : KM M_X4_ofPartsIn 1 := ⟨kw_278, kw_84, ⟨by decide, by decide, by decide +kernel⟩, by decide, by decide, rfl⟩
abbrev M_X5_part : Mt := (yX5_part, cX5_part, 4, (some .int), [])
theorem K_X5_part : KM M_X5_part 2 := ⟨kw_853, kw_82, ⟨by decide, by decide, by decide +kernel⟩, by decide, by decide, rfl⟩
abbrev M_X5_value : Mt := (yX5_value, cX5_value, 1, (some .int), [])
theorem K_X5_value : KM M_X5_value 0 := ⟨kw_274, kw_82, ⟨by decide, by decide, by decide +kernel⟩, by decide, by decide, rfl⟩
abbrev M_X5_longest : Mt := (yX5_longest, cX5_longest, 1, (some .int), [])
theorem K_X5_longest : KM M_X5_longest 0 := ⟨kw_406, kw_82, ⟨by decide, by decide, by decide +kernel⟩, by decide, by decide, rfl⟩
abbrev M_X5_shortest : Mt := (yX5_shortest, cX5_shortest, 1, (some .int), [])
theorem K_X5_shortest : KM M_X5_shortest 0 := ⟨kw_411, kw_82, ⟨by decide, by decide, by decide +kernel⟩, by decide, by decide, rfl⟩
abbrev M_X5_meanValue : Mt := (yX5_meanValue, cX5_meanValue, 4, (some .float), [])
theorem K_X5_meanValue : KM M_X5_meanValue 0 := ⟨kw_416, kw_82, ⟨by decide, by decide, by decide +kernel⟩, by decide, by decide, rfl⟩
abbrev M_X5_passWins : Mt := (yX5_passWins, cX5_passWins, 2, (some .boolean), [])
theorem K_X5_passWins : KM M_X5_passWins 0 := ⟨kw_373, kw_82, ⟨by decide, by decide, by decide +kernel⟩, by decide, by decide, rfl⟩
abbrev M_X4_behindLay : Mt := (yX4_behindLay, cX4_behindLay, 6, (some .int), [])
theorem K_X4_behindLay : KM M_X4_behindLay 2 := ⟨kw_396, kw_84, ⟨by decide, by decide, by decide +kernel⟩, by decide, by decide, rfl⟩
abbrev M_X4_without : Mt := (yX4_without, cX4_without, 5, (some .int), [])
theorem K_X4_without : KM M_X4_without 1 := ⟨kw_921, kw_84, ⟨by decide, by decide, by decide +kernel⟩, by decide, by decide, rfl⟩
abbrev M_X5_valueIf : Mt := (yX5_valueIf, cX5_valueIf, 3, (some .int), [])
theorem K_X5_valueIf : KM M_X5_valueIf 2 := ⟨kw_865, kw_82, ⟨by decide, by decide, by decide +kernel⟩, by decide, by decide, rfl⟩
abbrev M_X5_valueWithout : Mt := (yX5_valueWithout, cX5_valueWithout, 2, (some .int), [])
theorem K_X5_valueWithout : KM M_X5_valueWithout 1 := ⟨kw_917, kw_82, ⟨by decide, by decide, by decide +kernel⟩, by decide, by decide, rfl⟩
abbrev M_X5_winnersOn : Mt := (yX5_winnersOn, cX5_winnersOn, 5, (some .int), [])
theorem K_X5_winnersOn : KM M_X5_winnersOn 1 := ⟨kw_377, kw_82, ⟨by decide, by decide, by decide +kernel⟩, by decide, by decide, rfl⟩
abbrev M_X5_chosenMove : Mt := (yX5_chosenMove, cX5_chosenMove, 7, (some .int), [])
theorem K_X5_chosenMove : KM M_X5_chosenMove 0 := ⟨kw_893, kw_82, ⟨by decide, by decide, by decide +kernel⟩, by decide, by decide, rfl⟩
abbrev M_X5_winningMoves : Mt := (yX5_winningMoves, cX5_winningMoves, 3, (some .int), [])
theorem K_X5_winningMoves : KM M_X5_winningMoves 0 := ⟨kw_369, kw_82, ⟨by decide, by decide, by decide +kernel⟩, by decide, by decide, rfl⟩
abbrev M_X5_bestMove : Mt := (yX5_bestMove, cX5_bestMove, 1, (some .int), [])
theorem K_X5_bestMove : KM M_X5_bestMove 0 := ⟨kw_888, kw_82, ⟨by decide, by decide, by decide +kernel⟩, by decide, by decide, rfl⟩
abbrev M_X5_winningColours : Mt := (yX5_winningColours, cX5_winningColours, 2, (some .int), [])
theorem K_X5_winningColours : KM M_X5_winningColours 1 := ⟨kw_901, kw_82, ⟨by decide, by decide, by decide +kernel⟩, by decide, by decide, rfl⟩
abbrev M_X5_playOut : Mt := (yX5_playOut, cX5_playOut, 4, (some .int), [])
theorem K_X5_playOut : KM M_X5_playOut 1 := ⟨kw_945, kw_82, ⟨by decide, by decide, by decide +kernel⟩, by decide, by decide, rfl⟩
