/-! printed by wip/whole/emit.py: the tables' words that are used; the methods by their codes -/
theorem kw_0 : Cond.selects "ColourDuel$Solver" ⟨"ColourDuel$Solver", "placeOf", "(I)J"⟩ ⟨"ColourDuel$Solver", "placeOf", "(I)J"⟩ ∈ Tb := tb_of (i := 0) (by decide +kernel) rfl
theorem kw_1 : Cond.selects "ColourDuel$Solver" ⟨"ColourDuel$Solver", "ofPlace", "(JI)I"⟩ ⟨"ColourDuel$Solver", "ofPlace", "(JI)I"⟩ ∈ Tb := tb_of (i := 1) (by decide +kernel) rfl
theorem kw_2 : Cond.selects "ColourDuel$Solver" ⟨"ColourDuel$Solver", "workOut", "(JI)I"⟩ ⟨"ColourDuel$Solver", "workOut", "(JI)I"⟩ ∈ Tb := tb_of (i := 2) (by decide +kernel) rfl
theorem kw_3 : Cond.selects "ColourDuel$Solver" ⟨"ColourDuel$Solver", "behind", "(JII)J"⟩ ⟨"ColourDuel$Solver", "behind", "(JII)J"⟩ ∈ Tb := tb_of (i := 3) (by decide +kernel) rfl
theorem kw_4 : Cond.selects "ColourDuel$Solver" ⟨"ColourDuel$Solver", "ofPieces", "(JI)I"⟩ ⟨"ColourDuel$Solver", "ofPieces", "(JI)I"⟩ ∈ Tb := tb_of (i := 4) (by decide +kernel) rfl
theorem kw_5 : Cond.selects "ColourDuel" ⟨"ColourDuel", "passWins", "()Z"⟩ ⟨"ColourDuel", "passWins", "()Z"⟩ ∈ Tb := tb_of (i := 5) (by decide +kernel) rfl
theorem kw_6 : Cond.selects "ColourDuel" ⟨"ColourDuel", "winnersOn", "(I)I"⟩ ⟨"ColourDuel", "winnersOn", "(I)I"⟩ ∈ Tb := tb_of (i := 6) (by decide +kernel) rfl
theorem kw_7 : Cond.selects "ColourDuel$Board" ⟨"ColourDuel$Board", "coloursAt", "([II)I"⟩ ⟨"ColourDuel$Board", "coloursAt", "([II)I"⟩ ∈ Tb := tb_of (i := 7) (by decide +kernel) rfl
theorem kw_8 : Cond.selects "ColourDuel" ⟨"ColourDuel", "write", "(I)V"⟩ ⟨"ColourDuel", "write", "(I)V"⟩ ∈ Tb := tb_of (i := 8) (by decide +kernel) rfl
theorem kw_10 : Cond.selects "ColourDuel$Reader" ⟨"ColourDuel$Reader", "advance", "()V"⟩ ⟨"ColourDuel$Reader", "advance", "()V"⟩ ∈ Tb := tb_of (i := 10) (by decide +kernel) rfl
theorem kw_11 : Cond.selects "ColourDuel$Reader" ⟨"ColourDuel$Reader", "byteAt", "(I)I"⟩ ⟨"ColourDuel$Reader", "byteAt", "(I)I"⟩ ∈ Tb := tb_of (i := 11) (by decide +kernel) rfl
theorem kw_12 : Cond.selects "ColourDuel$Reader" ⟨"ColourDuel$Reader", "readHead", "()Z"⟩ ⟨"ColourDuel$Reader", "readHead", "()Z"⟩ ∈ Tb := tb_of (i := 12) (by decide +kernel) rfl
theorem kw_13 : Cond.selects "ColourDuel$Reader" ⟨"ColourDuel$Reader", "readWord", "(Ljava/lang/String;)Z"⟩ ⟨"ColourDuel$Reader", "readWord", "(Ljava/lang/String;)Z"⟩ ∈ Tb := tb_of (i := 13) (by decide +kernel) rfl
theorem kw_14 : Cond.selects "ColourDuel$Reader" ⟨"ColourDuel$Reader", "atWord", "(Ljava/lang/String;)Z"⟩ ⟨"ColourDuel$Reader", "atWord", "(Ljava/lang/String;)Z"⟩ ∈ Tb := tb_of (i := 14) (by decide +kernel) rfl
theorem kw_15 : Cond.selects "ColourDuel$Reader" ⟨"ColourDuel$Reader", "fail", "(I)Z"⟩ ⟨"ColourDuel$Reader", "fail", "(I)Z"⟩ ∈ Tb := tb_of (i := 15) (by decide +kernel) rfl
theorem kw_16 : Cond.selects "ColourDuel$Reader" ⟨"ColourDuel$Reader", "readNumber", "(II)I"⟩ ⟨"ColourDuel$Reader", "readNumber", "(II)I"⟩ ∈ Tb := tb_of (i := 16) (by decide +kernel) rfl
theorem kw_17 : Cond.selects "ColourDuel$Reader" ⟨"ColourDuel$Reader", "readSemicolon", "()Z"⟩ ⟨"ColourDuel$Reader", "readSemicolon", "()Z"⟩ ∈ Tb := tb_of (i := 17) (by decide +kernel) rfl
theorem kw_18 : Cond.selects "ColourDuel$Reader" ⟨"ColourDuel$Reader", "readVertices", "()Z"⟩ ⟨"ColourDuel$Reader", "readVertices", "()Z"⟩ ∈ Tb := tb_of (i := 18) (by decide +kernel) rfl
theorem kw_19 : Cond.selects "ColourDuel$Reader" ⟨"ColourDuel$Reader", "readVertex", "()Z"⟩ ⟨"ColourDuel$Reader", "readVertex", "()Z"⟩ ∈ Tb := tb_of (i := 19) (by decide +kernel) rfl
theorem kw_20 : Cond.selects "ColourDuel$Reader" ⟨"ColourDuel$Reader", "listHere", "()I"⟩ ⟨"ColourDuel$Reader", "listHere", "()I"⟩ ∈ Tb := tb_of (i := 20) (by decide +kernel) rfl
theorem kw_21 : Cond.selects "ColourDuel$Reader" ⟨"ColourDuel$Reader", "readEdges", "()Z"⟩ ⟨"ColourDuel$Reader", "readEdges", "()Z"⟩ ∈ Tb := tb_of (i := 21) (by decide +kernel) rfl
theorem kw_22 : Cond.selects "ColourDuel$Reader" ⟨"ColourDuel$Reader", "readEdge", "()Z"⟩ ⟨"ColourDuel$Reader", "readEdge", "()Z"⟩ ∈ Tb := tb_of (i := 22) (by decide +kernel) rfl
theorem kw_23 : Cond.selects "ColourDuel$Reader" ⟨"ColourDuel$Reader", "readMoves", "()Z"⟩ ⟨"ColourDuel$Reader", "readMoves", "()Z"⟩ ∈ Tb := tb_of (i := 23) (by decide +kernel) rfl
theorem kw_24 : Cond.selects "ColourDuel$Reader" ⟨"ColourDuel$Reader", "readLay", "()Z"⟩ ⟨"ColourDuel$Reader", "readLay", "()Z"⟩ ∈ Tb := tb_of (i := 24) (by decide +kernel) rfl
theorem kw_25 : Cond.selects "ColourDuel$Reader" ⟨"ColourDuel$Reader", "readPass", "()Z"⟩ ⟨"ColourDuel$Reader", "readPass", "()Z"⟩ ∈ Tb := tb_of (i := 25) (by decide +kernel) rfl
theorem kw_26 : Cond.selects "ColourDuel$Reader" ⟨"ColourDuel$Reader", "readEnd", "()Z"⟩ ⟨"ColourDuel$Reader", "readEnd", "()Z"⟩ ∈ Tb := tb_of (i := 26) (by decide +kernel) rfl
theorem kw_27 : Cond.selects "ColourDuel" ⟨"ColourDuel", "chosenMove", "()I"⟩ ⟨"ColourDuel", "chosenMove", "()I"⟩ ∈ Tb := tb_of (i := 27) (by decide +kernel) rfl
theorem kw_28 : Cond.selects "ColourDuelModel" ⟨"ColourDuelModel", "next", "()V"⟩ ⟨"ColourDuelModel", "next", "()V"⟩ ∈ Tb := tb_of (i := 28) (by decide +kernel) rfl
theorem kw_29 : Cond.selects "ColourDuelModel" ⟨"ColourDuelModel", "see", "(I)I"⟩ ⟨"ColourDuelModel", "see", "(I)I"⟩ ∈ Tb := tb_of (i := 29) (by decide +kernel) rfl
theorem kw_30 : Cond.selects "ColourDuelModel" ⟨"ColourDuelModel", "reads", "()V"⟩ ⟨"ColourDuelModel", "reads", "()V"⟩ ∈ Tb := tb_of (i := 30) (by decide +kernel) rfl
theorem kw_31 : Cond.selects "ColourDuelModel" ⟨"ColourDuelModel", "isWord", "(Ljava/lang/String;)Z"⟩ ⟨"ColourDuelModel", "isWord", "(Ljava/lang/String;)Z"⟩ ∈ Tb := tb_of (i := 31) (by decide +kernel) rfl
theorem kw_32 : Cond.selects "ColourDuelModel" ⟨"ColourDuelModel", "must", "(Z)V"⟩ ⟨"ColourDuelModel", "must", "(Z)V"⟩ ∈ Tb := tb_of (i := 32) (by decide +kernel) rfl
theorem kw_33 : Cond.selects "ColourDuelModel" ⟨"ColourDuelModel", "fails", "(I)V"⟩ ⟨"ColourDuelModel", "fails", "(I)V"⟩ ∈ Tb := tb_of (i := 33) (by decide +kernel) rfl
theorem kw_34 : Cond.selects "ColourDuelModel" ⟨"ColourDuelModel", "takes", "(II)I"⟩ ⟨"ColourDuelModel", "takes", "(II)I"⟩ ∈ Tb := tb_of (i := 34) (by decide +kernel) rfl
theorem kw_35 : Cond.selects "ColourDuelModel" ⟨"ColourDuelModel", "mustEnd", "()V"⟩ ⟨"ColourDuelModel", "mustEnd", "()V"⟩ ∈ Tb := tb_of (i := 35) (by decide +kernel) rfl
theorem kw_36 : Cond.selects "ColourDuelModel" ⟨"ColourDuelModel", "readsVertex", "()V"⟩ ⟨"ColourDuelModel", "readsVertex", "()V"⟩ ∈ Tb := tb_of (i := 36) (by decide +kernel) rfl
theorem kw_37 : Cond.selects "ColourDuelModel" ⟨"ColourDuelModel", "colouringsNext", "()I"⟩ ⟨"ColourDuelModel", "colouringsNext", "()I"⟩ ∈ Tb := tb_of (i := 37) (by decide +kernel) rfl
theorem kw_38 : Cond.selects "ColourDuelModel" ⟨"ColourDuelModel", "lettersHere", "()I"⟩ ⟨"ColourDuelModel", "lettersHere", "()I"⟩ ∈ Tb := tb_of (i := 38) (by decide +kernel) rfl
theorem kw_39 : Cond.selects "ColourDuelModel" ⟨"ColourDuelModel", "readsEdge", "()V"⟩ ⟨"ColourDuelModel", "readsEdge", "()V"⟩ ∈ Tb := tb_of (i := 39) (by decide +kernel) rfl
theorem kw_40 : Cond.selects "ColourDuelModel" ⟨"ColourDuelModel", "areNext", "(II)Z"⟩ ⟨"ColourDuelModel", "areNext", "(II)Z"⟩ ∈ Tb := tb_of (i := 40) (by decide +kernel) rfl
theorem kw_41 : Cond.selects "ColourDuelModel" ⟨"ColourDuelModel", "readsLay", "()V"⟩ ⟨"ColourDuelModel", "readsLay", "()V"⟩ ∈ Tb := tb_of (i := 41) (by decide +kernel) rfl
theorem kw_42 : Cond.selects "ColourDuelModel" ⟨"ColourDuelModel", "whyNot", "(II)I"⟩ ⟨"ColourDuelModel", "whyNot", "(II)I"⟩ ∈ Tb := tb_of (i := 42) (by decide +kernel) rfl
theorem kw_43 : Cond.selects "ColourDuelModel" ⟨"ColourDuelModel", "isFree", "(I)Z"⟩ ⟨"ColourDuelModel", "isFree", "(I)Z"⟩ ∈ Tb := tb_of (i := 43) (by decide +kernel) rfl
theorem kw_44 : Cond.selects "ColourDuelModel" ⟨"ColourDuelModel", "around", "(I)I"⟩ ⟨"ColourDuelModel", "around", "(I)I"⟩ ∈ Tb := tb_of (i := 44) (by decide +kernel) rfl
theorem kw_45 : Cond.selects "ColourDuelModel" ⟨"ColourDuelModel", "colourOf", "(I)I"⟩ ⟨"ColourDuelModel", "colourOf", "(I)I"⟩ ∈ Tb := tb_of (i := 45) (by decide +kernel) rfl
theorem kw_46 : Cond.selects "ColourDuelModel" ⟨"ColourDuelModel", "colours", "(I)I"⟩ ⟨"ColourDuelModel", "colours", "(I)I"⟩ ∈ Tb := tb_of (i := 46) (by decide +kernel) rfl
theorem kw_47 : Cond.selects "ColourDuelModel" ⟨"ColourDuelModel", "freeSet", "()I"⟩ ⟨"ColourDuelModel", "freeSet", "()I"⟩ ∈ Tb := tb_of (i := 47) (by decide +kernel) rfl
theorem kw_48 : Cond.selects "ColourDuelModel" ⟨"ColourDuelModel", "reached", "(II)I"⟩ ⟨"ColourDuelModel", "reached", "(II)I"⟩ ∈ Tb := tb_of (i := 48) (by decide +kernel) rfl
theorem kw_49 : Cond.selects "ColourDuelModel" ⟨"ColourDuelModel", "banOf", "(I)I"⟩ ⟨"ColourDuelModel", "banOf", "(I)I"⟩ ∈ Tb := tb_of (i := 49) (by decide +kernel) rfl
theorem kw_50 : Cond.selects "ColourDuelModel" ⟨"ColourDuelModel", "canLay", "(III)I"⟩ ⟨"ColourDuelModel", "canLay", "(III)I"⟩ ∈ Tb := tb_of (i := 50) (by decide +kernel) rfl
theorem kw_51 : Cond.selects "ColourDuelModel" ⟨"ColourDuelModel", "lays", "(II)V"⟩ ⟨"ColourDuelModel", "lays", "(II)V"⟩ ∈ Tb := tb_of (i := 51) (by decide +kernel) rfl
theorem kw_52 : Cond.selects "ColourDuelModel" ⟨"ColourDuelModel", "partsIn", "(I)I"⟩ ⟨"ColourDuelModel", "partsIn", "(I)I"⟩ ∈ Tb := tb_of (i := 52) (by decide +kernel) rfl
theorem kw_53 : Cond.selects "ColourDuelModel" ⟨"ColourDuelModel", "notes", "(III)V"⟩ ⟨"ColourDuelModel", "notes", "(III)V"⟩ ∈ Tb := tb_of (i := 53) (by decide +kernel) rfl
theorem kw_54 : Cond.selects "ColourDuelModel" ⟨"ColourDuelModel", "turn", "()I"⟩ ⟨"ColourDuelModel", "turn", "()I"⟩ ∈ Tb := tb_of (i := 54) (by decide +kernel) rfl
theorem kw_55 : Cond.selects "ColourDuelModel" ⟨"ColourDuelModel", "readsPass", "()V"⟩ ⟨"ColourDuelModel", "readsPass", "()V"⟩ ∈ Tb := tb_of (i := 55) (by decide +kernel) rfl
theorem kw_56 : Cond.selects "ColourDuelModel" ⟨"ColourDuelModel", "passes", "()V"⟩ ⟨"ColourDuelModel", "passes", "()V"⟩ ∈ Tb := tb_of (i := 56) (by decide +kernel) rfl
theorem kw_57 : Cond.selects "ColourDuelModel" ⟨"ColourDuelModel", "keeps", "()V"⟩ ⟨"ColourDuelModel", "keeps", "()V"⟩ ∈ Tb := tb_of (i := 57) (by decide +kernel) rfl
theorem kw_58 : Cond.selects "ColourDuelModel" ⟨"ColourDuelModel", "edgesIn", "(I)I"⟩ ⟨"ColourDuelModel", "edgesIn", "(I)I"⟩ ∈ Tb := tb_of (i := 58) (by decide +kernel) rfl
theorem kw_59 : Cond.selects "ColourDuelModel" ⟨"ColourDuelModel", "isOver", "()Z"⟩ ⟨"ColourDuelModel", "isOver", "()Z"⟩ ∈ Tb := tb_of (i := 59) (by decide +kernel) rfl
theorem kw_60 : Cond.selects "ColourDuelModel" ⟨"ColourDuelModel", "pairs", "()I"⟩ ⟨"ColourDuelModel", "pairs", "()I"⟩ ∈ Tb := tb_of (i := 60) (by decide +kernel) rfl
theorem kw_61 : Cond.selects "ColourDuelModel" ⟨"ColourDuelModel", "stuck", "()I"⟩ ⟨"ColourDuelModel", "stuck", "()I"⟩ ∈ Tb := tb_of (i := 61) (by decide +kernel) rfl
theorem kw_62 : Cond.selects "ColourDuelModel" ⟨"ColourDuelModel", "isVertex", "(I)Z"⟩ ⟨"ColourDuelModel", "isVertex", "(I)Z"⟩ ∈ Tb := tb_of (i := 62) (by decide +kernel) rfl
theorem kw_63 : Cond.selects "ColourDuelModel" ⟨"ColourDuelModel", "partOf", "(I)I"⟩ ⟨"ColourDuelModel", "partOf", "(I)I"⟩ ∈ Tb := tb_of (i := 63) (by decide +kernel) rfl
theorem kw_64 : Cond.selects "ColourDuelModel" ⟨"ColourDuelModel", "isColour", "(I)Z"⟩ ⟨"ColourDuelModel", "isColour", "(I)Z"⟩ ∈ Tb := tb_of (i := 64) (by decide +kernel) rfl
theorem kw_65 : Cond.selects "ColourDuelModel" ⟨"ColourDuelModel", "partSet", "(I)I"⟩ ⟨"ColourDuelModel", "partSet", "(I)I"⟩ ∈ Tb := tb_of (i := 65) (by decide +kernel) rfl
theorem kw_66 : Cond.selects "ColourDuelModel" ⟨"ColourDuelModel", "pairsIn", "(I)I"⟩ ⟨"ColourDuelModel", "pairsIn", "(I)I"⟩ ∈ Tb := tb_of (i := 66) (by decide +kernel) rfl
theorem kw_67 : Cond.selects "ColourDuelModel" ⟨"ColourDuelModel", "ofPart", "(III)I"⟩ ⟨"ColourDuelModel", "ofPart", "(III)I"⟩ ∈ Tb := tb_of (i := 67) (by decide +kernel) rfl
theorem kw_68 : Cond.selects "ColourDuelModel" ⟨"ColourDuelModel", "forgets", "()V"⟩ ⟨"ColourDuelModel", "forgets", "()V"⟩ ∈ Tb := tb_of (i := 68) (by decide +kernel) rfl
theorem kw_69 : Cond.selects "ColourDuelModel" ⟨"ColourDuelModel", "knownOf", "(II)I"⟩ ⟨"ColourDuelModel", "knownOf", "(II)I"⟩ ∈ Tb := tb_of (i := 69) (by decide +kernel) rfl
theorem kw_70 : Cond.selects "ColourDuelModel" ⟨"ColourDuelModel", "placeOf", "(II)I"⟩ ⟨"ColourDuelModel", "placeOf", "(II)I"⟩ ∈ Tb := tb_of (i := 70) (by decide +kernel) rfl
theorem kw_71 : Cond.selects "ColourDuelModel" ⟨"ColourDuelModel", "together", "(II)I"⟩ ⟨"ColourDuelModel", "together", "(II)I"⟩ ∈ Tb := tb_of (i := 71) (by decide +kernel) rfl
theorem kw_72 : Cond.selects "ColourDuelModel" ⟨"ColourDuelModel", "valueNow", "()I"⟩ ⟨"ColourDuelModel", "valueNow", "()I"⟩ ∈ Tb := tb_of (i := 72) (by decide +kernel) rfl
theorem kw_73 : Cond.selects "ColourDuelModel" ⟨"ColourDuelModel", "board", "()I"⟩ ⟨"ColourDuelModel", "board", "()I"⟩ ∈ Tb := tb_of (i := 73) (by decide +kernel) rfl
theorem kw_74 : Cond.selects "ColourDuelModel" ⟨"ColourDuelModel", "boardIf", "(II)I"⟩ ⟨"ColourDuelModel", "boardIf", "(II)I"⟩ ∈ Tb := tb_of (i := 74) (by decide +kernel) rfl
theorem kw_75 : Cond.selects "ColourDuelModel" ⟨"ColourDuelModel", "passWins", "()Z"⟩ ⟨"ColourDuelModel", "passWins", "()Z"⟩ ∈ Tb := tb_of (i := 75) (by decide +kernel) rfl
theorem kw_76 : Cond.selects "ColourDuelModel" ⟨"ColourDuelModel", "winningOn", "(I)I"⟩ ⟨"ColourDuelModel", "winningOn", "(I)I"⟩ ∈ Tb := tb_of (i := 76) (by decide +kernel) rfl
theorem kw_77 : Cond.selects "ColourDuelModel" ⟨"ColourDuelModel", "best", "()I"⟩ ⟨"ColourDuelModel", "best", "()I"⟩ ∈ Tb := tb_of (i := 77) (by decide +kernel) rfl
theorem kw_78 : Cond.selects "ColourDuelModel" ⟨"ColourDuelModel", "moved", "(II)I"⟩ ⟨"ColourDuelModel", "moved", "(II)I"⟩ ∈ Tb := tb_of (i := 78) (by decide +kernel) rfl
theorem kw_79 : Cond.selects "ColourDuelModel" ⟨"ColourDuelModel", "counts", "(II)Z"⟩ ⟨"ColourDuelModel", "counts", "(II)Z"⟩ ∈ Tb := tb_of (i := 79) (by decide +kernel) rfl
theorem kw_80 : Cond.selects "ColourDuelModel" ⟨"ColourDuelModel", "says", "(I)V"⟩ ⟨"ColourDuelModel", "says", "(I)V"⟩ ∈ Tb := tb_of (i := 80) (by decide +kernel) rfl
theorem kw_82 : Cond.initialized "ColourDuel" ∈ Tb := tb_of (i := 82) (by decide +kernel) rfl
theorem kw_83 : Cond.initialized "ColourDuel$Solver" ∈ Tb := tb_of (i := 83) (by decide +kernel) rfl
theorem kw_84 : Cond.initialized "ColourDuel$Board" ∈ Tb := tb_of (i := 84) (by decide +kernel) rfl
theorem kw_85 : Cond.initialized "ColourDuel$Reader" ∈ Tb := tb_of (i := 85) (by decide +kernel) rfl
theorem kw_86 : Cond.initialized "ColourDuel$History" ∈ Tb := tb_of (i := 86) (by decide +kernel) rfl
theorem kw_87 : Cond.initialized "ColourDuelModel" ∈ Tb := tb_of (i := 87) (by decide +kernel) rfl
theorem kw_98 : Cond.initialized "java/lang/Integer" ∈ Tb := tb_of (i := 98) (by decide +kernel) rfl
theorem kw_99 : Cond.initialized "ColourDuel$Move" ∈ Tb := tb_of (i := 99) (by decide +kernel) rfl
theorem kw_106 : Cond.code ⟨"ColourDuel", "<init>", "()V"⟩ prog_1_method_1_code 1 (Option.none : Option FieldType) ∈ Tb := tb_of (i := 106) (by decide +kernel) rfl
theorem kw_107 : Cond.methodLink "ColourDuel" 1 ⟨"java/lang/Object", "<init>", "()V"⟩ ∈ Tb := tb_of (i := 107) (by decide +kernel) rfl
theorem kw_110 : Cond.classLink "ColourDuel" 7 "ColourDuel$Solver" ∈ Tb := tb_of (i := 110) (by decide +kernel) rfl
theorem kw_111 : Cond.instantiable "ColourDuel$Solver" 3 ∈ Tb := tb_of (i := 111) (by decide +kernel) rfl
theorem kn_112 : Cond.methodLinkNest "ColourDuel" 9 ⟨"ColourDuel$Solver", "<init>", "()V"⟩ "ColourDuel" ∈ lw_tbl := tn_of (i := 112) (by decide +kernel)
theorem kw_113 : Cond.instanceMethod ⟨"ColourDuel$Solver", "<init>", "()V"⟩ ∈ Tb := tb_of (i := 113) (by decide +kernel) rfl
theorem kw_114 : Cond.code ⟨"ColourDuel$Solver", "<init>", "()V"⟩ prog_6_method_1_code 1 (Option.none : Option FieldType) ∈ Tb := tb_of (i := 114) (by decide +kernel) rfl
theorem kw_115 : Cond.methodLink "ColourDuel$Solver" 5 ⟨"java/lang/Object", "<init>", "()V"⟩ ∈ Tb := tb_of (i := 115) (by decide +kernel) rfl
theorem kw_116 : Cond.classLink "ColourDuel$Solver" 11 "ColourDuel$Board" ∈ Tb := tb_of (i := 116) (by decide +kernel) rfl
theorem kw_117 : Cond.instantiable "ColourDuel$Board" 11 ∈ Tb := tb_of (i := 117) (by decide +kernel) rfl
theorem kw_118 : Cond.methodLink "ColourDuel$Solver" 13 ⟨"ColourDuel$Board", "<init>", "()V"⟩ ∈ Tb := tb_of (i := 118) (by decide +kernel) rfl
theorem kw_119 : Cond.instanceMethod ⟨"ColourDuel$Board", "<init>", "()V"⟩ ∈ Tb := tb_of (i := 119) (by decide +kernel) rfl
theorem kw_120 : Cond.code ⟨"ColourDuel$Board", "<init>", "()V"⟩ prog_2_method_1_code 2 (Option.none : Option FieldType) ∈ Tb := tb_of (i := 120) (by decide +kernel) rfl
theorem kw_121 : Cond.methodLink "ColourDuel$Board" 3 ⟨"java/lang/Object", "<init>", "()V"⟩ ∈ Tb := tb_of (i := 121) (by decide +kernel) rfl
theorem kw_122 : Cond.fieldLink "ColourDuel$Board" 34 "ColourDuel$Board" "number" "I" ∈ Tb := tb_of (i := 122) (by decide +kernel) rfl
theorem kw_123 : Cond.fieldLink "ColourDuel" 82 "ColourDuel$Board" "number" "I" ∈ Tb := tb_of (i := 123) (by decide +kernel) rfl
theorem kw_124 : Cond.fieldLink "ColourDuel$Solver" 64 "ColourDuel$Board" "number" "I" ∈ Tb := tb_of (i := 124) (by decide +kernel) rfl
theorem kw_125 : Cond.fieldLink "ColourDuel$Board" 24 "ColourDuel$Board" "colours" "I" ∈ Tb := tb_of (i := 125) (by decide +kernel) rfl
theorem kw_126 : Cond.fieldLink "ColourDuel" 98 "ColourDuel$Board" "colours" "I" ∈ Tb := tb_of (i := 126) (by decide +kernel) rfl
theorem kw_127 : Cond.fieldLink "ColourDuel$Board" 28 "ColourDuel$Board" "vertices" "I" ∈ Tb := tb_of (i := 127) (by decide +kernel) rfl
theorem kw_128 : Cond.fieldLink "ColourDuel" 85 "ColourDuel$Board" "vertices" "I" ∈ Tb := tb_of (i := 128) (by decide +kernel) rfl
theorem kw_129 : Cond.fieldLink "ColourDuel$Reader" 111 "ColourDuel$Board" "vertices" "I" ∈ Tb := tb_of (i := 129) (by decide +kernel) rfl
theorem kw_130 : Cond.fieldLink "ColourDuel$Board" 37 "ColourDuel$Board" "passes" "I" ∈ Tb := tb_of (i := 130) (by decide +kernel) rfl
theorem kw_131 : Cond.fieldLink "ColourDuel$Reader" 76 "ColourDuel$Board" "passes" "I" ∈ Tb := tb_of (i := 131) (by decide +kernel) rfl
theorem kw_132 : Cond.fieldLink "ColourDuel" 101 "ColourDuel$Board" "passes" "I" ∈ Tb := tb_of (i := 132) (by decide +kernel) rfl
theorem kw_133 : Cond.fieldLink "ColourDuel$Board" 31 "ColourDuel$Board" "free" "I" ∈ Tb := tb_of (i := 133) (by decide +kernel) rfl
theorem kw_134 : Cond.fieldLink "ColourDuel$Solver" 50 "ColourDuel$Board" "free" "I" ∈ Tb := tb_of (i := 134) (by decide +kernel) rfl
theorem kw_135 : Cond.fieldLink "ColourDuel" 104 "ColourDuel$Board" "free" "I" ∈ Tb := tb_of (i := 135) (by decide +kernel) rfl
theorem kw_136 : Cond.fieldLink "ColourDuel$Board" 40 "ColourDuel$Board" "made" "I" ∈ Tb := tb_of (i := 136) (by decide +kernel) rfl
theorem kw_137 : Cond.fieldLink "ColourDuel" 118 "ColourDuel$Board" "made" "I" ∈ Tb := tb_of (i := 137) (by decide +kernel) rfl
theorem kw_138 : Cond.fieldLink "ColourDuel$Board" 43 "ColourDuel$Board" "latest" "LColourDuel$Move;" ∈ Tb := tb_of (i := 138) (by decide +kernel) rfl
theorem kw_139 : Cond.fieldLink "ColourDuel$Board" 9 "ColourDuel$Board" "near" "[I" ∈ Tb := tb_of (i := 139) (by decide +kernel) rfl
theorem kw_140 : Cond.fieldLink "ColourDuel$Board" 15 "ColourDuel$Board" "listed" "[I" ∈ Tb := tb_of (i := 140) (by decide +kernel) rfl
theorem kw_141 : Cond.fieldLink "ColourDuel$Board" 18 "ColourDuel$Board" "painted" "[I" ∈ Tb := tb_of (i := 141) (by decide +kernel) rfl
theorem kw_142 : Cond.fieldLink "ColourDuel$Board" 21 "ColourDuel$Board" "banned" "[I" ∈ Tb := tb_of (i := 142) (by decide +kernel) rfl
theorem kw_166 : Cond.arrayClass FieldType.int ∈ Tb := tb_of (i := 166) (by decide +kernel) rfl
theorem kw_167 : Cond.constant "ColourDuel$Solver" 18 (32768 : Int32) ∈ Tb := tb_of (i := 167) (by decide +kernel) rfl
theorem kw_168 : Cond.fieldLink "ColourDuel$Solver" 14 "ColourDuel$Solver" "board" "LColourDuel$Board;" ∈ Tb := tb_of (i := 168) (by decide +kernel) rfl
theorem kw_169 : Cond.fieldLink "ColourDuel" 16 "ColourDuel$Solver" "board" "LColourDuel$Board;" ∈ Tb := tb_of (i := 169) (by decide +kernel) rfl
theorem kw_170 : Cond.fieldLink "ColourDuel$Solver" 19 "ColourDuel$Solver" "places" "[J" ∈ Tb := tb_of (i := 170) (by decide +kernel) rfl
theorem kw_171 : Cond.fieldLink "ColourDuel$Solver" 23 "ColourDuel$Solver" "answers" "[I" ∈ Tb := tb_of (i := 171) (by decide +kernel) rfl
theorem kw_179 : Cond.arrayClass FieldType.long ∈ Tb := tb_of (i := 179) (by decide +kernel) rfl
theorem kw_180 : Cond.classLink "ColourDuel" 21 "ColourDuel$Reader" ∈ Tb := tb_of (i := 180) (by decide +kernel) rfl
theorem kw_181 : Cond.instantiable "ColourDuel$Reader" 10 ∈ Tb := tb_of (i := 181) (by decide +kernel) rfl
theorem kn_182 : Cond.methodLinkNest "ColourDuel" 23 ⟨"ColourDuel$Reader", "<init>", "()V"⟩ "ColourDuel" ∈ lw_tbl := tn_of (i := 182) (by decide +kernel)
theorem kw_183 : Cond.instanceMethod ⟨"ColourDuel$Reader", "<init>", "()V"⟩ ∈ Tb := tb_of (i := 183) (by decide +kernel) rfl
theorem kw_184 : Cond.code ⟨"ColourDuel$Reader", "<init>", "()V"⟩ prog_5_method_1_code 1 (Option.none : Option FieldType) ∈ Tb := tb_of (i := 184) (by decide +kernel) rfl
theorem kw_185 : Cond.methodLink "ColourDuel$Reader" 3 ⟨"java/lang/Object", "<init>", "()V"⟩ ∈ Tb := tb_of (i := 185) (by decide +kernel) rfl
theorem kw_186 : Cond.classLink "ColourDuel$Reader" 9 "ColourDuel$Board" ∈ Tb := tb_of (i := 186) (by decide +kernel) rfl
theorem kw_187 : Cond.methodLink "ColourDuel$Reader" 11 ⟨"ColourDuel$Board", "<init>", "()V"⟩ ∈ Tb := tb_of (i := 187) (by decide +kernel) rfl
theorem kw_188 : Cond.fieldLink "ColourDuel$Reader" 12 "ColourDuel$Reader" "draft" "LColourDuel$Board;" ∈ Tb := tb_of (i := 188) (by decide +kernel) rfl
theorem kw_189 : Cond.fieldLink "ColourDuel" 76 "ColourDuel$Reader" "draft" "LColourDuel$Board;" ∈ Tb := tb_of (i := 189) (by decide +kernel) rfl
theorem kw_190 : Cond.fieldLink "ColourDuel" 45 "ColourDuel$Reader" "filled" "I" ∈ Tb := tb_of (i := 190) (by decide +kernel) rfl
theorem kw_191 : Cond.fieldLink "ColourDuel$Reader" 26 "ColourDuel$Reader" "filled" "I" ∈ Tb := tb_of (i := 191) (by decide +kernel) rfl
theorem kw_192 : Cond.fieldLink "ColourDuel$Reader" 18 "ColourDuel$Reader" "errorAt" "I" ∈ Tb := tb_of (i := 192) (by decide +kernel) rfl
theorem kw_193 : Cond.fieldLink "ColourDuel" 88 "ColourDuel$Reader" "errorAt" "I" ∈ Tb := tb_of (i := 193) (by decide +kernel) rfl
theorem kw_194 : Cond.fieldLink "ColourDuel$Reader" 22 "ColourDuel$Reader" "bytes" "[B" ∈ Tb := tb_of (i := 194) (by decide +kernel) rfl
theorem kw_195 : Cond.fieldLink "ColourDuel$Reader" 29 "ColourDuel$Reader" "length" "I" ∈ Tb := tb_of (i := 195) (by decide +kernel) rfl
theorem kw_196 : Cond.fieldLink "ColourDuel$Reader" 54 "ColourDuel$Reader" "error" "I" ∈ Tb := tb_of (i := 196) (by decide +kernel) rfl
theorem kw_197 : Cond.fieldLink "ColourDuel$Reader" 97 "ColourDuel$Reader" "kind" "I" ∈ Tb := tb_of (i := 197) (by decide +kernel) rfl
theorem kw_198 : Cond.fieldLink "ColourDuel$Reader" 156 "ColourDuel$Reader" "start" "I" ∈ Tb := tb_of (i := 198) (by decide +kernel) rfl
theorem kw_199 : Cond.fieldLink "ColourDuel$Reader" 32 "ColourDuel$Reader" "end" "I" ∈ Tb := tb_of (i := 199) (by decide +kernel) rfl
theorem kw_200 : Cond.fieldLink "ColourDuel$Reader" 114 "ColourDuel$Reader" "number" "I" ∈ Tb := tb_of (i := 200) (by decide +kernel) rfl
theorem kw_222 : Cond.arrayClass FieldType.byte ∈ Tb := tb_of (i := 222) (by decide +kernel) rfl
theorem kw_223 : Cond.classLink "ColourDuel" 28 "ColourDuel$History" ∈ Tb := tb_of (i := 223) (by decide +kernel) rfl
theorem kw_224 : Cond.instantiable "ColourDuel$History" 3 ∈ Tb := tb_of (i := 224) (by decide +kernel) rfl
theorem kn_225 : Cond.methodLinkNest "ColourDuel" 30 ⟨"ColourDuel$History", "<init>", "()V"⟩ "ColourDuel" ∈ lw_tbl := tn_of (i := 225) (by decide +kernel)
theorem kw_226 : Cond.instanceMethod ⟨"ColourDuel$History", "<init>", "()V"⟩ ∈ Tb := tb_of (i := 226) (by decide +kernel) rfl
theorem kw_227 : Cond.code ⟨"ColourDuel$History", "<init>", "()V"⟩ prog_3_method_1_code 1 (Option.none : Option FieldType) ∈ Tb := tb_of (i := 227) (by decide +kernel) rfl
theorem kw_228 : Cond.methodLink "ColourDuel$History" 3 ⟨"java/lang/Object", "<init>", "()V"⟩ ∈ Tb := tb_of (i := 228) (by decide +kernel) rfl
theorem kw_229 : Cond.classLink "ColourDuel$History" 9 "ColourDuel$Board" ∈ Tb := tb_of (i := 229) (by decide +kernel) rfl
theorem kw_231 : Cond.fieldLink "ColourDuel$History" 25 "ColourDuel$History" "held" "I" ∈ Tb := tb_of (i := 231) (by decide +kernel) rfl
theorem kw_232 : Cond.fieldLink "ColourDuel" 277 "ColourDuel$History" "held" "I" ∈ Tb := tb_of (i := 232) (by decide +kernel) rfl
theorem kw_233 : Cond.fieldLink "ColourDuel$History" 17 "ColourDuel$History" "next" "I" ∈ Tb := tb_of (i := 233) (by decide +kernel) rfl
theorem kw_234 : Cond.fieldLink "ColourDuel$History" 11 "ColourDuel$History" "kept" "[LColourDuel$Board;" ∈ Tb := tb_of (i := 234) (by decide +kernel) rfl
theorem kw_242 : Cond.classLink "ColourDuel" 35 "ColourDuel$Board" ∈ Tb := tb_of (i := 242) (by decide +kernel) rfl
theorem kw_243 : Cond.fieldLink "ColourDuel" 20 "ColourDuel" "board" "LColourDuel$Board;" ∈ Tb := tb_of (i := 243) (by decide +kernel) rfl
theorem kw_244 : Cond.fieldLink "ColourDuel" 10 "ColourDuel" "solver" "LColourDuel$Solver;" ∈ Tb := tb_of (i := 244) (by decide +kernel) rfl
theorem kw_245 : Cond.fieldLink "ColourDuel" 24 "ColourDuel" "reader" "LColourDuel$Reader;" ∈ Tb := tb_of (i := 245) (by decide +kernel) rfl
theorem kw_246 : Cond.fieldLink "ColourDuel" 31 "ColourDuel" "history" "LColourDuel$History;" ∈ Tb := tb_of (i := 246) (by decide +kernel) rfl
theorem kw_247 : Cond.fieldLink "ColourDuel" 37 "ColourDuel" "slots" "[LColourDuel$Board;" ∈ Tb := tb_of (i := 247) (by decide +kernel) rfl
theorem kw_248 : Cond.fieldLink "ColourDuel" 41 "ColourDuel" "written" "[B" ∈ Tb := tb_of (i := 248) (by decide +kernel) rfl
theorem kw_249 : Cond.fieldLink "ColourDuel" 269 "ColourDuel" "writtenLength" "I" ∈ Tb := tb_of (i := 249) (by decide +kernel) rfl
theorem kw_250 : Cond.fieldLink "ColourDuel" 73 "ColourDuel" "loads" "I" ∈ Tb := tb_of (i := 250) (by decide +kernel) rfl
theorem kw_271 : Cond.code ⟨"ColourDuel", "errorPosition", "()I"⟩ prog_1_method_4_code 1 (Option.some FieldType.int) ∈ Tb := tb_of (i := 271) (by decide +kernel) rfl
theorem kw_275 : Cond.code ⟨"ColourDuel", "value", "()I"⟩ prog_1_method_9_code 1 (Option.some FieldType.int) ∈ Tb := tb_of (i := 275) (by decide +kernel) rfl
theorem kw_276 : Cond.methodLink "ColourDuel" 186 ⟨"ColourDuel$Solver", "ofPartsIn", "(I)I"⟩ ∈ Tb := tb_of (i := 276) (by decide +kernel) rfl
theorem kw_277 : Cond.instanceMethod ⟨"ColourDuel$Solver", "ofPartsIn", "(I)I"⟩ ∈ Tb := tb_of (i := 277) (by decide +kernel) rfl
theorem kw_278 : Cond.selects "ColourDuel$Solver" ⟨"ColourDuel$Solver", "ofPartsIn", "(I)I"⟩ ⟨"ColourDuel$Solver", "ofPartsIn", "(I)I"⟩ ∈ Tb := tb_of (i := 278) (by decide +kernel) rfl
theorem kw_279 : Cond.code ⟨"ColourDuel$Solver", "ofPartsIn", "(I)I"⟩ prog_6_method_2_code 6 (Option.some FieldType.int) ∈ Tb := tb_of (i := 279) (by decide +kernel) rfl
theorem kw_280 : Cond.methodLink "ColourDuel$Solver" 27 ⟨"ColourDuel$Board", "reachable", "(II)I"⟩ ∈ Tb := tb_of (i := 280) (by decide +kernel) rfl
theorem kw_281 : Cond.instanceMethod ⟨"ColourDuel$Board", "reachable", "(II)I"⟩ ∈ Tb := tb_of (i := 281) (by decide +kernel) rfl
theorem kw_282 : Cond.selects "ColourDuel$Board" ⟨"ColourDuel$Board", "reachable", "(II)I"⟩ ⟨"ColourDuel$Board", "reachable", "(II)I"⟩ ∈ Tb := tb_of (i := 282) (by decide +kernel) rfl
theorem kw_283 : Cond.code ⟨"ColourDuel$Board", "reachable", "(II)I"⟩ prog_2_method_16_code 10 (Option.some FieldType.int) ∈ Tb := tb_of (i := 283) (by decide +kernel) rfl
theorem kw_284 : Cond.methodLink "ColourDuel$Board" 67 ⟨"java/lang/Integer", "bitCount", "(I)I"⟩ ∈ Tb := tb_of (i := 284) (by decide +kernel) rfl
theorem kw_285 : Cond.static ⟨"java/lang/Integer", "bitCount", "(I)I"⟩ ∈ Tb := tb_of (i := 285) (by decide +kernel) rfl
theorem kw_286 : Cond.code ⟨"java/lang/Integer", "bitCount", "(I)I"⟩ prog_16_method_49_code 1 (Option.some FieldType.int) ∈ Tb := tb_of (i := 286) (by decide +kernel) rfl
theorem kw_287 : Cond.constant "java/lang/Integer" 265 (1431655765 : Int32) ∈ Tb := tb_of (i := 287) (by decide +kernel) rfl
theorem kw_288 : Cond.constant "java/lang/Integer" 266 (858993459 : Int32) ∈ Tb := tb_of (i := 288) (by decide +kernel) rfl
theorem kw_289 : Cond.constant "java/lang/Integer" 267 (252645135 : Int32) ∈ Tb := tb_of (i := 289) (by decide +kernel) rfl
theorem kw_290 : Cond.methodLink "ColourDuel$Solver" 31 ⟨"ColourDuel$Solver", "placeOf", "(I)J"⟩ ∈ Tb := tb_of (i := 290) (by decide +kernel) rfl
theorem kw_292 : Cond.instanceMethod ⟨"ColourDuel$Solver", "placeOf", "(I)J"⟩ ∈ Tb := tb_of (i := 292) (by decide +kernel) rfl
theorem kw_293 : Cond.code ⟨"ColourDuel$Solver", "placeOf", "(I)J"⟩ prog_6_method_5_code 5 (Option.some FieldType.long) ∈ Tb := tb_of (i := 293) (by decide +kernel) rfl
theorem kw_294 : Cond.methodLink "ColourDuel$Solver" 67 ⟨"ColourDuel$Board", "banOf", "(I)I"⟩ ∈ Tb := tb_of (i := 294) (by decide +kernel) rfl
theorem kw_295 : Cond.instanceMethod ⟨"ColourDuel$Board", "banOf", "(I)I"⟩ ∈ Tb := tb_of (i := 295) (by decide +kernel) rfl
theorem kw_296 : Cond.selects "ColourDuel$Board" ⟨"ColourDuel$Board", "banOf", "(I)I"⟩ ⟨"ColourDuel$Board", "banOf", "(I)I"⟩ ∈ Tb := tb_of (i := 296) (by decide +kernel) rfl
theorem kw_297 : Cond.code ⟨"ColourDuel$Board", "banOf", "(I)I"⟩ prog_2_method_21_code 3 (Option.some FieldType.int) ∈ Tb := tb_of (i := 297) (by decide +kernel) rfl
theorem kw_298 : Cond.methodLink "ColourDuel$Solver" 70 ⟨"ColourDuel$Board", "openTo", "(I)I"⟩ ∈ Tb := tb_of (i := 298) (by decide +kernel) rfl
theorem kw_299 : Cond.instanceMethod ⟨"ColourDuel$Board", "openTo", "(I)I"⟩ ∈ Tb := tb_of (i := 299) (by decide +kernel) rfl
theorem kw_300 : Cond.selects "ColourDuel$Board" ⟨"ColourDuel$Board", "openTo", "(I)I"⟩ ⟨"ColourDuel$Board", "openTo", "(I)I"⟩ ∈ Tb := tb_of (i := 300) (by decide +kernel) rfl
theorem kw_301 : Cond.code ⟨"ColourDuel$Board", "openTo", "(I)I"⟩ prog_2_method_27_code 4 (Option.some FieldType.int) ∈ Tb := tb_of (i := 301) (by decide +kernel) rfl
theorem kn_302 : Cond.methodLinkNest "ColourDuel$Board" 90 ⟨"ColourDuel", "at", "([II)I"⟩ "ColourDuel" ∈ lw_tbl := tn_of (i := 302) (by decide +kernel)
theorem kw_303 : Cond.static ⟨"ColourDuel", "at", "([II)I"⟩ ∈ Tb := tb_of (i := 303) (by decide +kernel) rfl
theorem kw_304 : Cond.code ⟨"ColourDuel", "at", "([II)I"⟩ prog_1_method_36_code 2 (Option.some FieldType.int) ∈ Tb := tb_of (i := 304) (by decide +kernel) rfl
theorem kw_305 : Cond.methodLink "ColourDuel$Solver" 73 ⟨"ColourDuel$Solver", "setShift", "(I)I"⟩ ∈ Tb := tb_of (i := 305) (by decide +kernel) rfl
theorem kw_306 : Cond.static ⟨"ColourDuel$Solver", "setShift", "(I)I"⟩ ∈ Tb := tb_of (i := 306) (by decide +kernel) rfl
theorem kw_307 : Cond.code ⟨"ColourDuel$Solver", "setShift", "(I)I"⟩ prog_6_method_6_code 1 (Option.some FieldType.int) ∈ Tb := tb_of (i := 307) (by decide +kernel) rfl
theorem kw_308 : Cond.methodLink "ColourDuel$Solver" 35 ⟨"ColourDuel$Solver", "ofPlace", "(JI)I"⟩ ∈ Tb := tb_of (i := 308) (by decide +kernel) rfl
theorem kw_310 : Cond.instanceMethod ⟨"ColourDuel$Solver", "ofPlace", "(JI)I"⟩ ∈ Tb := tb_of (i := 310) (by decide +kernel) rfl
theorem kw_311 : Cond.code ⟨"ColourDuel$Solver", "ofPlace", "(JI)I"⟩ prog_6_method_9_code 6 (Option.some FieldType.int) ∈ Tb := tb_of (i := 311) (by decide +kernel) rfl
theorem kw_312 : Cond.constantLong "ColourDuel$Solver" 83 (-7046029254386353131 : Int64) ∈ Tb := tb_of (i := 312) (by decide +kernel) rfl
theorem kw_313 : Cond.methodLink "ColourDuel$Solver" 85 ⟨"ColourDuel$Solver", "workOut", "(JI)I"⟩ ∈ Tb := tb_of (i := 313) (by decide +kernel) rfl
theorem kw_315 : Cond.instanceMethod ⟨"ColourDuel$Solver", "workOut", "(JI)I"⟩ ∈ Tb := tb_of (i := 315) (by decide +kernel) rfl
theorem kw_316 : Cond.code ⟨"ColourDuel$Solver", "workOut", "(JI)I"⟩ prog_6_method_10_code 14 (Option.some FieldType.int) ∈ Tb := tb_of (i := 316) (by decide +kernel) rfl
theorem kw_317 : Cond.constantLong "ColourDuel$Solver" 88 (3 : Int64) ∈ Tb := tb_of (i := 317) (by decide +kernel) rfl
theorem kn_318 : Cond.methodLinkNest "ColourDuel$Solver" 90 ⟨"ColourDuel", "has", "(II)Z"⟩ "ColourDuel" ∈ lw_tbl := tn_of (i := 318) (by decide +kernel)
theorem kw_319 : Cond.static ⟨"ColourDuel", "has", "(II)Z"⟩ ∈ Tb := tb_of (i := 319) (by decide +kernel) rfl
theorem kw_320 : Cond.code ⟨"ColourDuel", "has", "(II)Z"⟩ prog_1_method_34_code 2 (Option.some FieldType.boolean) ∈ Tb := tb_of (i := 320) (by decide +kernel) rfl
theorem kw_321 : Cond.methodLink "ColourDuel$Solver" 46 ⟨"ColourDuel$Solver", "behind", "(JII)J"⟩ ∈ Tb := tb_of (i := 321) (by decide +kernel) rfl
theorem kw_323 : Cond.instanceMethod ⟨"ColourDuel$Solver", "behind", "(JII)J"⟩ ∈ Tb := tb_of (i := 323) (by decide +kernel) rfl
theorem kw_324 : Cond.code ⟨"ColourDuel$Solver", "behind", "(JII)J"⟩ prog_6_method_7_code 7 (Option.some FieldType.long) ∈ Tb := tb_of (i := 324) (by decide +kernel) rfl
theorem kw_325 : Cond.methodLink "ColourDuel$Solver" 76 ⟨"ColourDuel$Board", "neighbours", "(I)I"⟩ ∈ Tb := tb_of (i := 325) (by decide +kernel) rfl
theorem kw_326 : Cond.instanceMethod ⟨"ColourDuel$Board", "neighbours", "(I)I"⟩ ∈ Tb := tb_of (i := 326) (by decide +kernel) rfl
theorem kw_327 : Cond.selects "ColourDuel$Board" ⟨"ColourDuel$Board", "neighbours", "(I)I"⟩ ⟨"ColourDuel$Board", "neighbours", "(I)I"⟩ ∈ Tb := tb_of (i := 327) (by decide +kernel) rfl
theorem kw_328 : Cond.code ⟨"ColourDuel$Board", "neighbours", "(I)I"⟩ prog_2_method_11_code 2 (Option.some FieldType.int) ∈ Tb := tb_of (i := 328) (by decide +kernel) rfl
theorem kw_329 : Cond.constantLong "ColourDuel$Solver" 60 (134480385 : Int64) ∈ Tb := tb_of (i := 329) (by decide +kernel) rfl
theorem kw_330 : Cond.constantLong "ColourDuel$Solver" 79 (206158430208 : Int64) ∈ Tb := tb_of (i := 330) (by decide +kernel) rfl
theorem kw_331 : Cond.constantLong "ColourDuel$Solver" 62 (-1 : Int64) ∈ Tb := tb_of (i := 331) (by decide +kernel) rfl
theorem kw_332 : Cond.methodLink "ColourDuel$Solver" 57 ⟨"ColourDuel$Solver", "ofPieces", "(JI)I"⟩ ∈ Tb := tb_of (i := 332) (by decide +kernel) rfl
theorem kw_334 : Cond.instanceMethod ⟨"ColourDuel$Solver", "ofPieces", "(JI)I"⟩ ∈ Tb := tb_of (i := 334) (by decide +kernel) rfl
theorem kw_335 : Cond.code ⟨"ColourDuel$Solver", "ofPieces", "(JI)I"⟩ prog_6_method_8_code 10 (Option.some FieldType.int) ∈ Tb := tb_of (i := 335) (by decide +kernel) rfl
theorem kw_336 : Cond.constantLong "ColourDuel$Solver" 81 (-68719476736 : Int64) ∈ Tb := tb_of (i := 336) (by decide +kernel) rfl
theorem kn_337 : Cond.methodLinkNest "ColourDuel$Solver" 39 ⟨"ColourDuel", "together", "(II)I"⟩ "ColourDuel" ∈ lw_tbl := tn_of (i := 337) (by decide +kernel)
theorem kw_338 : Cond.static ⟨"ColourDuel", "together", "(II)I"⟩ ∈ Tb := tb_of (i := 338) (by decide +kernel) rfl
theorem kw_339 : Cond.code ⟨"ColourDuel", "together", "(II)I"⟩ prog_1_method_45_code 3 (Option.some FieldType.int) ∈ Tb := tb_of (i := 339) (by decide +kernel) rfl
theorem kn_340 : Cond.methodLinkNest "ColourDuel$Solver" 94 ⟨"ColourDuel", "valueIn", "(I)I"⟩ "ColourDuel" ∈ lw_tbl := tn_of (i := 340) (by decide +kernel)
theorem kw_341 : Cond.static ⟨"ColourDuel", "valueIn", "(I)I"⟩ ∈ Tb := tb_of (i := 341) (by decide +kernel) rfl
theorem kw_342 : Cond.code ⟨"ColourDuel", "valueIn", "(I)I"⟩ prog_1_method_42_code 1 (Option.some FieldType.int) ∈ Tb := tb_of (i := 342) (by decide +kernel) rfl
theorem kn_343 : Cond.methodLinkNest "ColourDuel$Solver" 97 ⟨"ColourDuel", "longestIn", "(I)I"⟩ "ColourDuel" ∈ lw_tbl := tn_of (i := 343) (by decide +kernel)
theorem kw_344 : Cond.static ⟨"ColourDuel", "longestIn", "(I)I"⟩ ∈ Tb := tb_of (i := 344) (by decide +kernel) rfl
theorem kw_345 : Cond.code ⟨"ColourDuel", "longestIn", "(I)I"⟩ prog_1_method_43_code 1 (Option.some FieldType.int) ∈ Tb := tb_of (i := 345) (by decide +kernel) rfl
theorem kw_346 : Cond.methodLink "ColourDuel$Solver" 100 ⟨"java/lang/Math", "max", "(II)I"⟩ ∈ Tb := tb_of (i := 346) (by decide +kernel) rfl
theorem kn_349 : Cond.methodLinkNest "ColourDuel$Solver" 105 ⟨"ColourDuel", "shortestIn", "(I)I"⟩ "ColourDuel" ∈ lw_tbl := tn_of (i := 349) (by decide +kernel)
theorem kw_350 : Cond.static ⟨"ColourDuel", "shortestIn", "(I)I"⟩ ∈ Tb := tb_of (i := 350) (by decide +kernel) rfl
theorem kw_351 : Cond.code ⟨"ColourDuel", "shortestIn", "(I)I"⟩ prog_1_method_44_code 1 (Option.some FieldType.int) ∈ Tb := tb_of (i := 351) (by decide +kernel) rfl
theorem kw_352 : Cond.methodLink "ColourDuel$Solver" 108 ⟨"java/lang/Math", "min", "(II)I"⟩ ∈ Tb := tb_of (i := 352) (by decide +kernel) rfl
theorem kn_355 : Cond.methodLinkNest "ColourDuel$Solver" 111 ⟨"ColourDuel", "least", "(I)I"⟩ "ColourDuel" ∈ lw_tbl := tn_of (i := 355) (by decide +kernel)
theorem kw_356 : Cond.static ⟨"ColourDuel", "least", "(I)I"⟩ ∈ Tb := tb_of (i := 356) (by decide +kernel) rfl
theorem kw_357 : Cond.code ⟨"ColourDuel", "least", "(I)I"⟩ prog_1_method_35_code 1 (Option.some FieldType.int) ∈ Tb := tb_of (i := 357) (by decide +kernel) rfl
theorem kw_358 : Cond.methodLink "ColourDuel" 107 ⟨"java/lang/Integer", "bitCount", "(I)I"⟩ ∈ Tb := tb_of (i := 358) (by decide +kernel) rfl
theorem kn_359 : Cond.methodLinkNest "ColourDuel$Solver" 114 ⟨"ColourDuel", "answerOf", "(III)I"⟩ "ColourDuel" ∈ lw_tbl := tn_of (i := 359) (by decide +kernel)
theorem kw_360 : Cond.static ⟨"ColourDuel", "answerOf", "(III)I"⟩ ∈ Tb := tb_of (i := 360) (by decide +kernel) rfl
theorem kw_361 : Cond.code ⟨"ColourDuel", "answerOf", "(III)I"⟩ prog_1_method_41_code 3 (Option.some FieldType.int) ∈ Tb := tb_of (i := 361) (by decide +kernel) rfl
theorem kw_362 : Cond.methodLink "ColourDuel" 189 ⟨"ColourDuel", "valueIn", "(I)I"⟩ ∈ Tb := tb_of (i := 362) (by decide +kernel) rfl
theorem kw_363 : Cond.methodLink "ColourDuel" 131 ⟨"ColourDuel$Board", "passValue", "()I"⟩ ∈ Tb := tb_of (i := 363) (by decide +kernel) rfl
theorem kw_364 : Cond.instanceMethod ⟨"ColourDuel$Board", "passValue", "()I"⟩ ∈ Tb := tb_of (i := 364) (by decide +kernel) rfl
theorem kw_365 : Cond.selects "ColourDuel$Board" ⟨"ColourDuel$Board", "passValue", "()I"⟩ ⟨"ColourDuel$Board", "passValue", "()I"⟩ ∈ Tb := tb_of (i := 365) (by decide +kernel) rfl
theorem kw_366 : Cond.code ⟨"ColourDuel$Board", "passValue", "()I"⟩ prog_2_method_30_code 1 (Option.some FieldType.int) ∈ Tb := tb_of (i := 366) (by decide +kernel) rfl
theorem kw_370 : Cond.code ⟨"ColourDuel", "winningMoves", "()I"⟩ prog_1_method_11_code 3 (Option.some FieldType.int) ∈ Tb := tb_of (i := 370) (by decide +kernel) rfl
theorem kw_371 : Cond.methodLink "ColourDuel" 208 ⟨"ColourDuel", "passWins", "()Z"⟩ ∈ Tb := tb_of (i := 371) (by decide +kernel) rfl
theorem kw_373 : Cond.instanceMethod ⟨"ColourDuel", "passWins", "()Z"⟩ ∈ Tb := tb_of (i := 373) (by decide +kernel) rfl
theorem kw_374 : Cond.code ⟨"ColourDuel", "passWins", "()Z"⟩ prog_1_method_31_code 2 (Option.some FieldType.boolean) ∈ Tb := tb_of (i := 374) (by decide +kernel) rfl
theorem kw_375 : Cond.methodLink "ColourDuel" 211 ⟨"ColourDuel", "winnersOn", "(I)I"⟩ ∈ Tb := tb_of (i := 375) (by decide +kernel) rfl
theorem kw_377 : Cond.instanceMethod ⟨"ColourDuel", "winnersOn", "(I)I"⟩ ∈ Tb := tb_of (i := 377) (by decide +kernel) rfl
theorem kw_378 : Cond.code ⟨"ColourDuel", "winnersOn", "(I)I"⟩ prog_1_method_30_code 5 (Option.some FieldType.int) ∈ Tb := tb_of (i := 378) (by decide +kernel) rfl
theorem kw_379 : Cond.methodLink "ColourDuel" 151 ⟨"ColourDuel$Board", "choicesOn", "(I)I"⟩ ∈ Tb := tb_of (i := 379) (by decide +kernel) rfl
theorem kw_380 : Cond.instanceMethod ⟨"ColourDuel$Board", "choicesOn", "(I)I"⟩ ∈ Tb := tb_of (i := 380) (by decide +kernel) rfl
theorem kw_381 : Cond.selects "ColourDuel$Board" ⟨"ColourDuel$Board", "choicesOn", "(I)I"⟩ ⟨"ColourDuel$Board", "choicesOn", "(I)I"⟩ ∈ Tb := tb_of (i := 381) (by decide +kernel) rfl
theorem kw_382 : Cond.code ⟨"ColourDuel$Board", "choicesOn", "(I)I"⟩ prog_2_method_24_code 4 (Option.some FieldType.int) ∈ Tb := tb_of (i := 382) (by decide +kernel) rfl
theorem kw_383 : Cond.methodLink "ColourDuel$Board" 96 ⟨"ColourDuel$Board", "whyNot", "(II)I"⟩ ∈ Tb := tb_of (i := 383) (by decide +kernel) rfl
theorem kw_384 : Cond.instanceMethod ⟨"ColourDuel$Board", "whyNot", "(II)I"⟩ ∈ Tb := tb_of (i := 384) (by decide +kernel) rfl
theorem kw_385 : Cond.selects "ColourDuel$Board" ⟨"ColourDuel$Board", "whyNot", "(II)I"⟩ ⟨"ColourDuel$Board", "whyNot", "(II)I"⟩ ∈ Tb := tb_of (i := 385) (by decide +kernel) rfl
theorem kw_386 : Cond.code ⟨"ColourDuel$Board", "whyNot", "(II)I"⟩ prog_2_method_23_code 4 (Option.some FieldType.int) ∈ Tb := tb_of (i := 386) (by decide +kernel) rfl
theorem kw_387 : Cond.methodLink "ColourDuel$Board" 87 ⟨"ColourDuel$Board", "isFree", "(I)Z"⟩ ∈ Tb := tb_of (i := 387) (by decide +kernel) rfl
theorem kw_388 : Cond.instanceMethod ⟨"ColourDuel$Board", "isFree", "(I)Z"⟩ ∈ Tb := tb_of (i := 388) (by decide +kernel) rfl
theorem kw_389 : Cond.selects "ColourDuel$Board" ⟨"ColourDuel$Board", "isFree", "(I)Z"⟩ ⟨"ColourDuel$Board", "isFree", "(I)Z"⟩ ∈ Tb := tb_of (i := 389) (by decide +kernel) rfl
theorem kw_390 : Cond.code ⟨"ColourDuel$Board", "isFree", "(I)Z"⟩ prog_2_method_15_code 2 (Option.some FieldType.boolean) ∈ Tb := tb_of (i := 390) (by decide +kernel) rfl
theorem kn_391 : Cond.methodLinkNest "ColourDuel$Board" 55 ⟨"ColourDuel", "has", "(II)Z"⟩ "ColourDuel" ∈ lw_tbl := tn_of (i := 391) (by decide +kernel)
theorem kw_392 : Cond.methodLink "ColourDuel$Board" 93 ⟨"ColourDuel$Board", "neighbours", "(I)I"⟩ ∈ Tb := tb_of (i := 392) (by decide +kernel) rfl
theorem kw_393 : Cond.methodLink "ColourDuel" 293 ⟨"ColourDuel", "has", "(II)Z"⟩ ∈ Tb := tb_of (i := 393) (by decide +kernel) rfl
theorem kw_394 : Cond.methodLink "ColourDuel" 205 ⟨"ColourDuel$Solver", "behindLay", "(II)I"⟩ ∈ Tb := tb_of (i := 394) (by decide +kernel) rfl
theorem kw_395 : Cond.instanceMethod ⟨"ColourDuel$Solver", "behindLay", "(II)I"⟩ ∈ Tb := tb_of (i := 395) (by decide +kernel) rfl
theorem kw_396 : Cond.selects "ColourDuel$Solver" ⟨"ColourDuel$Solver", "behindLay", "(II)I"⟩ ⟨"ColourDuel$Solver", "behindLay", "(II)I"⟩ ∈ Tb := tb_of (i := 396) (by decide +kernel) rfl
theorem kw_397 : Cond.code ⟨"ColourDuel$Solver", "behindLay", "(II)I"⟩ prog_6_method_3_code 6 (Option.some FieldType.int) ∈ Tb := tb_of (i := 397) (by decide +kernel) rfl
theorem kw_398 : Cond.methodLink "ColourDuel$Solver" 42 ⟨"ColourDuel$Board", "partWith", "(I)I"⟩ ∈ Tb := tb_of (i := 398) (by decide +kernel) rfl
theorem kw_399 : Cond.instanceMethod ⟨"ColourDuel$Board", "partWith", "(I)I"⟩ ∈ Tb := tb_of (i := 399) (by decide +kernel) rfl
theorem kw_400 : Cond.selects "ColourDuel$Board" ⟨"ColourDuel$Board", "partWith", "(I)I"⟩ ⟨"ColourDuel$Board", "partWith", "(I)I"⟩ ∈ Tb := tb_of (i := 400) (by decide +kernel) rfl
theorem kw_401 : Cond.code ⟨"ColourDuel$Board", "partWith", "(I)I"⟩ prog_2_method_17_code 2 (Option.some FieldType.int) ∈ Tb := tb_of (i := 401) (by decide +kernel) rfl
theorem kw_402 : Cond.methodLink "ColourDuel$Board" 77 ⟨"ColourDuel$Board", "reachable", "(II)I"⟩ ∈ Tb := tb_of (i := 402) (by decide +kernel) rfl
theorem kw_403 : Cond.methodLink "ColourDuel$Solver" 54 ⟨"ColourDuel$Solver", "ofPartsIn", "(I)I"⟩ ∈ Tb := tb_of (i := 403) (by decide +kernel) rfl
theorem kw_405 : Cond.instanceMethod ⟨"ColourDuel", "longest", "()I"⟩ ∈ Tb := tb_of (i := 405) (by decide +kernel) rfl
theorem kw_406 : Cond.selects "ColourDuel" ⟨"ColourDuel", "longest", "()I"⟩ ⟨"ColourDuel", "longest", "()I"⟩ ∈ Tb := tb_of (i := 406) (by decide +kernel) rfl
theorem kw_407 : Cond.code ⟨"ColourDuel", "longest", "()I"⟩ prog_1_method_13_code 1 (Option.some FieldType.int) ∈ Tb := tb_of (i := 407) (by decide +kernel) rfl
theorem kw_408 : Cond.methodLink "ColourDuel" 192 ⟨"ColourDuel", "longestIn", "(I)I"⟩ ∈ Tb := tb_of (i := 408) (by decide +kernel) rfl
theorem kw_412 : Cond.code ⟨"ColourDuel", "shortest", "()I"⟩ prog_1_method_14_code 1 (Option.some FieldType.int) ∈ Tb := tb_of (i := 412) (by decide +kernel) rfl
theorem kw_413 : Cond.methodLink "ColourDuel" 195 ⟨"ColourDuel", "shortestIn", "(I)I"⟩ ∈ Tb := tb_of (i := 413) (by decide +kernel) rfl
theorem kw_417 : Cond.code ⟨"ColourDuel", "meanValue", "()F"⟩ prog_1_method_15_code 4 (Option.some FieldType.float) ∈ Tb := tb_of (i := 417) (by decide +kernel) rfl
theorem kw_418 : Cond.methodLink "ColourDuel" 112 ⟨"ColourDuel$Board", "partsIn", "(I)I"⟩ ∈ Tb := tb_of (i := 418) (by decide +kernel) rfl
theorem kw_419 : Cond.instanceMethod ⟨"ColourDuel$Board", "partsIn", "(I)I"⟩ ∈ Tb := tb_of (i := 419) (by decide +kernel) rfl
theorem kw_420 : Cond.selects "ColourDuel$Board" ⟨"ColourDuel$Board", "partsIn", "(I)I"⟩ ⟨"ColourDuel$Board", "partsIn", "(I)I"⟩ ∈ Tb := tb_of (i := 420) (by decide +kernel) rfl
theorem kw_421 : Cond.code ⟨"ColourDuel$Board", "partsIn", "(I)I"⟩ prog_2_method_18_code 4 (Option.some FieldType.int) ∈ Tb := tb_of (i := 421) (by decide +kernel) rfl
theorem kw_422 : Cond.methodLink "ColourDuel" 175 ⟨"ColourDuel$Board", "partAt", "(I)I"⟩ ∈ Tb := tb_of (i := 422) (by decide +kernel) rfl
theorem kw_423 : Cond.instanceMethod ⟨"ColourDuel$Board", "partAt", "(I)I"⟩ ∈ Tb := tb_of (i := 423) (by decide +kernel) rfl
theorem kw_424 : Cond.selects "ColourDuel$Board" ⟨"ColourDuel$Board", "partAt", "(I)I"⟩ ⟨"ColourDuel$Board", "partAt", "(I)I"⟩ ∈ Tb := tb_of (i := 424) (by decide +kernel) rfl
theorem kw_425 : Cond.code ⟨"ColourDuel$Board", "partAt", "(I)I"⟩ prog_2_method_19_code 4 (Option.some FieldType.int) ∈ Tb := tb_of (i := 425) (by decide +kernel) rfl
theorem kw_429 : Cond.code ⟨"ColourDuel", "writeBoard", "()I"⟩ prog_1_method_25_code 2 (Option.some FieldType.int) ∈ Tb := tb_of (i := 429) (by decide +kernel) rfl
theorem kw_430 : Cond.methodLink "ColourDuel" 157 ⟨"ColourDuel$Board", "isFree", "(I)Z"⟩ ∈ Tb := tb_of (i := 430) (by decide +kernel) rfl
theorem kw_431 : Cond.methodLink "ColourDuel" 145 ⟨"ColourDuel$Board", "colourOf", "(I)I"⟩ ∈ Tb := tb_of (i := 431) (by decide +kernel) rfl
theorem kw_432 : Cond.instanceMethod ⟨"ColourDuel$Board", "colourOf", "(I)I"⟩ ∈ Tb := tb_of (i := 432) (by decide +kernel) rfl
theorem kw_433 : Cond.selects "ColourDuel$Board" ⟨"ColourDuel$Board", "colourOf", "(I)I"⟩ ⟨"ColourDuel$Board", "colourOf", "(I)I"⟩ ∈ Tb := tb_of (i := 433) (by decide +kernel) rfl
theorem kw_434 : Cond.code ⟨"ColourDuel$Board", "colourOf", "(I)I"⟩ prog_2_method_22_code 3 (Option.some FieldType.int) ∈ Tb := tb_of (i := 434) (by decide +kernel) rfl
theorem kw_435 : Cond.methodLink "ColourDuel$Board" 73 ⟨"ColourDuel$Board", "coloursAt", "([II)I"⟩ ∈ Tb := tb_of (i := 435) (by decide +kernel) rfl
theorem kw_437 : Cond.instanceMethod ⟨"ColourDuel$Board", "coloursAt", "([II)I"⟩ ∈ Tb := tb_of (i := 437) (by decide +kernel) rfl
theorem kw_438 : Cond.code ⟨"ColourDuel$Board", "coloursAt", "([II)I"⟩ prog_2_method_14_code 5 (Option.some FieldType.int) ∈ Tb := tb_of (i := 438) (by decide +kernel) rfl
theorem kn_439 : Cond.methodLinkNest "ColourDuel$Board" 84 ⟨"ColourDuel", "least", "(I)I"⟩ "ColourDuel" ∈ lw_tbl := tn_of (i := 439) (by decide +kernel)
theorem kw_440 : Cond.methodLink "ColourDuel" 272 ⟨"ColourDuel", "write", "(I)V"⟩ ∈ Tb := tb_of (i := 440) (by decide +kernel) rfl
theorem kw_442 : Cond.instanceMethod ⟨"ColourDuel", "write", "(I)V"⟩ ∈ Tb := tb_of (i := 442) (by decide +kernel) rfl
theorem kw_443 : Cond.code ⟨"ColourDuel", "write", "(I)V"⟩ prog_1_method_33_code 2 (Option.none : Option FieldType) ∈ Tb := tb_of (i := 443) (by decide +kernel) rfl
theorem kw_444 : Cond.methodLink "ColourDuel" 115 ⟨"ColourDuel$Board", "turn", "()I"⟩ ∈ Tb := tb_of (i := 444) (by decide +kernel) rfl
theorem kw_445 : Cond.instanceMethod ⟨"ColourDuel$Board", "turn", "()I"⟩ ∈ Tb := tb_of (i := 445) (by decide +kernel) rfl
theorem kw_446 : Cond.selects "ColourDuel$Board" ⟨"ColourDuel$Board", "turn", "()I"⟩ ⟨"ColourDuel$Board", "turn", "()I"⟩ ∈ Tb := tb_of (i := 446) (by decide +kernel) rfl
theorem kw_447 : Cond.code ⟨"ColourDuel$Board", "turn", "()I"⟩ prog_2_method_28_code 1 (Option.some FieldType.int) ∈ Tb := tb_of (i := 447) (by decide +kernel) rfl
theorem kw_455 : Cond.code ⟨"ColourDuel", "append", "(IIIII)I"⟩ prog_1_method_2_code 6 (Option.some FieldType.int) ∈ Tb := tb_of (i := 455) (by decide +kernel) rfl
theorem kw_456 : Cond.classLink "ColourDuel" 49 "java/lang/IllegalStateException" ∈ Tb := tb_of (i := 456) (by decide +kernel) rfl
theorem kn_498 : Cond.stringRef "ColourDuel" 51 "the text buffer is full" ∈ lw_tbl := tn_of (i := 498) (by decide +kernel)
theorem kw_499 : Cond.methodLink "ColourDuel" 53 ⟨"java/lang/IllegalStateException", "<init>", "(Ljava/lang/String;)V"⟩ ∈ Tb := tb_of (i := 499) (by decide +kernel) rfl
theorem kw_524 : Cond.methodLink "ColourDuel" 56 ⟨"ColourDuel$Reader", "addFour", "(I)V"⟩ ∈ Tb := tb_of (i := 524) (by decide +kernel) rfl
theorem kw_525 : Cond.instanceMethod ⟨"ColourDuel$Reader", "addFour", "(I)V"⟩ ∈ Tb := tb_of (i := 525) (by decide +kernel) rfl
theorem kw_526 : Cond.selects "ColourDuel$Reader" ⟨"ColourDuel$Reader", "addFour", "(I)V"⟩ ⟨"ColourDuel$Reader", "addFour", "(I)V"⟩ ∈ Tb := tb_of (i := 526) (by decide +kernel) rfl
theorem kw_527 : Cond.code ⟨"ColourDuel$Reader", "addFour", "(I)V"⟩ prog_5_method_2_code 3 (Option.none : Option FieldType) ∈ Tb := tb_of (i := 527) (by decide +kernel) rfl
theorem kw_535 : Cond.code ⟨"ColourDuel", "load", "(I)I"⟩ prog_1_method_3_code 3 (Option.some FieldType.int) ∈ Tb := tb_of (i := 535) (by decide +kernel) rfl
theorem kw_536 : Cond.classLink "ColourDuel" 60 "java/lang/IllegalArgumentException" ∈ Tb := tb_of (i := 536) (by decide +kernel) rfl
theorem kn_545 : Cond.stringRef "ColourDuel" 62 "no such length" ∈ lw_tbl := tn_of (i := 545) (by decide +kernel)
theorem kw_546 : Cond.methodLink "ColourDuel" 64 ⟨"java/lang/IllegalArgumentException", "<init>", "(Ljava/lang/String;)V"⟩ ∈ Tb := tb_of (i := 546) (by decide +kernel) rfl
theorem kw_552 : Cond.methodLink "ColourDuel" 65 ⟨"ColourDuel$Reader", "readText", "(I)I"⟩ ∈ Tb := tb_of (i := 552) (by decide +kernel) rfl
theorem kw_553 : Cond.instanceMethod ⟨"ColourDuel$Reader", "readText", "(I)I"⟩ ∈ Tb := tb_of (i := 553) (by decide +kernel) rfl
theorem kw_554 : Cond.selects "ColourDuel$Reader" ⟨"ColourDuel$Reader", "readText", "(I)I"⟩ ⟨"ColourDuel$Reader", "readText", "(I)I"⟩ ∈ Tb := tb_of (i := 554) (by decide +kernel) rfl
theorem kw_555 : Cond.code ⟨"ColourDuel$Reader", "readText", "(I)I"⟩ prog_5_method_3_code 3 (Option.some FieldType.int) ∈ Tb := tb_of (i := 555) (by decide +kernel) rfl
theorem kw_556 : Cond.methodLink "ColourDuel$Reader" 35 ⟨"ColourDuel$Reader", "advance", "()V"⟩ ∈ Tb := tb_of (i := 556) (by decide +kernel) rfl
theorem kw_558 : Cond.instanceMethod ⟨"ColourDuel$Reader", "advance", "()V"⟩ ∈ Tb := tb_of (i := 558) (by decide +kernel) rfl
theorem kw_559 : Cond.code ⟨"ColourDuel$Reader", "advance", "()V"⟩ prog_5_method_18_code 2 (Option.none : Option FieldType) ∈ Tb := tb_of (i := 559) (by decide +kernel) rfl
theorem kw_560 : Cond.methodLink "ColourDuel$Reader" 163 ⟨"ColourDuel$Reader", "byteAt", "(I)I"⟩ ∈ Tb := tb_of (i := 560) (by decide +kernel) rfl
theorem kw_562 : Cond.instanceMethod ⟨"ColourDuel$Reader", "byteAt", "(I)I"⟩ ∈ Tb := tb_of (i := 562) (by decide +kernel) rfl
theorem kw_563 : Cond.code ⟨"ColourDuel$Reader", "byteAt", "(I)I"⟩ prog_5_method_19_code 3 (Option.some FieldType.int) ∈ Tb := tb_of (i := 563) (by decide +kernel) rfl
theorem kw_564 : Cond.methodLink "ColourDuel$Reader" 170 ⟨"ColourDuel$Reader", "isLetter", "(I)Z"⟩ ∈ Tb := tb_of (i := 564) (by decide +kernel) rfl
theorem kw_565 : Cond.static ⟨"ColourDuel$Reader", "isLetter", "(I)Z"⟩ ∈ Tb := tb_of (i := 565) (by decide +kernel) rfl
theorem kw_566 : Cond.code ⟨"ColourDuel$Reader", "isLetter", "(I)Z"⟩ prog_5_method_20_code 1 (Option.some FieldType.boolean) ∈ Tb := tb_of (i := 566) (by decide +kernel) rfl
theorem kw_567 : Cond.methodLink "ColourDuel$Reader" 173 ⟨"ColourDuel$Reader", "isDigit", "(I)Z"⟩ ∈ Tb := tb_of (i := 567) (by decide +kernel) rfl
theorem kw_568 : Cond.static ⟨"ColourDuel$Reader", "isDigit", "(I)Z"⟩ ∈ Tb := tb_of (i := 568) (by decide +kernel) rfl
theorem kw_569 : Cond.code ⟨"ColourDuel$Reader", "isDigit", "(I)Z"⟩ prog_5_method_21_code 1 (Option.some FieldType.boolean) ∈ Tb := tb_of (i := 569) (by decide +kernel) rfl
theorem kw_570 : Cond.methodLink "ColourDuel$Reader" 176 ⟨"java/lang/Math", "min", "(II)I"⟩ ∈ Tb := tb_of (i := 570) (by decide +kernel) rfl
theorem kw_571 : Cond.methodLink "ColourDuel$Reader" 38 ⟨"ColourDuel$Reader", "readHead", "()Z"⟩ ∈ Tb := tb_of (i := 571) (by decide +kernel) rfl
theorem kw_573 : Cond.instanceMethod ⟨"ColourDuel$Reader", "readHead", "()Z"⟩ ∈ Tb := tb_of (i := 573) (by decide +kernel) rfl
theorem kw_574 : Cond.code ⟨"ColourDuel$Reader", "readHead", "()Z"⟩ prog_5_method_4_code 3 (Option.some FieldType.boolean) ∈ Tb := tb_of (i := 574) (by decide +kernel) rfl
theorem kn_575 : Cond.stringRef "ColourDuel$Reader" 57 "colours" ∈ lw_tbl := tn_of (i := 575) (by decide +kernel)
theorem kw_576 : Cond.methodLink "ColourDuel$Reader" 59 ⟨"ColourDuel$Reader", "readWord", "(Ljava/lang/String;)Z"⟩ ∈ Tb := tb_of (i := 576) (by decide +kernel) rfl
theorem kw_578 : Cond.instanceMethod ⟨"ColourDuel$Reader", "readWord", "(Ljava/lang/String;)Z"⟩ ∈ Tb := tb_of (i := 578) (by decide +kernel) rfl
theorem kw_579 : Cond.code ⟨"ColourDuel$Reader", "readWord", "(Ljava/lang/String;)Z"⟩ prog_5_method_13_code 2 (Option.some FieldType.boolean) ∈ Tb := tb_of (i := 579) (by decide +kernel) rfl
theorem kw_580 : Cond.methodLink "ColourDuel$Reader" 73 ⟨"ColourDuel$Reader", "atWord", "(Ljava/lang/String;)Z"⟩ ∈ Tb := tb_of (i := 580) (by decide +kernel) rfl
theorem kw_582 : Cond.instanceMethod ⟨"ColourDuel$Reader", "atWord", "(Ljava/lang/String;)Z"⟩ ∈ Tb := tb_of (i := 582) (by decide +kernel) rfl
theorem kw_583 : Cond.code ⟨"ColourDuel$Reader", "atWord", "(Ljava/lang/String;)Z"⟩ prog_5_method_16_code 3 (Option.some FieldType.boolean) ∈ Tb := tb_of (i := 583) (by decide +kernel) rfl
theorem kw_584 : Cond.methodLink "ColourDuel$Reader" 159 ⟨"java/lang/String", "length", "()I"⟩ ∈ Tb := tb_of (i := 584) (by decide +kernel) rfl
theorem kw_594 : Cond.methodLink "ColourDuel$Reader" 166 ⟨"java/lang/String", "charAt", "(I)C"⟩ ∈ Tb := tb_of (i := 594) (by decide +kernel) rfl
theorem kw_632 : Cond.methodLink "ColourDuel$Reader" 89 ⟨"ColourDuel$Reader", "fail", "(I)Z"⟩ ∈ Tb := tb_of (i := 632) (by decide +kernel) rfl
theorem kw_634 : Cond.instanceMethod ⟨"ColourDuel$Reader", "fail", "(I)Z"⟩ ∈ Tb := tb_of (i := 634) (by decide +kernel) rfl
theorem kw_635 : Cond.code ⟨"ColourDuel$Reader", "fail", "(I)Z"⟩ prog_5_method_22_code 2 (Option.some FieldType.boolean) ∈ Tb := tb_of (i := 635) (by decide +kernel) rfl
theorem kw_636 : Cond.methodLink "ColourDuel$Reader" 63 ⟨"ColourDuel$Reader", "readNumber", "(II)I"⟩ ∈ Tb := tb_of (i := 636) (by decide +kernel) rfl
theorem kw_638 : Cond.instanceMethod ⟨"ColourDuel$Reader", "readNumber", "(II)I"⟩ ∈ Tb := tb_of (i := 638) (by decide +kernel) rfl
theorem kw_639 : Cond.code ⟨"ColourDuel$Reader", "readNumber", "(II)I"⟩ prog_5_method_14_code 4 (Option.some FieldType.int) ∈ Tb := tb_of (i := 639) (by decide +kernel) rfl
theorem kw_640 : Cond.methodLink "ColourDuel$Reader" 67 ⟨"ColourDuel$Board", "startEmpty", "(I)V"⟩ ∈ Tb := tb_of (i := 640) (by decide +kernel) rfl
theorem kw_641 : Cond.instanceMethod ⟨"ColourDuel$Board", "startEmpty", "(I)V"⟩ ∈ Tb := tb_of (i := 641) (by decide +kernel) rfl
theorem kw_642 : Cond.selects "ColourDuel$Board" ⟨"ColourDuel$Board", "startEmpty", "(I)V"⟩ ⟨"ColourDuel$Board", "startEmpty", "(I)V"⟩ ∈ Tb := tb_of (i := 642) (by decide +kernel) rfl
theorem kw_643 : Cond.code ⟨"ColourDuel$Board", "startEmpty", "(I)V"⟩ prog_2_method_3_code 2 (Option.none : Option FieldType) ∈ Tb := tb_of (i := 643) (by decide +kernel) rfl
theorem kn_644 : Cond.methodLinkNest "ColourDuel$Board" 51 ⟨"ColourDuel", "clearRow", "([I)V"⟩ "ColourDuel" ∈ lw_tbl := tn_of (i := 644) (by decide +kernel)
theorem kw_645 : Cond.static ⟨"ColourDuel", "clearRow", "([I)V"⟩ ∈ Tb := tb_of (i := 645) (by decide +kernel) rfl
theorem kw_646 : Cond.code ⟨"ColourDuel", "clearRow", "([I)V"⟩ prog_1_method_39_code 2 (Option.none : Option FieldType) ∈ Tb := tb_of (i := 646) (by decide +kernel) rfl
theorem kn_647 : Cond.stringRef "ColourDuel$Reader" 71 "passes" ∈ lw_tbl := tn_of (i := 647) (by decide +kernel)
theorem kw_648 : Cond.methodLink "ColourDuel$Reader" 78 ⟨"ColourDuel$Reader", "readSemicolon", "()Z"⟩ ∈ Tb := tb_of (i := 648) (by decide +kernel) rfl
theorem kw_650 : Cond.instanceMethod ⟨"ColourDuel$Reader", "readSemicolon", "()Z"⟩ ∈ Tb := tb_of (i := 650) (by decide +kernel) rfl
theorem kw_651 : Cond.code ⟨"ColourDuel$Reader", "readSemicolon", "()Z"⟩ prog_5_method_15_code 1 (Option.some FieldType.boolean) ∈ Tb := tb_of (i := 651) (by decide +kernel) rfl
theorem kw_652 : Cond.methodLink "ColourDuel$Reader" 42 ⟨"ColourDuel$Reader", "readVertices", "()Z"⟩ ∈ Tb := tb_of (i := 652) (by decide +kernel) rfl
theorem kw_654 : Cond.instanceMethod ⟨"ColourDuel$Reader", "readVertices", "()Z"⟩ ∈ Tb := tb_of (i := 654) (by decide +kernel) rfl
theorem kw_655 : Cond.code ⟨"ColourDuel$Reader", "readVertices", "()Z"⟩ prog_5_method_5_code 3 (Option.some FieldType.boolean) ∈ Tb := tb_of (i := 655) (by decide +kernel) rfl
theorem kw_656 : Cond.methodLink "ColourDuel$Reader" 81 ⟨"ColourDuel$Reader", "readVertex", "()Z"⟩ ∈ Tb := tb_of (i := 656) (by decide +kernel) rfl
theorem kw_658 : Cond.instanceMethod ⟨"ColourDuel$Reader", "readVertex", "()Z"⟩ ∈ Tb := tb_of (i := 658) (by decide +kernel) rfl
theorem kw_659 : Cond.code ⟨"ColourDuel$Reader", "readVertex", "()Z"⟩ prog_5_method_6_code 2 (Option.some FieldType.boolean) ∈ Tb := tb_of (i := 659) (by decide +kernel) rfl
theorem kn_660 : Cond.stringRef "ColourDuel$Reader" 84 "vertex" ∈ lw_tbl := tn_of (i := 660) (by decide +kernel)
theorem kw_661 : Cond.methodLink "ColourDuel$Reader" 86 ⟨"ColourDuel$Board", "isFull", "()Z"⟩ ∈ Tb := tb_of (i := 661) (by decide +kernel) rfl
theorem kw_662 : Cond.instanceMethod ⟨"ColourDuel$Board", "isFull", "()Z"⟩ ∈ Tb := tb_of (i := 662) (by decide +kernel) rfl
theorem kw_663 : Cond.selects "ColourDuel$Board" ⟨"ColourDuel$Board", "isFull", "()Z"⟩ ⟨"ColourDuel$Board", "isFull", "()Z"⟩ ∈ Tb := tb_of (i := 663) (by decide +kernel) rfl
theorem kw_664 : Cond.code ⟨"ColourDuel$Board", "isFull", "()Z"⟩ prog_2_method_4_code 3 (Option.some FieldType.boolean) ∈ Tb := tb_of (i := 664) (by decide +kernel) rfl
theorem kw_665 : Cond.methodLink "ColourDuel$Reader" 93 ⟨"ColourDuel$Board", "everyColour", "()I"⟩ ∈ Tb := tb_of (i := 665) (by decide +kernel) rfl
theorem kw_666 : Cond.instanceMethod ⟨"ColourDuel$Board", "everyColour", "()I"⟩ ∈ Tb := tb_of (i := 666) (by decide +kernel) rfl
theorem kw_667 : Cond.selects "ColourDuel$Board" ⟨"ColourDuel$Board", "everyColour", "()I"⟩ ⟨"ColourDuel$Board", "everyColour", "()I"⟩ ∈ Tb := tb_of (i := 667) (by decide +kernel) rfl
theorem kw_668 : Cond.code ⟨"ColourDuel$Board", "everyColour", "()I"⟩ prog_2_method_10_code 1 (Option.some FieldType.int) ∈ Tb := tb_of (i := 668) (by decide +kernel) rfl
theorem kw_669 : Cond.methodLink "ColourDuel$Reader" 100 ⟨"ColourDuel$Reader", "listHere", "()I"⟩ ∈ Tb := tb_of (i := 669) (by decide +kernel) rfl
theorem kw_671 : Cond.instanceMethod ⟨"ColourDuel$Reader", "listHere", "()I"⟩ ∈ Tb := tb_of (i := 671) (by decide +kernel) rfl
theorem kw_672 : Cond.code ⟨"ColourDuel$Reader", "listHere", "()I"⟩ prog_5_method_17_code 4 (Option.some FieldType.int) ∈ Tb := tb_of (i := 672) (by decide +kernel) rfl
theorem kn_673 : Cond.methodLinkNest "ColourDuel$Reader" 121 ⟨"ColourDuel", "has", "(II)Z"⟩ "ColourDuel" ∈ lw_tbl := tn_of (i := 673) (by decide +kernel)
theorem kw_674 : Cond.methodLink "ColourDuel$Reader" 103 ⟨"ColourDuel$Board", "addVertex", "(I)V"⟩ ∈ Tb := tb_of (i := 674) (by decide +kernel) rfl
theorem kw_675 : Cond.instanceMethod ⟨"ColourDuel$Board", "addVertex", "(I)V"⟩ ∈ Tb := tb_of (i := 675) (by decide +kernel) rfl
theorem kw_676 : Cond.selects "ColourDuel$Board" ⟨"ColourDuel$Board", "addVertex", "(I)V"⟩ ⟨"ColourDuel$Board", "addVertex", "(I)V"⟩ ∈ Tb := tb_of (i := 676) (by decide +kernel) rfl
theorem kw_677 : Cond.code ⟨"ColourDuel$Board", "addVertex", "(I)V"⟩ prog_2_method_5_code 4 (Option.none : Option FieldType) ∈ Tb := tb_of (i := 677) (by decide +kernel) rfl
theorem kw_678 : Cond.methodLink "ColourDuel$Reader" 45 ⟨"ColourDuel$Reader", "readEdges", "()Z"⟩ ∈ Tb := tb_of (i := 678) (by decide +kernel) rfl
theorem kw_680 : Cond.instanceMethod ⟨"ColourDuel$Reader", "readEdges", "()Z"⟩ ∈ Tb := tb_of (i := 680) (by decide +kernel) rfl
theorem kw_681 : Cond.code ⟨"ColourDuel$Reader", "readEdges", "()Z"⟩ prog_5_method_7_code 3 (Option.some FieldType.boolean) ∈ Tb := tb_of (i := 681) (by decide +kernel) rfl
theorem kn_682 : Cond.stringRef "ColourDuel$Reader" 106 "edge" ∈ lw_tbl := tn_of (i := 682) (by decide +kernel)
theorem kw_683 : Cond.methodLink "ColourDuel$Reader" 108 ⟨"ColourDuel$Reader", "readEdge", "()Z"⟩ ∈ Tb := tb_of (i := 683) (by decide +kernel) rfl
theorem kw_685 : Cond.instanceMethod ⟨"ColourDuel$Reader", "readEdge", "()Z"⟩ ∈ Tb := tb_of (i := 685) (by decide +kernel) rfl
theorem kw_686 : Cond.code ⟨"ColourDuel$Reader", "readEdge", "()Z"⟩ prog_5_method_8_code 3 (Option.some FieldType.boolean) ∈ Tb := tb_of (i := 686) (by decide +kernel) rfl
theorem kw_687 : Cond.methodLink "ColourDuel$Reader" 117 ⟨"ColourDuel$Board", "neighbours", "(I)I"⟩ ∈ Tb := tb_of (i := 687) (by decide +kernel) rfl
theorem kw_688 : Cond.methodLink "ColourDuel$Reader" 125 ⟨"ColourDuel$Board", "addEdge", "(II)V"⟩ ∈ Tb := tb_of (i := 688) (by decide +kernel) rfl
theorem kw_689 : Cond.instanceMethod ⟨"ColourDuel$Board", "addEdge", "(II)V"⟩ ∈ Tb := tb_of (i := 689) (by decide +kernel) rfl
theorem kw_690 : Cond.selects "ColourDuel$Board" ⟨"ColourDuel$Board", "addEdge", "(II)V"⟩ ⟨"ColourDuel$Board", "addEdge", "(II)V"⟩ ∈ Tb := tb_of (i := 690) (by decide +kernel) rfl
theorem kw_691 : Cond.code ⟨"ColourDuel$Board", "addEdge", "(II)V"⟩ prog_2_method_6_code 3 (Option.none : Option FieldType) ∈ Tb := tb_of (i := 691) (by decide +kernel) rfl
theorem kn_692 : Cond.methodLinkNest "ColourDuel$Board" 59 ⟨"ColourDuel", "add", "([III)V"⟩ "ColourDuel" ∈ lw_tbl := tn_of (i := 692) (by decide +kernel)
theorem kw_693 : Cond.static ⟨"ColourDuel", "add", "([III)V"⟩ ∈ Tb := tb_of (i := 693) (by decide +kernel) rfl
theorem kw_694 : Cond.code ⟨"ColourDuel", "add", "([III)V"⟩ prog_1_method_37_code 3 (Option.none : Option FieldType) ∈ Tb := tb_of (i := 694) (by decide +kernel) rfl
theorem kw_695 : Cond.methodLink "ColourDuel$Reader" 48 ⟨"ColourDuel$Reader", "readMoves", "()Z"⟩ ∈ Tb := tb_of (i := 695) (by decide +kernel) rfl
theorem kw_697 : Cond.instanceMethod ⟨"ColourDuel$Reader", "readMoves", "()Z"⟩ ∈ Tb := tb_of (i := 697) (by decide +kernel) rfl
theorem kw_698 : Cond.code ⟨"ColourDuel$Reader", "readMoves", "()Z"⟩ prog_5_method_9_code 3 (Option.some FieldType.boolean) ∈ Tb := tb_of (i := 698) (by decide +kernel) rfl
theorem kn_699 : Cond.stringRef "ColourDuel$Reader" 129 "lay" ∈ lw_tbl := tn_of (i := 699) (by decide +kernel)
theorem kn_700 : Cond.stringRef "ColourDuel$Reader" 131 "pass" ∈ lw_tbl := tn_of (i := 700) (by decide +kernel)
theorem kw_701 : Cond.methodLink "ColourDuel$Reader" 133 ⟨"ColourDuel$Reader", "readLay", "()Z"⟩ ∈ Tb := tb_of (i := 701) (by decide +kernel) rfl
theorem kw_703 : Cond.instanceMethod ⟨"ColourDuel$Reader", "readLay", "()Z"⟩ ∈ Tb := tb_of (i := 703) (by decide +kernel) rfl
theorem kw_704 : Cond.code ⟨"ColourDuel$Reader", "readLay", "()Z"⟩ prog_5_method_10_code 4 (Option.some FieldType.boolean) ∈ Tb := tb_of (i := 704) (by decide +kernel) rfl
theorem kw_705 : Cond.methodLink "ColourDuel$Reader" 139 ⟨"java/lang/Integer", "bitCount", "(I)I"⟩ ∈ Tb := tb_of (i := 705) (by decide +kernel) rfl
theorem kn_706 : Cond.methodLinkNest "ColourDuel$Reader" 144 ⟨"ColourDuel", "least", "(I)I"⟩ "ColourDuel" ∈ lw_tbl := tn_of (i := 706) (by decide +kernel)
theorem kw_707 : Cond.methodLink "ColourDuel$Reader" 147 ⟨"ColourDuel$Board", "whyNot", "(II)I"⟩ ∈ Tb := tb_of (i := 707) (by decide +kernel) rfl
theorem kw_708 : Cond.methodLink "ColourDuel$Reader" 150 ⟨"ColourDuel$Board", "paint", "(II)V"⟩ ∈ Tb := tb_of (i := 708) (by decide +kernel) rfl
theorem kw_709 : Cond.instanceMethod ⟨"ColourDuel$Board", "paint", "(II)V"⟩ ∈ Tb := tb_of (i := 709) (by decide +kernel) rfl
theorem kw_710 : Cond.selects "ColourDuel$Board" ⟨"ColourDuel$Board", "paint", "(II)V"⟩ ⟨"ColourDuel$Board", "paint", "(II)V"⟩ ∈ Tb := tb_of (i := 710) (by decide +kernel) rfl
theorem kw_711 : Cond.code ⟨"ColourDuel$Board", "paint", "(II)V"⟩ prog_2_method_31_code 5 (Option.none : Option FieldType) ∈ Tb := tb_of (i := 711) (by decide +kernel) rfl
theorem kw_712 : Cond.methodLink "ColourDuel$Board" 105 ⟨"ColourDuel$Board", "partWith", "(I)I"⟩ ∈ Tb := tb_of (i := 712) (by decide +kernel) rfl
theorem kw_713 : Cond.classLink "ColourDuel$Board" 108 "ColourDuel$Move" ∈ Tb := tb_of (i := 713) (by decide +kernel) rfl
theorem kw_714 : Cond.instantiable "ColourDuel$Move" 5 ∈ Tb := tb_of (i := 714) (by decide +kernel) rfl
theorem kw_715 : Cond.methodLink "ColourDuel$Board" 110 ⟨"ColourDuel$Board", "partsIn", "(I)I"⟩ ∈ Tb := tb_of (i := 715) (by decide +kernel) rfl
theorem kw_716 : Cond.methodLink "ColourDuel$Board" 113 ⟨"ColourDuel$Move", "<init>", "(LColourDuel$Move;IIII)V"⟩ ∈ Tb := tb_of (i := 716) (by decide +kernel) rfl
theorem kw_717 : Cond.instanceMethod ⟨"ColourDuel$Move", "<init>", "(LColourDuel$Move;IIII)V"⟩ ∈ Tb := tb_of (i := 717) (by decide +kernel) rfl
theorem kw_718 : Cond.code ⟨"ColourDuel$Move", "<init>", "(LColourDuel$Move;IIII)V"⟩ prog_4_method_1_code 6 (Option.none : Option FieldType) ∈ Tb := tb_of (i := 718) (by decide +kernel) rfl
theorem kw_719 : Cond.methodLink "ColourDuel$Move" 3 ⟨"java/lang/Object", "<init>", "()V"⟩ ∈ Tb := tb_of (i := 719) (by decide +kernel) rfl
theorem kw_720 : Cond.fieldLink "ColourDuel$Move" 9 "ColourDuel$Move" "before" "LColourDuel$Move;" ∈ Tb := tb_of (i := 720) (by decide +kernel) rfl
theorem kw_721 : Cond.fieldLink "ColourDuel$Board" 116 "ColourDuel$Move" "before" "LColourDuel$Move;" ∈ Tb := tb_of (i := 721) (by decide +kernel) rfl
theorem kw_722 : Cond.fieldLink "ColourDuel$Move" 15 "ColourDuel$Move" "vertex" "I" ∈ Tb := tb_of (i := 722) (by decide +kernel) rfl
theorem kw_723 : Cond.fieldLink "ColourDuel" 246 "ColourDuel$Move" "vertex" "I" ∈ Tb := tb_of (i := 723) (by decide +kernel) rfl
theorem kw_724 : Cond.fieldLink "ColourDuel$Move" 19 "ColourDuel$Move" "colour" "I" ∈ Tb := tb_of (i := 724) (by decide +kernel) rfl
theorem kw_725 : Cond.fieldLink "ColourDuel" 251 "ColourDuel$Move" "colour" "I" ∈ Tb := tb_of (i := 725) (by decide +kernel) rfl
theorem kw_726 : Cond.fieldLink "ColourDuel$Board" 122 "ColourDuel$Move" "colour" "I" ∈ Tb := tb_of (i := 726) (by decide +kernel) rfl
theorem kw_727 : Cond.fieldLink "ColourDuel$Move" 22 "ColourDuel$Move" "partsBehind" "I" ∈ Tb := tb_of (i := 727) (by decide +kernel) rfl
theorem kw_728 : Cond.fieldLink "ColourDuel" 254 "ColourDuel$Move" "partsBehind" "I" ∈ Tb := tb_of (i := 728) (by decide +kernel) rfl
theorem kw_729 : Cond.fieldLink "ColourDuel$Move" 25 "ColourDuel$Move" "pieces" "I" ∈ Tb := tb_of (i := 729) (by decide +kernel) rfl
theorem kw_741 : Cond.methodLink "ColourDuel$Reader" 136 ⟨"ColourDuel$Reader", "readPass", "()Z"⟩ ∈ Tb := tb_of (i := 741) (by decide +kernel) rfl
theorem kw_743 : Cond.instanceMethod ⟨"ColourDuel$Reader", "readPass", "()Z"⟩ ∈ Tb := tb_of (i := 743) (by decide +kernel) rfl
theorem kw_744 : Cond.code ⟨"ColourDuel$Reader", "readPass", "()Z"⟩ prog_5_method_11_code 1 (Option.some FieldType.boolean) ∈ Tb := tb_of (i := 744) (by decide +kernel) rfl
theorem kw_745 : Cond.methodLink "ColourDuel$Reader" 153 ⟨"ColourDuel$Board", "spendPass", "()V"⟩ ∈ Tb := tb_of (i := 745) (by decide +kernel) rfl
theorem kw_746 : Cond.instanceMethod ⟨"ColourDuel$Board", "spendPass", "()V"⟩ ∈ Tb := tb_of (i := 746) (by decide +kernel) rfl
theorem kw_747 : Cond.selects "ColourDuel$Board" ⟨"ColourDuel$Board", "spendPass", "()V"⟩ ⟨"ColourDuel$Board", "spendPass", "()V"⟩ ∈ Tb := tb_of (i := 747) (by decide +kernel) rfl
theorem kw_748 : Cond.code ⟨"ColourDuel$Board", "spendPass", "()V"⟩ prog_2_method_32_code 1 (Option.none : Option FieldType) ∈ Tb := tb_of (i := 748) (by decide +kernel) rfl
theorem kw_749 : Cond.methodLink "ColourDuel$Reader" 51 ⟨"ColourDuel$Reader", "readEnd", "()Z"⟩ ∈ Tb := tb_of (i := 749) (by decide +kernel) rfl
theorem kw_751 : Cond.instanceMethod ⟨"ColourDuel$Reader", "readEnd", "()Z"⟩ ∈ Tb := tb_of (i := 751) (by decide +kernel) rfl
theorem kw_752 : Cond.code ⟨"ColourDuel$Reader", "readEnd", "()Z"⟩ prog_5_method_12_code 1 (Option.some FieldType.boolean) ∈ Tb := tb_of (i := 752) (by decide +kernel) rfl
theorem kw_753 : Cond.methodLink "ColourDuel" 69 ⟨"ColourDuel$History", "keep", "(LColourDuel$Board;)V"⟩ ∈ Tb := tb_of (i := 753) (by decide +kernel) rfl
theorem kw_754 : Cond.instanceMethod ⟨"ColourDuel$History", "keep", "(LColourDuel$Board;)V"⟩ ∈ Tb := tb_of (i := 754) (by decide +kernel) rfl
theorem kw_755 : Cond.selects "ColourDuel$History" ⟨"ColourDuel$History", "keep", "(LColourDuel$Board;)V"⟩ ⟨"ColourDuel$History", "keep", "(LColourDuel$Board;)V"⟩ ∈ Tb := tb_of (i := 755) (by decide +kernel) rfl
theorem kw_756 : Cond.code ⟨"ColourDuel$History", "keep", "(LColourDuel$Board;)V"⟩ prog_3_method_2_code 2 (Option.none : Option FieldType) ∈ Tb := tb_of (i := 756) (by decide +kernel) rfl
theorem kn_757 : Cond.methodLinkNest "ColourDuel$History" 21 ⟨"ColourDuel", "keepCopy", "([LColourDuel$Board;ILColourDuel$Board;)V"⟩ "ColourDuel" ∈ lw_tbl := tn_of (i := 757) (by decide +kernel)
theorem kw_758 : Cond.static ⟨"ColourDuel", "keepCopy", "([LColourDuel$Board;ILColourDuel$Board;)V"⟩ ∈ Tb := tb_of (i := 758) (by decide +kernel) rfl
theorem kw_759 : Cond.code ⟨"ColourDuel", "keepCopy", "([LColourDuel$Board;ILColourDuel$Board;)V"⟩ prog_1_method_40_code 4 (Option.none : Option FieldType) ∈ Tb := tb_of (i := 759) (by decide +kernel) rfl
theorem kw_760 : Cond.methodLink "ColourDuel" 299 ⟨"ColourDuel$Board", "<init>", "()V"⟩ ∈ Tb := tb_of (i := 760) (by decide +kernel) rfl
theorem kw_761 : Cond.methodLink "ColourDuel" 79 ⟨"ColourDuel$Board", "takeFrom", "(LColourDuel$Board;)V"⟩ ∈ Tb := tb_of (i := 761) (by decide +kernel) rfl
theorem kw_762 : Cond.instanceMethod ⟨"ColourDuel$Board", "takeFrom", "(LColourDuel$Board;)V"⟩ ∈ Tb := tb_of (i := 762) (by decide +kernel) rfl
theorem kw_763 : Cond.selects "ColourDuel$Board" ⟨"ColourDuel$Board", "takeFrom", "(LColourDuel$Board;)V"⟩ ⟨"ColourDuel$Board", "takeFrom", "(LColourDuel$Board;)V"⟩ ∈ Tb := tb_of (i := 763) (by decide +kernel) rfl
theorem kw_764 : Cond.code ⟨"ColourDuel$Board", "takeFrom", "(LColourDuel$Board;)V"⟩ prog_2_method_2_code 2 (Option.none : Option FieldType) ∈ Tb := tb_of (i := 764) (by decide +kernel) rfl
theorem kn_765 : Cond.methodLinkNest "ColourDuel$Board" 47 ⟨"ColourDuel", "copyRow", "([I[I)V"⟩ "ColourDuel" ∈ lw_tbl := tn_of (i := 765) (by decide +kernel)
theorem kw_766 : Cond.static ⟨"ColourDuel", "copyRow", "([I[I)V"⟩ ∈ Tb := tb_of (i := 766) (by decide +kernel) rfl
theorem kw_767 : Cond.code ⟨"ColourDuel", "copyRow", "([I[I)V"⟩ prog_1_method_38_code 3 (Option.none : Option FieldType) ∈ Tb := tb_of (i := 767) (by decide +kernel) rfl
theorem kw_768 : Cond.methodLink "ColourDuel$History" 28 ⟨"java/lang/Math", "min", "(II)I"⟩ ∈ Tb := tb_of (i := 768) (by decide +kernel) rfl
theorem kw_775 : Cond.code ⟨"ColourDuel", "count", "(I)I"⟩ prog_1_method_5_code 2 (Option.some FieldType.int) ∈ Tb := tb_of (i := 775) (by decide +kernel) rfl
theorem kw_776 : Cond.methodLink "ColourDuel" 91 ⟨"ColourDuel$Board", "everyVertex", "()I"⟩ ∈ Tb := tb_of (i := 776) (by decide +kernel) rfl
theorem kw_777 : Cond.instanceMethod ⟨"ColourDuel$Board", "everyVertex", "()I"⟩ ∈ Tb := tb_of (i := 777) (by decide +kernel) rfl
theorem kw_778 : Cond.selects "ColourDuel$Board" ⟨"ColourDuel$Board", "everyVertex", "()I"⟩ ⟨"ColourDuel$Board", "everyVertex", "()I"⟩ ∈ Tb := tb_of (i := 778) (by decide +kernel) rfl
theorem kw_779 : Cond.code ⟨"ColourDuel$Board", "everyVertex", "()I"⟩ prog_2_method_9_code 1 (Option.some FieldType.int) ∈ Tb := tb_of (i := 779) (by decide +kernel) rfl
theorem kw_780 : Cond.methodLink "ColourDuel" 95 ⟨"ColourDuel$Board", "edgesIn", "(I)I"⟩ ∈ Tb := tb_of (i := 780) (by decide +kernel) rfl
theorem kw_781 : Cond.instanceMethod ⟨"ColourDuel$Board", "edgesIn", "(I)I"⟩ ∈ Tb := tb_of (i := 781) (by decide +kernel) rfl
theorem kw_782 : Cond.selects "ColourDuel$Board" ⟨"ColourDuel$Board", "edgesIn", "(I)I"⟩ ⟨"ColourDuel$Board", "edgesIn", "(I)I"⟩ ∈ Tb := tb_of (i := 782) (by decide +kernel) rfl
theorem kw_783 : Cond.code ⟨"ColourDuel$Board", "edgesIn", "(I)I"⟩ prog_2_method_12_code 4 (Option.some FieldType.int) ∈ Tb := tb_of (i := 783) (by decide +kernel) rfl
theorem kw_784 : Cond.methodLink "ColourDuel" 121 ⟨"ColourDuel$Board", "isOver", "()Z"⟩ ∈ Tb := tb_of (i := 784) (by decide +kernel) rfl
theorem kw_785 : Cond.instanceMethod ⟨"ColourDuel$Board", "isOver", "()Z"⟩ ∈ Tb := tb_of (i := 785) (by decide +kernel) rfl
theorem kw_786 : Cond.selects "ColourDuel$Board" ⟨"ColourDuel$Board", "isOver", "()Z"⟩ ⟨"ColourDuel$Board", "isOver", "()Z"⟩ ∈ Tb := tb_of (i := 786) (by decide +kernel) rfl
theorem kw_787 : Cond.code ⟨"ColourDuel$Board", "isOver", "()Z"⟩ prog_2_method_29_code 1 (Option.some FieldType.boolean) ∈ Tb := tb_of (i := 787) (by decide +kernel) rfl
theorem kw_788 : Cond.methodLink "ColourDuel$Board" 102 ⟨"ColourDuel$Board", "choicesIn", "(I)I"⟩ ∈ Tb := tb_of (i := 788) (by decide +kernel) rfl
theorem kw_789 : Cond.instanceMethod ⟨"ColourDuel$Board", "choicesIn", "(I)I"⟩ ∈ Tb := tb_of (i := 789) (by decide +kernel) rfl
theorem kw_790 : Cond.selects "ColourDuel$Board" ⟨"ColourDuel$Board", "choicesIn", "(I)I"⟩ ⟨"ColourDuel$Board", "choicesIn", "(I)I"⟩ ∈ Tb := tb_of (i := 790) (by decide +kernel) rfl
theorem kw_791 : Cond.code ⟨"ColourDuel$Board", "choicesIn", "(I)I"⟩ prog_2_method_25_code 4 (Option.some FieldType.int) ∈ Tb := tb_of (i := 791) (by decide +kernel) rfl
theorem kw_792 : Cond.methodLink "ColourDuel$Board" 99 ⟨"ColourDuel$Board", "choicesOn", "(I)I"⟩ ∈ Tb := tb_of (i := 792) (by decide +kernel) rfl
theorem kw_793 : Cond.methodLink "ColourDuel" 125 ⟨"ColourDuel$Board", "choicesIn", "(I)I"⟩ ∈ Tb := tb_of (i := 793) (by decide +kernel) rfl
theorem kw_794 : Cond.methodLink "ColourDuel" 128 ⟨"ColourDuel$Board", "stuckVertices", "()I"⟩ ∈ Tb := tb_of (i := 794) (by decide +kernel) rfl
theorem kw_795 : Cond.instanceMethod ⟨"ColourDuel$Board", "stuckVertices", "()I"⟩ ∈ Tb := tb_of (i := 795) (by decide +kernel) rfl
theorem kw_796 : Cond.selects "ColourDuel$Board" ⟨"ColourDuel$Board", "stuckVertices", "()I"⟩ ⟨"ColourDuel$Board", "stuckVertices", "()I"⟩ ∈ Tb := tb_of (i := 796) (by decide +kernel) rfl
theorem kw_797 : Cond.code ⟨"ColourDuel$Board", "stuckVertices", "()I"⟩ prog_2_method_26_code 3 (Option.some FieldType.int) ∈ Tb := tb_of (i := 797) (by decide +kernel) rfl
theorem kn_798 : Cond.stringRef "ColourDuel" 134 "no such number of the board" ∈ lw_tbl := tn_of (i := 798) (by decide +kernel)
theorem kw_806 : Cond.code ⟨"ColourDuel", "vertex", "(II)I"⟩ prog_1_method_6_code 3 (Option.some FieldType.int) ∈ Tb := tb_of (i := 806) (by decide +kernel) rfl
theorem kw_807 : Cond.methodLink "ColourDuel" 136 ⟨"ColourDuel$Board", "hasVertex", "(I)Z"⟩ ∈ Tb := tb_of (i := 807) (by decide +kernel) rfl
theorem kw_808 : Cond.instanceMethod ⟨"ColourDuel$Board", "hasVertex", "(I)Z"⟩ ∈ Tb := tb_of (i := 808) (by decide +kernel) rfl
theorem kw_809 : Cond.selects "ColourDuel$Board" ⟨"ColourDuel$Board", "hasVertex", "(I)Z"⟩ ⟨"ColourDuel$Board", "hasVertex", "(I)Z"⟩ ∈ Tb := tb_of (i := 809) (by decide +kernel) rfl
theorem kw_810 : Cond.code ⟨"ColourDuel$Board", "hasVertex", "(I)Z"⟩ prog_2_method_7_code 2 (Option.some FieldType.boolean) ∈ Tb := tb_of (i := 810) (by decide +kernel) rfl
theorem kw_811 : Cond.classLink "ColourDuel" 140 "java/lang/IndexOutOfBoundsException" ∈ Tb := tb_of (i := 811) (by decide +kernel) rfl
theorem kn_820 : Cond.stringRef "ColourDuel" 142 "no such vertex" ∈ lw_tbl := tn_of (i := 820) (by decide +kernel)
theorem kw_821 : Cond.methodLink "ColourDuel" 144 ⟨"java/lang/IndexOutOfBoundsException", "<init>", "(Ljava/lang/String;)V"⟩ ∈ Tb := tb_of (i := 821) (by decide +kernel) rfl
theorem kw_827 : Cond.methodLink "ColourDuel" 148 ⟨"ColourDuel$Board", "listOf", "(I)I"⟩ ∈ Tb := tb_of (i := 827) (by decide +kernel) rfl
theorem kw_828 : Cond.instanceMethod ⟨"ColourDuel$Board", "listOf", "(I)I"⟩ ∈ Tb := tb_of (i := 828) (by decide +kernel) rfl
theorem kw_829 : Cond.selects "ColourDuel$Board" ⟨"ColourDuel$Board", "listOf", "(I)I"⟩ ⟨"ColourDuel$Board", "listOf", "(I)I"⟩ ∈ Tb := tb_of (i := 829) (by decide +kernel) rfl
theorem kw_830 : Cond.code ⟨"ColourDuel$Board", "listOf", "(I)I"⟩ prog_2_method_13_code 2 (Option.some FieldType.int) ∈ Tb := tb_of (i := 830) (by decide +kernel) rfl
theorem kw_831 : Cond.methodLink "ColourDuel" 154 ⟨"ColourDuel$Board", "neighbours", "(I)I"⟩ ∈ Tb := tb_of (i := 831) (by decide +kernel) rfl
theorem kw_832 : Cond.methodLink "ColourDuel" 160 ⟨"ColourDuel$Board", "partNumberOf", "(I)I"⟩ ∈ Tb := tb_of (i := 832) (by decide +kernel) rfl
theorem kw_833 : Cond.instanceMethod ⟨"ColourDuel$Board", "partNumberOf", "(I)I"⟩ ∈ Tb := tb_of (i := 833) (by decide +kernel) rfl
theorem kw_834 : Cond.selects "ColourDuel$Board" ⟨"ColourDuel$Board", "partNumberOf", "(I)I"⟩ ⟨"ColourDuel$Board", "partNumberOf", "(I)I"⟩ ∈ Tb := tb_of (i := 834) (by decide +kernel) rfl
theorem kw_835 : Cond.code ⟨"ColourDuel$Board", "partNumberOf", "(I)I"⟩ prog_2_method_20_code 3 (Option.some FieldType.int) ∈ Tb := tb_of (i := 835) (by decide +kernel) rfl
theorem kw_836 : Cond.methodLink "ColourDuel$Board" 81 ⟨"ColourDuel$Board", "partAt", "(I)I"⟩ ∈ Tb := tb_of (i := 836) (by decide +kernel) rfl
theorem kn_837 : Cond.stringRef "ColourDuel" 163 "no such number of a vertex" ∈ lw_tbl := tn_of (i := 837) (by decide +kernel)
theorem kw_844 : Cond.code ⟨"ColourDuel", "reason", "(II)I"⟩ prog_1_method_7_code 3 (Option.some FieldType.int) ∈ Tb := tb_of (i := 844) (by decide +kernel) rfl
theorem kw_845 : Cond.methodLink "ColourDuel" 165 ⟨"ColourDuel$Board", "hasPair", "(II)Z"⟩ ∈ Tb := tb_of (i := 845) (by decide +kernel) rfl
theorem kw_846 : Cond.instanceMethod ⟨"ColourDuel$Board", "hasPair", "(II)Z"⟩ ∈ Tb := tb_of (i := 846) (by decide +kernel) rfl
theorem kw_847 : Cond.selects "ColourDuel$Board" ⟨"ColourDuel$Board", "hasPair", "(II)Z"⟩ ⟨"ColourDuel$Board", "hasPair", "(II)Z"⟩ ∈ Tb := tb_of (i := 847) (by decide +kernel) rfl
theorem kw_848 : Cond.code ⟨"ColourDuel$Board", "hasPair", "(II)Z"⟩ prog_2_method_8_code 3 (Option.some FieldType.boolean) ∈ Tb := tb_of (i := 848) (by decide +kernel) rfl
theorem kw_849 : Cond.methodLink "ColourDuel$Board" 63 ⟨"ColourDuel$Board", "hasVertex", "(I)Z"⟩ ∈ Tb := tb_of (i := 849) (by decide +kernel) rfl
theorem kn_850 : Cond.stringRef "ColourDuel" 169 "no such vertex or colour" ∈ lw_tbl := tn_of (i := 850) (by decide +kernel)
theorem kw_851 : Cond.methodLink "ColourDuel" 171 ⟨"ColourDuel$Board", "whyNot", "(II)I"⟩ ∈ Tb := tb_of (i := 851) (by decide +kernel) rfl
theorem kw_858 : Cond.code ⟨"ColourDuel", "part", "(II)I"⟩ prog_1_method_8_code 4 (Option.some FieldType.int) ∈ Tb := tb_of (i := 858) (by decide +kernel) rfl
theorem kn_859 : Cond.stringRef "ColourDuel" 178 "no such part" ∈ lw_tbl := tn_of (i := 859) (by decide +kernel)
theorem kw_860 : Cond.methodLink "ColourDuel" 180 ⟨"ColourDuel", "least", "(I)I"⟩ ∈ Tb := tb_of (i := 860) (by decide +kernel) rfl
theorem kw_861 : Cond.methodLink "ColourDuel" 183 ⟨"ColourDuel$Board", "banOf", "(I)I"⟩ ∈ Tb := tb_of (i := 861) (by decide +kernel) rfl
theorem kn_862 : Cond.stringRef "ColourDuel" 198 "no such number of a part" ∈ lw_tbl := tn_of (i := 862) (by decide +kernel)
theorem kw_870 : Cond.code ⟨"ColourDuel", "valueIf", "(II)I"⟩ prog_1_method_10_code 3 (Option.some FieldType.int) ∈ Tb := tb_of (i := 870) (by decide +kernel) rfl
theorem kw_871 : Cond.classLink "ColourDuel" 200 "java/util/NoSuchElementException" ∈ Tb := tb_of (i := 871) (by decide +kernel) rfl
theorem kn_880 : Cond.stringRef "ColourDuel" 202 "the colour cannot be laid there" ∈ lw_tbl := tn_of (i := 880) (by decide +kernel)
theorem kw_881 : Cond.methodLink "ColourDuel" 204 ⟨"java/util/NoSuchElementException", "<init>", "(Ljava/lang/String;)V"⟩ ∈ Tb := tb_of (i := 881) (by decide +kernel) rfl
theorem kw_893 : Cond.code ⟨"ColourDuel", "bestMove", "()I"⟩ prog_1_method_12_code 1 (Option.some FieldType.int) ∈ Tb := tb_of (i := 893) (by decide +kernel) rfl
theorem kn_894 : Cond.stringRef "ColourDuel" 214 "the game is over" ∈ lw_tbl := tn_of (i := 894) (by decide +kernel)
theorem kw_895 : Cond.methodLink "ColourDuel" 216 ⟨"ColourDuel", "chosenMove", "()I"⟩ ∈ Tb := tb_of (i := 895) (by decide +kernel) rfl
theorem kw_897 : Cond.instanceMethod ⟨"ColourDuel", "chosenMove", "()I"⟩ ∈ Tb := tb_of (i := 897) (by decide +kernel) rfl
theorem kw_898 : Cond.code ⟨"ColourDuel", "chosenMove", "()I"⟩ prog_1_method_32_code 7 (Option.some FieldType.int) ∈ Tb := tb_of (i := 898) (by decide +kernel) rfl
theorem kw_899 : Cond.methodLink "ColourDuel" 296 ⟨"ColourDuel", "longest", "()I"⟩ ∈ Tb := tb_of (i := 899) (by decide +kernel) rfl
theorem kw_906 : Cond.code ⟨"ColourDuel", "winningColours", "(I)I"⟩ prog_1_method_16_code 2 (Option.some FieldType.int) ∈ Tb := tb_of (i := 906) (by decide +kernel) rfl
theorem kw_913 : Cond.code ⟨"ColourDuel", "falls", "(I)I"⟩ prog_1_method_17_code 2 (Option.some FieldType.int) ∈ Tb := tb_of (i := 913) (by decide +kernel) rfl
theorem kn_914 : Cond.stringRef "ColourDuel" 219 "the vertex is not free" ∈ lw_tbl := tn_of (i := 914) (by decide +kernel)
theorem kw_915 : Cond.methodLink "ColourDuel" 221 ⟨"ColourDuel$Board", "partWith", "(I)I"⟩ ∈ Tb := tb_of (i := 915) (by decide +kernel) rfl
theorem kw_922 : Cond.code ⟨"ColourDuel", "valueWithout", "(I)I"⟩ prog_1_method_18_code 2 (Option.some FieldType.int) ∈ Tb := tb_of (i := 922) (by decide +kernel) rfl
theorem kw_923 : Cond.methodLink "ColourDuel" 224 ⟨"ColourDuel$Solver", "without", "(I)I"⟩ ∈ Tb := tb_of (i := 923) (by decide +kernel) rfl
theorem kw_924 : Cond.instanceMethod ⟨"ColourDuel$Solver", "without", "(I)I"⟩ ∈ Tb := tb_of (i := 924) (by decide +kernel) rfl
theorem kw_925 : Cond.selects "ColourDuel$Solver" ⟨"ColourDuel$Solver", "without", "(I)I"⟩ ⟨"ColourDuel$Solver", "without", "(I)I"⟩ ∈ Tb := tb_of (i := 925) (by decide +kernel) rfl
theorem kw_926 : Cond.code ⟨"ColourDuel$Solver", "without", "(I)I"⟩ prog_6_method_4_code 5 (Option.some FieldType.int) ∈ Tb := tb_of (i := 926) (by decide +kernel) rfl
theorem kw_933 : Cond.code ⟨"ColourDuel", "lay", "(II)I"⟩ prog_1_method_19_code 3 (Option.some FieldType.int) ∈ Tb := tb_of (i := 933) (by decide +kernel) rfl
theorem kw_934 : Cond.methodLink "ColourDuel" 227 ⟨"ColourDuel$Board", "paint", "(II)V"⟩ ∈ Tb := tb_of (i := 934) (by decide +kernel) rfl
theorem kw_941 : Cond.code ⟨"ColourDuel", "pass", "()I"⟩ prog_1_method_20_code 1 (Option.some FieldType.int) ∈ Tb := tb_of (i := 941) (by decide +kernel) rfl
theorem kn_942 : Cond.stringRef "ColourDuel" 231 "no pass is left" ∈ lw_tbl := tn_of (i := 942) (by decide +kernel)
theorem kw_943 : Cond.methodLink "ColourDuel" 233 ⟨"ColourDuel$Board", "spendPass", "()V"⟩ ∈ Tb := tb_of (i := 943) (by decide +kernel) rfl
theorem kw_950 : Cond.code ⟨"ColourDuel", "playOut", "(I)I"⟩ prog_1_method_21_code 4 (Option.some FieldType.int) ∈ Tb := tb_of (i := 950) (by decide +kernel) rfl
theorem kn_951 : Cond.stringRef "ColourDuel" 236 "no such number of moves" ∈ lw_tbl := tn_of (i := 951) (by decide +kernel)
theorem kw_958 : Cond.code ⟨"ColourDuel", "setPasses", "(I)I"⟩ prog_1_method_22_code 3 (Option.some FieldType.int) ∈ Tb := tb_of (i := 958) (by decide +kernel) rfl
theorem kn_959 : Cond.stringRef "ColourDuel" 238 "no such number of passes" ∈ lw_tbl := tn_of (i := 959) (by decide +kernel)
theorem kw_966 : Cond.code ⟨"ColourDuel", "move", "(II)I"⟩ prog_1_method_23_code 4 (Option.some FieldType.int) ∈ Tb := tb_of (i := 966) (by decide +kernel) rfl
theorem kw_967 : Cond.methodLink "ColourDuel" 240 ⟨"ColourDuel$Board", "moveAt", "(I)LColourDuel$Move;"⟩ ∈ Tb := tb_of (i := 967) (by decide +kernel) rfl
theorem kw_968 : Cond.instanceMethod ⟨"ColourDuel$Board", "moveAt", "(I)LColourDuel$Move;"⟩ ∈ Tb := tb_of (i := 968) (by decide +kernel) rfl
theorem kw_969 : Cond.selects "ColourDuel$Board" ⟨"ColourDuel$Board", "moveAt", "(I)LColourDuel$Move;"⟩ ⟨"ColourDuel$Board", "moveAt", "(I)LColourDuel$Move;"⟩ ∈ Tb := tb_of (i := 969) (by decide +kernel) rfl
theorem kw_970 : Cond.code ⟨"ColourDuel$Board", "moveAt", "(I)LColourDuel$Move;"⟩ prog_2_method_33_code 4 (Option.some (FieldType.object "ColourDuel$Move")) ∈ Tb := tb_of (i := 970) (by decide +kernel) rfl
theorem kn_971 : Cond.stringRef "ColourDuel" 244 "no such move" ∈ lw_tbl := tn_of (i := 971) (by decide +kernel)
theorem kn_972 : Cond.stringRef "ColourDuel" 257 "no such number of a move" ∈ lw_tbl := tn_of (i := 972) (by decide +kernel)
theorem kw_979 : Cond.code ⟨"ColourDuel", "account", "(II)I"⟩ prog_1_method_24_code 3 (Option.some FieldType.int) ∈ Tb := tb_of (i := 979) (by decide +kernel) rfl
theorem kn_980 : Cond.stringRef "ColourDuel" 259 "no such player" ∈ lw_tbl := tn_of (i := 980) (by decide +kernel)
theorem kn_981 : Cond.stringRef "ColourDuel" 261 "no such account" ∈ lw_tbl := tn_of (i := 981) (by decide +kernel)
theorem kw_982 : Cond.methodLink "ColourDuel" 263 ⟨"ColourDuel$Board", "coloursLaidBy", "(I)I"⟩ ∈ Tb := tb_of (i := 982) (by decide +kernel) rfl
theorem kw_983 : Cond.instanceMethod ⟨"ColourDuel$Board", "coloursLaidBy", "(I)I"⟩ ∈ Tb := tb_of (i := 983) (by decide +kernel) rfl
theorem kw_984 : Cond.selects "ColourDuel$Board" ⟨"ColourDuel$Board", "coloursLaidBy", "(I)I"⟩ ⟨"ColourDuel$Board", "coloursLaidBy", "(I)I"⟩ ∈ Tb := tb_of (i := 984) (by decide +kernel) rfl
theorem kw_985 : Cond.code ⟨"ColourDuel$Board", "coloursLaidBy", "(I)I"⟩ prog_2_method_35_code 5 (Option.some FieldType.int) ∈ Tb := tb_of (i := 985) (by decide +kernel) rfl
theorem kw_986 : Cond.methodLink "ColourDuel" 266 ⟨"ColourDuel$Board", "movesBy", "(II)I"⟩ ∈ Tb := tb_of (i := 986) (by decide +kernel) rfl
theorem kw_987 : Cond.instanceMethod ⟨"ColourDuel$Board", "movesBy", "(II)I"⟩ ∈ Tb := tb_of (i := 987) (by decide +kernel) rfl
theorem kw_988 : Cond.selects "ColourDuel$Board" ⟨"ColourDuel$Board", "movesBy", "(II)I"⟩ ⟨"ColourDuel$Board", "movesBy", "(II)I"⟩ ∈ Tb := tb_of (i := 988) (by decide +kernel) rfl
theorem kw_989 : Cond.code ⟨"ColourDuel$Board", "movesBy", "(II)I"⟩ prog_2_method_34_code 6 (Option.some FieldType.int) ∈ Tb := tb_of (i := 989) (by decide +kernel) rfl
theorem kw_990 : Cond.methodLink "ColourDuel$Board" 119 ⟨"ColourDuel$Move", "countsAs", "(I)Z"⟩ ∈ Tb := tb_of (i := 990) (by decide +kernel) rfl
theorem kw_991 : Cond.instanceMethod ⟨"ColourDuel$Move", "countsAs", "(I)Z"⟩ ∈ Tb := tb_of (i := 991) (by decide +kernel) rfl
theorem kw_992 : Cond.selects "ColourDuel$Move" ⟨"ColourDuel$Move", "countsAs", "(I)Z"⟩ ⟨"ColourDuel$Move", "countsAs", "(I)Z"⟩ ∈ Tb := tb_of (i := 992) (by decide +kernel) rfl
theorem kw_993 : Cond.code ⟨"ColourDuel$Move", "countsAs", "(I)Z"⟩ prog_4_method_2_code 2 (Option.some FieldType.boolean) ∈ Tb := tb_of (i := 993) (by decide +kernel) rfl
theorem kw_1000 : Cond.code ⟨"ColourDuel", "writtenByte", "(I)I"⟩ prog_1_method_26_code 2 (Option.some FieldType.int) ∈ Tb := tb_of (i := 1000) (by decide +kernel) rfl
theorem kn_1001 : Cond.stringRef "ColourDuel" 275 "no such byte" ∈ lw_tbl := tn_of (i := 1001) (by decide +kernel)
theorem kw_1008 : Cond.code ⟨"ColourDuel", "undo", "()I"⟩ prog_1_method_27_code 1 (Option.some FieldType.int) ∈ Tb := tb_of (i := 1008) (by decide +kernel) rfl
theorem kn_1009 : Cond.stringRef "ColourDuel" 280 "there is no change to undo" ∈ lw_tbl := tn_of (i := 1009) (by decide +kernel)
theorem kw_1010 : Cond.methodLink "ColourDuel" 282 ⟨"ColourDuel$History", "bringBack", "(LColourDuel$Board;)V"⟩ ∈ Tb := tb_of (i := 1010) (by decide +kernel) rfl
theorem kw_1011 : Cond.instanceMethod ⟨"ColourDuel$History", "bringBack", "(LColourDuel$Board;)V"⟩ ∈ Tb := tb_of (i := 1011) (by decide +kernel) rfl
theorem kw_1012 : Cond.selects "ColourDuel$History" ⟨"ColourDuel$History", "bringBack", "(LColourDuel$Board;)V"⟩ ⟨"ColourDuel$History", "bringBack", "(LColourDuel$Board;)V"⟩ ∈ Tb := tb_of (i := 1012) (by decide +kernel) rfl
theorem kw_1013 : Cond.code ⟨"ColourDuel$History", "bringBack", "(LColourDuel$Board;)V"⟩ prog_3_method_3_code 4 (Option.none : Option FieldType) ∈ Tb := tb_of (i := 1013) (by decide +kernel) rfl
theorem kw_1014 : Cond.methodLink "ColourDuel$History" 34 ⟨"ColourDuel$Board", "takeFrom", "(LColourDuel$Board;)V"⟩ ∈ Tb := tb_of (i := 1014) (by decide +kernel) rfl
theorem kw_1021 : Cond.code ⟨"ColourDuel", "save", "(I)I"⟩ prog_1_method_28_code 2 (Option.some FieldType.int) ∈ Tb := tb_of (i := 1021) (by decide +kernel) rfl
theorem kn_1022 : Cond.stringRef "ColourDuel" 285 "no such slot" ∈ lw_tbl := tn_of (i := 1022) (by decide +kernel)
theorem kw_1023 : Cond.methodLink "ColourDuel" 287 ⟨"ColourDuel", "keepCopy", "([LColourDuel$Board;ILColourDuel$Board;)V"⟩ ∈ Tb := tb_of (i := 1023) (by decide +kernel) rfl
theorem kw_1030 : Cond.code ⟨"ColourDuel", "restore", "(I)I"⟩ prog_1_method_29_code 3 (Option.some FieldType.int) ∈ Tb := tb_of (i := 1030) (by decide +kernel) rfl
theorem kn_1031 : Cond.stringRef "ColourDuel" 291 "nothing was saved there" ∈ lw_tbl := tn_of (i := 1031) (by decide +kernel)
theorem kw_1036 : Cond.code ⟨"ColourDuelModel", "<init>", "()V"⟩ prog_8_method_1_code 1 (Option.none : Option FieldType) ∈ Tb := tb_of (i := 1036) (by decide +kernel) rfl
theorem kw_1037 : Cond.methodLink "ColourDuelModel" 1 ⟨"java/lang/Object", "<init>", "()V"⟩ ∈ Tb := tb_of (i := 1037) (by decide +kernel) rfl
theorem kw_1038 : Cond.constant "ColourDuelModel" 19 (33088 : Int32) ∈ Tb := tb_of (i := 1038) (by decide +kernel) rfl
theorem kw_1039 : Cond.constant "ColourDuelModel" 37 (80000 : Int32) ∈ Tb := tb_of (i := 1039) (by decide +kernel) rfl
theorem kw_1040 : Cond.fieldLink "ColourDuelModel" 7 "ColourDuelModel" "a" "[I" ∈ Tb := tb_of (i := 1040) (by decide +kernel) rfl
theorem kw_1041 : Cond.fieldLink "ColourDuelModel" 13 "ColourDuelModel" "aside" "[I" ∈ Tb := tb_of (i := 1041) (by decide +kernel) rfl
theorem kw_1042 : Cond.fieldLink "ColourDuelModel" 16 "ColourDuelModel" "fresh" "[I" ∈ Tb := tb_of (i := 1042) (by decide +kernel) rfl
theorem kw_1043 : Cond.fieldLink "ColourDuelModel" 20 "ColourDuelModel" "kept" "[I" ∈ Tb := tb_of (i := 1043) (by decide +kernel) rfl
theorem kw_1044 : Cond.fieldLink "ColourDuelModel" 23 "ColourDuelModel" "slots" "[I" ∈ Tb := tb_of (i := 1044) (by decide +kernel) rfl
theorem kw_1045 : Cond.fieldLink "ColourDuelModel" 26 "ColourDuelModel" "isSaved" "[Z" ∈ Tb := tb_of (i := 1045) (by decide +kernel) rfl
theorem kw_1046 : Cond.fieldLink "ColourDuelModel" 50 "ColourDuelModel" "keptMany" "I" ∈ Tb := tb_of (i := 1046) (by decide +kernel) rfl
theorem kw_1047 : Cond.fieldLink "ColourDuelModel" 47 "ColourDuelModel" "thrown" "I" ∈ Tb := tb_of (i := 1047) (by decide +kernel) rfl
theorem kw_1048 : Cond.fieldLink "ColourDuelModel" 30 "ColourDuelModel" "buffer" "[I" ∈ Tb := tb_of (i := 1048) (by decide +kernel) rfl
theorem kw_1049 : Cond.fieldLink "ColourDuelModel" 57 "ColourDuelModel" "buffered" "I" ∈ Tb := tb_of (i := 1049) (by decide +kernel) rfl
theorem kw_1050 : Cond.fieldLink "ColourDuelModel" 60 "ColourDuelModel" "size" "I" ∈ Tb := tb_of (i := 1050) (by decide +kernel) rfl
theorem kw_1051 : Cond.fieldLink "ColourDuelModel" 66 "ColourDuelModel" "at" "I" ∈ Tb := tb_of (i := 1051) (by decide +kernel) rfl
theorem kw_1052 : Cond.fieldLink "ColourDuelModel" 63 "ColourDuelModel" "behind" "I" ∈ Tb := tb_of (i := 1052) (by decide +kernel) rfl
theorem kw_1053 : Cond.fieldLink "ColourDuelModel" 73 "ColourDuelModel" "kind" "I" ∈ Tb := tb_of (i := 1053) (by decide +kernel) rfl
theorem kw_1054 : Cond.fieldLink "ColourDuelModel" 80 "ColourDuelModel" "number" "I" ∈ Tb := tb_of (i := 1054) (by decide +kernel) rfl
theorem kw_1055 : Cond.fieldLink "ColourDuelModel" 83 "ColourDuelModel" "wrong" "I" ∈ Tb := tb_of (i := 1055) (by decide +kernel) rfl
theorem kw_1056 : Cond.fieldLink "ColourDuelModel" 96 "ColourDuelModel" "wrongAt" "I" ∈ Tb := tb_of (i := 1056) (by decide +kernel) rfl
theorem kw_1057 : Cond.fieldLink "ColourDuelModel" 33 "ColourDuelModel" "errorAt" "I" ∈ Tb := tb_of (i := 1057) (by decide +kernel) rfl
theorem kw_1058 : Cond.fieldLink "ColourDuelModel" 38 "ColourDuelModel" "known" "[I" ∈ Tb := tb_of (i := 1058) (by decide +kernel) rfl
theorem kw_1059 : Cond.fieldLink "ColourDuelModel" 41 "ColourDuelModel" "bansWere" "[I" ∈ Tb := tb_of (i := 1059) (by decide +kernel) rfl
theorem kw_1060 : Cond.fieldLink "ColourDuelModel" 44 "ColourDuelModel" "written" "[I" ∈ Tb := tb_of (i := 1060) (by decide +kernel) rfl
theorem kw_1061 : Cond.fieldLink "ColourDuelModel" 278 "ColourDuelModel" "writtenMany" "I" ∈ Tb := tb_of (i := 1061) (by decide +kernel) rfl
theorem kw_1107 : Cond.arrayClass FieldType.boolean ∈ Tb := tb_of (i := 1107) (by decide +kernel) rfl
theorem kw_1111 : Cond.code ⟨"ColourDuelModel", "thrown", "()I"⟩ prog_8_method_2_code 1 (Option.some FieldType.int) ∈ Tb := tb_of (i := 1111) (by decide +kernel) rfl
theorem kw_1115 : Cond.code ⟨"ColourDuelModel", "undo", "()I"⟩ prog_8_method_6_code 1 (Option.some FieldType.int) ∈ Tb := tb_of (i := 1115) (by decide +kernel) rfl
theorem kw_1116 : Cond.methodLink "ColourDuelModel" 53 ⟨"ColourDuelModel", "sets", "([II[II)V"⟩ ∈ Tb := tb_of (i := 1116) (by decide +kernel) rfl
theorem kw_1117 : Cond.static ⟨"ColourDuelModel", "sets", "([II[II)V"⟩ ∈ Tb := tb_of (i := 1117) (by decide +kernel) rfl
theorem kw_1118 : Cond.code ⟨"ColourDuelModel", "sets", "([II[II)V"⟩ prog_8_method_4_code 5 (Option.none : Option FieldType) ∈ Tb := tb_of (i := 1118) (by decide +kernel) rfl
theorem kw_1122 : Cond.code ⟨"ColourDuelModel", "append", "(IIIII)I"⟩ prog_8_method_7_code 8 (Option.some FieldType.int) ∈ Tb := tb_of (i := 1122) (by decide +kernel) rfl
theorem kw_1126 : Cond.code ⟨"ColourDuelModel", "load", "(I)I"⟩ prog_8_method_22_code 3 (Option.some FieldType.int) ∈ Tb := tb_of (i := 1126) (by decide +kernel) rfl
theorem kw_1127 : Cond.methodLink "ColourDuelModel" 76 ⟨"ColourDuelModel", "isIn", "(III)Z"⟩ ∈ Tb := tb_of (i := 1127) (by decide +kernel) rfl
theorem kw_1128 : Cond.static ⟨"ColourDuelModel", "isIn", "(III)Z"⟩ ∈ Tb := tb_of (i := 1128) (by decide +kernel) rfl
theorem kw_1129 : Cond.code ⟨"ColourDuelModel", "isIn", "(III)Z"⟩ prog_8_method_3_code 3 (Option.some FieldType.boolean) ∈ Tb := tb_of (i := 1129) (by decide +kernel) rfl
theorem kw_1130 : Cond.methodLink "ColourDuelModel" 103 ⟨"ColourDuelModel", "next", "()V"⟩ ∈ Tb := tb_of (i := 1130) (by decide +kernel) rfl
theorem kw_1132 : Cond.instanceMethod ⟨"ColourDuelModel", "next", "()V"⟩ ∈ Tb := tb_of (i := 1132) (by decide +kernel) rfl
theorem kw_1133 : Cond.code ⟨"ColourDuelModel", "next", "()V"⟩ prog_8_method_9_code 1 (Option.none : Option FieldType) ∈ Tb := tb_of (i := 1133) (by decide +kernel) rfl
theorem kw_1134 : Cond.methodLink "ColourDuelModel" 69 ⟨"ColourDuelModel", "see", "(I)I"⟩ ∈ Tb := tb_of (i := 1134) (by decide +kernel) rfl
theorem kw_1136 : Cond.instanceMethod ⟨"ColourDuelModel", "see", "(I)I"⟩ ∈ Tb := tb_of (i := 1136) (by decide +kernel) rfl
theorem kw_1137 : Cond.code ⟨"ColourDuelModel", "see", "(I)I"⟩ prog_8_method_8_code 2 (Option.some FieldType.int) ∈ Tb := tb_of (i := 1137) (by decide +kernel) rfl
theorem kw_1138 : Cond.methodLink "ColourDuelModel" 164 ⟨"ColourDuelModel", "reads", "()V"⟩ ∈ Tb := tb_of (i := 1138) (by decide +kernel) rfl
theorem kw_1140 : Cond.instanceMethod ⟨"ColourDuelModel", "reads", "()V"⟩ ∈ Tb := tb_of (i := 1140) (by decide +kernel) rfl
theorem kw_1141 : Cond.code ⟨"ColourDuelModel", "reads", "()V"⟩ prog_8_method_21_code 1 (Option.none : Option FieldType) ∈ Tb := tb_of (i := 1141) (by decide +kernel) rfl
theorem kn_1142 : Cond.stringRef "ColourDuelModel" 137 "colours" ∈ lw_tbl := tn_of (i := 1142) (by decide +kernel)
theorem kw_1143 : Cond.methodLink "ColourDuelModel" 139 ⟨"ColourDuelModel", "isWord", "(Ljava/lang/String;)Z"⟩ ∈ Tb := tb_of (i := 1143) (by decide +kernel) rfl
theorem kw_1145 : Cond.instanceMethod ⟨"ColourDuelModel", "isWord", "(Ljava/lang/String;)Z"⟩ ∈ Tb := tb_of (i := 1145) (by decide +kernel) rfl
theorem kw_1146 : Cond.code ⟨"ColourDuelModel", "isWord", "(Ljava/lang/String;)Z"⟩ prog_8_method_10_code 3 (Option.some FieldType.boolean) ∈ Tb := tb_of (i := 1146) (by decide +kernel) rfl
theorem kw_1147 : Cond.methodLink "ColourDuelModel" 86 ⟨"java/lang/String", "length", "()I"⟩ ∈ Tb := tb_of (i := 1147) (by decide +kernel) rfl
theorem kw_1148 : Cond.methodLink "ColourDuelModel" 92 ⟨"java/lang/String", "charAt", "(I)C"⟩ ∈ Tb := tb_of (i := 1148) (by decide +kernel) rfl
theorem kw_1149 : Cond.methodLink "ColourDuelModel" 106 ⟨"ColourDuelModel", "must", "(Z)V"⟩ ∈ Tb := tb_of (i := 1149) (by decide +kernel) rfl
theorem kw_1151 : Cond.instanceMethod ⟨"ColourDuelModel", "must", "(Z)V"⟩ ∈ Tb := tb_of (i := 1151) (by decide +kernel) rfl
theorem kw_1152 : Cond.code ⟨"ColourDuelModel", "must", "(Z)V"⟩ prog_8_method_12_code 2 (Option.none : Option FieldType) ∈ Tb := tb_of (i := 1152) (by decide +kernel) rfl
theorem kw_1153 : Cond.methodLink "ColourDuelModel" 99 ⟨"ColourDuelModel", "fails", "(I)V"⟩ ∈ Tb := tb_of (i := 1153) (by decide +kernel) rfl
theorem kw_1155 : Cond.instanceMethod ⟨"ColourDuelModel", "fails", "(I)V"⟩ ∈ Tb := tb_of (i := 1155) (by decide +kernel) rfl
theorem kw_1156 : Cond.code ⟨"ColourDuelModel", "fails", "(I)V"⟩ prog_8_method_11_code 2 (Option.none : Option FieldType) ∈ Tb := tb_of (i := 1156) (by decide +kernel) rfl
theorem kw_1157 : Cond.methodLink "ColourDuelModel" 119 ⟨"ColourDuelModel", "takes", "(II)I"⟩ ∈ Tb := tb_of (i := 1157) (by decide +kernel) rfl
theorem kw_1159 : Cond.instanceMethod ⟨"ColourDuelModel", "takes", "(II)I"⟩ ∈ Tb := tb_of (i := 1159) (by decide +kernel) rfl
theorem kw_1160 : Cond.code ⟨"ColourDuelModel", "takes", "(II)I"⟩ prog_8_method_13_code 4 (Option.some FieldType.int) ∈ Tb := tb_of (i := 1160) (by decide +kernel) rfl
theorem kn_1161 : Cond.stringRef "ColourDuelModel" 143 "passes" ∈ lw_tbl := tn_of (i := 1161) (by decide +kernel)
theorem kw_1162 : Cond.methodLink "ColourDuelModel" 116 ⟨"ColourDuelModel", "mustEnd", "()V"⟩ ∈ Tb := tb_of (i := 1162) (by decide +kernel) rfl
theorem kw_1164 : Cond.instanceMethod ⟨"ColourDuelModel", "mustEnd", "()V"⟩ ∈ Tb := tb_of (i := 1164) (by decide +kernel) rfl
theorem kw_1165 : Cond.code ⟨"ColourDuelModel", "mustEnd", "()V"⟩ prog_8_method_14_code 1 (Option.none : Option FieldType) ∈ Tb := tb_of (i := 1165) (by decide +kernel) rfl
theorem kn_1166 : Cond.stringRef "ColourDuelModel" 144 "vertex" ∈ lw_tbl := tn_of (i := 1166) (by decide +kernel)
theorem kw_1167 : Cond.methodLink "ColourDuelModel" 146 ⟨"ColourDuelModel", "readsVertex", "()V"⟩ ∈ Tb := tb_of (i := 1167) (by decide +kernel) rfl
theorem kw_1169 : Cond.instanceMethod ⟨"ColourDuelModel", "readsVertex", "()V"⟩ ∈ Tb := tb_of (i := 1169) (by decide +kernel) rfl
theorem kw_1170 : Cond.code ⟨"ColourDuelModel", "readsVertex", "()V"⟩ prog_8_method_17_code 2 (Option.none : Option FieldType) ∈ Tb := tb_of (i := 1170) (by decide +kernel) rfl
theorem kw_1171 : Cond.methodLink "ColourDuelModel" 110 ⟨"ColourDuelModel", "colouringsNext", "()I"⟩ ∈ Tb := tb_of (i := 1171) (by decide +kernel) rfl
theorem kw_1173 : Cond.instanceMethod ⟨"ColourDuelModel", "colouringsNext", "()I"⟩ ∈ Tb := tb_of (i := 1173) (by decide +kernel) rfl
theorem kw_1174 : Cond.code ⟨"ColourDuelModel", "colouringsNext", "()I"⟩ prog_8_method_16_code 3 (Option.some FieldType.int) ∈ Tb := tb_of (i := 1174) (by decide +kernel) rfl
theorem kw_1175 : Cond.methodLink "ColourDuelModel" 113 ⟨"ColourDuelModel", "lettersHere", "()I"⟩ ∈ Tb := tb_of (i := 1175) (by decide +kernel) rfl
theorem kw_1177 : Cond.instanceMethod ⟨"ColourDuelModel", "lettersHere", "()I"⟩ ∈ Tb := tb_of (i := 1177) (by decide +kernel) rfl
theorem kw_1178 : Cond.code ⟨"ColourDuelModel", "lettersHere", "()I"⟩ prog_8_method_15_code 4 (Option.some FieldType.int) ∈ Tb := tb_of (i := 1178) (by decide +kernel) rfl
theorem kn_1179 : Cond.stringRef "ColourDuelModel" 149 "edge" ∈ lw_tbl := tn_of (i := 1179) (by decide +kernel)
theorem kw_1180 : Cond.methodLink "ColourDuelModel" 151 ⟨"ColourDuelModel", "readsEdge", "()V"⟩ ∈ Tb := tb_of (i := 1180) (by decide +kernel) rfl
theorem kw_1182 : Cond.instanceMethod ⟨"ColourDuelModel", "readsEdge", "()V"⟩ ∈ Tb := tb_of (i := 1182) (by decide +kernel) rfl
theorem kw_1183 : Cond.code ⟨"ColourDuelModel", "readsEdge", "()V"⟩ prog_8_method_18_code 3 (Option.none : Option FieldType) ∈ Tb := tb_of (i := 1183) (by decide +kernel) rfl
theorem kw_1184 : Cond.methodLink "ColourDuelModel" 123 ⟨"ColourDuelModel", "areNext", "(II)Z"⟩ ∈ Tb := tb_of (i := 1184) (by decide +kernel) rfl
theorem kw_1186 : Cond.instanceMethod ⟨"ColourDuelModel", "areNext", "(II)Z"⟩ ∈ Tb := tb_of (i := 1186) (by decide +kernel) rfl
theorem kw_1187 : Cond.code ⟨"ColourDuelModel", "areNext", "(II)Z"⟩ prog_8_method_24_code 3 (Option.some FieldType.boolean) ∈ Tb := tb_of (i := 1187) (by decide +kernel) rfl
theorem kn_1188 : Cond.stringRef "ColourDuelModel" 154 "lay" ∈ lw_tbl := tn_of (i := 1188) (by decide +kernel)
theorem kn_1189 : Cond.stringRef "ColourDuelModel" 156 "pass" ∈ lw_tbl := tn_of (i := 1189) (by decide +kernel)
theorem kw_1190 : Cond.methodLink "ColourDuelModel" 158 ⟨"ColourDuelModel", "readsLay", "()V"⟩ ∈ Tb := tb_of (i := 1190) (by decide +kernel) rfl
theorem kw_1192 : Cond.instanceMethod ⟨"ColourDuelModel", "readsLay", "()V"⟩ ∈ Tb := tb_of (i := 1192) (by decide +kernel) rfl
theorem kw_1193 : Cond.code ⟨"ColourDuelModel", "readsLay", "()V"⟩ prog_8_method_19_code 4 (Option.none : Option FieldType) ∈ Tb := tb_of (i := 1193) (by decide +kernel) rfl
theorem kw_1194 : Cond.methodLink "ColourDuelModel" 127 ⟨"ColourDuelModel", "whyNot", "(II)I"⟩ ∈ Tb := tb_of (i := 1194) (by decide +kernel) rfl
theorem kw_1196 : Cond.instanceMethod ⟨"ColourDuelModel", "whyNot", "(II)I"⟩ ∈ Tb := tb_of (i := 1196) (by decide +kernel) rfl
theorem kw_1197 : Cond.code ⟨"ColourDuelModel", "whyNot", "(II)I"⟩ prog_8_method_38_code 3 (Option.some FieldType.int) ∈ Tb := tb_of (i := 1197) (by decide +kernel) rfl
theorem kw_1198 : Cond.methodLink "ColourDuelModel" 170 ⟨"ColourDuelModel", "isFree", "(I)Z"⟩ ∈ Tb := tb_of (i := 1198) (by decide +kernel) rfl
theorem kw_1200 : Cond.instanceMethod ⟨"ColourDuelModel", "isFree", "(I)Z"⟩ ∈ Tb := tb_of (i := 1200) (by decide +kernel) rfl
theorem kw_1201 : Cond.code ⟨"ColourDuelModel", "isFree", "(I)Z"⟩ prog_8_method_26_code 2 (Option.some FieldType.boolean) ∈ Tb := tb_of (i := 1201) (by decide +kernel) rfl
theorem kw_1202 : Cond.methodLink "ColourDuelModel" 186 ⟨"ColourDuelModel", "around", "(I)I"⟩ ∈ Tb := tb_of (i := 1202) (by decide +kernel) rfl
theorem kw_1204 : Cond.instanceMethod ⟨"ColourDuelModel", "around", "(I)I"⟩ ∈ Tb := tb_of (i := 1204) (by decide +kernel) rfl
theorem kw_1205 : Cond.code ⟨"ColourDuelModel", "around", "(I)I"⟩ prog_8_method_34_code 4 (Option.some FieldType.int) ∈ Tb := tb_of (i := 1205) (by decide +kernel) rfl
theorem kw_1206 : Cond.methodLink "ColourDuelModel" 183 ⟨"ColourDuelModel", "colourOf", "(I)I"⟩ ∈ Tb := tb_of (i := 1206) (by decide +kernel) rfl
theorem kw_1208 : Cond.instanceMethod ⟨"ColourDuelModel", "colourOf", "(I)I"⟩ ∈ Tb := tb_of (i := 1208) (by decide +kernel) rfl
theorem kw_1209 : Cond.code ⟨"ColourDuelModel", "colourOf", "(I)I"⟩ prog_8_method_25_code 2 (Option.some FieldType.int) ∈ Tb := tb_of (i := 1209) (by decide +kernel) rfl
theorem kw_1210 : Cond.methodLink "ColourDuelModel" 199 ⟨"ColourDuelModel", "colours", "(I)I"⟩ ∈ Tb := tb_of (i := 1210) (by decide +kernel) rfl
theorem kw_1212 : Cond.instanceMethod ⟨"ColourDuelModel", "colours", "(I)I"⟩ ∈ Tb := tb_of (i := 1212) (by decide +kernel) rfl
theorem kw_1213 : Cond.code ⟨"ColourDuelModel", "colours", "(I)I"⟩ prog_8_method_37_code 2 (Option.some FieldType.int) ∈ Tb := tb_of (i := 1213) (by decide +kernel) rfl
theorem kw_1214 : Cond.methodLink "ColourDuelModel" 180 ⟨"ColourDuelModel", "freeSet", "()I"⟩ ∈ Tb := tb_of (i := 1214) (by decide +kernel) rfl
theorem kw_1216 : Cond.instanceMethod ⟨"ColourDuelModel", "freeSet", "()I"⟩ ∈ Tb := tb_of (i := 1216) (by decide +kernel) rfl
theorem kw_1217 : Cond.code ⟨"ColourDuelModel", "freeSet", "()I"⟩ prog_8_method_27_code 3 (Option.some FieldType.int) ∈ Tb := tb_of (i := 1217) (by decide +kernel) rfl
theorem kw_1218 : Cond.methodLink "ColourDuelModel" 177 ⟨"ColourDuelModel", "reached", "(II)I"⟩ ∈ Tb := tb_of (i := 1218) (by decide +kernel) rfl
theorem kw_1220 : Cond.instanceMethod ⟨"ColourDuelModel", "reached", "(II)I"⟩ ∈ Tb := tb_of (i := 1220) (by decide +kernel) rfl
theorem kw_1221 : Cond.code ⟨"ColourDuelModel", "reached", "(II)I"⟩ prog_8_method_30_code 6 (Option.some FieldType.int) ∈ Tb := tb_of (i := 1221) (by decide +kernel) rfl
theorem kw_1222 : Cond.methodLink "ColourDuelModel" 192 ⟨"ColourDuelModel", "banOf", "(I)I"⟩ ∈ Tb := tb_of (i := 1222) (by decide +kernel) rfl
theorem kw_1224 : Cond.instanceMethod ⟨"ColourDuelModel", "banOf", "(I)I"⟩ ∈ Tb := tb_of (i := 1224) (by decide +kernel) rfl
theorem kw_1225 : Cond.code ⟨"ColourDuelModel", "banOf", "(I)I"⟩ prog_8_method_36_code 2 (Option.some FieldType.int) ∈ Tb := tb_of (i := 1225) (by decide +kernel) rfl
theorem kw_1226 : Cond.methodLink "ColourDuelModel" 195 ⟨"ColourDuelModel", "canLay", "(III)I"⟩ ∈ Tb := tb_of (i := 1226) (by decide +kernel) rfl
theorem kw_1228 : Cond.instanceMethod ⟨"ColourDuelModel", "canLay", "(III)I"⟩ ∈ Tb := tb_of (i := 1228) (by decide +kernel) rfl
theorem kw_1229 : Cond.code ⟨"ColourDuelModel", "canLay", "(III)I"⟩ prog_8_method_35_code 5 (Option.some FieldType.int) ∈ Tb := tb_of (i := 1229) (by decide +kernel) rfl
theorem kw_1230 : Cond.methodLink "ColourDuelModel" 189 ⟨"ColourDuelModel", "bits", "(I)I"⟩ ∈ Tb := tb_of (i := 1230) (by decide +kernel) rfl
theorem kw_1231 : Cond.static ⟨"ColourDuelModel", "bits", "(I)I"⟩ ∈ Tb := tb_of (i := 1231) (by decide +kernel) rfl
theorem kw_1232 : Cond.code ⟨"ColourDuelModel", "bits", "(I)I"⟩ prog_8_method_28_code 3 (Option.some FieldType.int) ∈ Tb := tb_of (i := 1232) (by decide +kernel) rfl
theorem kw_1233 : Cond.methodLink "ColourDuelModel" 130 ⟨"ColourDuelModel", "lays", "(II)V"⟩ ∈ Tb := tb_of (i := 1233) (by decide +kernel) rfl
theorem kw_1235 : Cond.instanceMethod ⟨"ColourDuelModel", "lays", "(II)V"⟩ ∈ Tb := tb_of (i := 1235) (by decide +kernel) rfl
theorem kw_1236 : Cond.code ⟨"ColourDuelModel", "lays", "(II)V"⟩ prog_8_method_73_code 5 (Option.none : Option FieldType) ∈ Tb := tb_of (i := 1236) (by decide +kernel) rfl
theorem kw_1237 : Cond.methodLink "ColourDuelModel" 207 ⟨"ColourDuelModel", "partsIn", "(I)I"⟩ ∈ Tb := tb_of (i := 1237) (by decide +kernel) rfl
theorem kw_1239 : Cond.instanceMethod ⟨"ColourDuelModel", "partsIn", "(I)I"⟩ ∈ Tb := tb_of (i := 1239) (by decide +kernel) rfl
theorem kw_1240 : Cond.code ⟨"ColourDuelModel", "partsIn", "(I)I"⟩ prog_8_method_31_code 4 (Option.some FieldType.int) ∈ Tb := tb_of (i := 1240) (by decide +kernel) rfl
theorem kw_1241 : Cond.methodLink "ColourDuelModel" 174 ⟨"ColourDuelModel", "lowest", "(I)I"⟩ ∈ Tb := tb_of (i := 1241) (by decide +kernel) rfl
theorem kw_1242 : Cond.static ⟨"ColourDuelModel", "lowest", "(I)I"⟩ ∈ Tb := tb_of (i := 1242) (by decide +kernel) rfl
theorem kw_1243 : Cond.code ⟨"ColourDuelModel", "lowest", "(I)I"⟩ prog_8_method_29_code 2 (Option.some FieldType.int) ∈ Tb := tb_of (i := 1243) (by decide +kernel) rfl
theorem kw_1244 : Cond.methodLink "ColourDuelModel" 268 ⟨"ColourDuelModel", "notes", "(III)V"⟩ ∈ Tb := tb_of (i := 1244) (by decide +kernel) rfl
theorem kw_1246 : Cond.instanceMethod ⟨"ColourDuelModel", "notes", "(III)V"⟩ ∈ Tb := tb_of (i := 1246) (by decide +kernel) rfl
theorem kw_1247 : Cond.code ⟨"ColourDuelModel", "notes", "(III)V"⟩ prog_8_method_72_code 5 (Option.none : Option FieldType) ∈ Tb := tb_of (i := 1247) (by decide +kernel) rfl
theorem kw_1248 : Cond.methodLink "ColourDuelModel" 210 ⟨"ColourDuelModel", "turn", "()I"⟩ ∈ Tb := tb_of (i := 1248) (by decide +kernel) rfl
theorem kw_1250 : Cond.instanceMethod ⟨"ColourDuelModel", "turn", "()I"⟩ ∈ Tb := tb_of (i := 1250) (by decide +kernel) rfl
theorem kw_1251 : Cond.code ⟨"ColourDuelModel", "turn", "()I"⟩ prog_8_method_41_code 1 (Option.some FieldType.int) ∈ Tb := tb_of (i := 1251) (by decide +kernel) rfl
theorem kw_1252 : Cond.methodLink "ColourDuelModel" 161 ⟨"ColourDuelModel", "readsPass", "()V"⟩ ∈ Tb := tb_of (i := 1252) (by decide +kernel) rfl
theorem kw_1254 : Cond.instanceMethod ⟨"ColourDuelModel", "readsPass", "()V"⟩ ∈ Tb := tb_of (i := 1254) (by decide +kernel) rfl
theorem kw_1255 : Cond.code ⟨"ColourDuelModel", "readsPass", "()V"⟩ prog_8_method_20_code 1 (Option.none : Option FieldType) ∈ Tb := tb_of (i := 1255) (by decide +kernel) rfl
theorem kw_1256 : Cond.methodLink "ColourDuelModel" 134 ⟨"ColourDuelModel", "passes", "()V"⟩ ∈ Tb := tb_of (i := 1256) (by decide +kernel) rfl
theorem kw_1258 : Cond.instanceMethod ⟨"ColourDuelModel", "passes", "()V"⟩ ∈ Tb := tb_of (i := 1258) (by decide +kernel) rfl
theorem kw_1259 : Cond.code ⟨"ColourDuelModel", "passes", "()V"⟩ prog_8_method_74_code 1 (Option.none : Option FieldType) ∈ Tb := tb_of (i := 1259) (by decide +kernel) rfl
theorem kw_1260 : Cond.methodLink "ColourDuelModel" 167 ⟨"ColourDuelModel", "keeps", "()V"⟩ ∈ Tb := tb_of (i := 1260) (by decide +kernel) rfl
theorem kw_1262 : Cond.instanceMethod ⟨"ColourDuelModel", "keeps", "()V"⟩ ∈ Tb := tb_of (i := 1262) (by decide +kernel) rfl
theorem kw_1263 : Cond.code ⟨"ColourDuelModel", "keeps", "()V"⟩ prog_8_method_5_code 2 (Option.none : Option FieldType) ∈ Tb := tb_of (i := 1263) (by decide +kernel) rfl
theorem kw_1267 : Cond.code ⟨"ColourDuelModel", "errorPosition", "()I"⟩ prog_8_method_23_code 1 (Option.some FieldType.int) ∈ Tb := tb_of (i := 1267) (by decide +kernel) rfl
theorem kw_1271 : Cond.code ⟨"ColourDuelModel", "count", "(I)I"⟩ prog_8_method_44_code 2 (Option.some FieldType.int) ∈ Tb := tb_of (i := 1271) (by decide +kernel) rfl
theorem kw_1272 : Cond.methodLink "ColourDuelModel" 204 ⟨"ColourDuelModel", "edgesIn", "(I)I"⟩ ∈ Tb := tb_of (i := 1272) (by decide +kernel) rfl
theorem kw_1274 : Cond.instanceMethod ⟨"ColourDuelModel", "edgesIn", "(I)I"⟩ ∈ Tb := tb_of (i := 1274) (by decide +kernel) rfl
theorem kw_1275 : Cond.code ⟨"ColourDuelModel", "edgesIn", "(I)I"⟩ prog_8_method_43_code 4 (Option.some FieldType.int) ∈ Tb := tb_of (i := 1275) (by decide +kernel) rfl
theorem kw_1276 : Cond.methodLink "ColourDuelModel" 213 ⟨"ColourDuelModel", "isOver", "()Z"⟩ ∈ Tb := tb_of (i := 1276) (by decide +kernel) rfl
theorem kw_1278 : Cond.instanceMethod ⟨"ColourDuelModel", "isOver", "()Z"⟩ ∈ Tb := tb_of (i := 1278) (by decide +kernel) rfl
theorem kw_1279 : Cond.code ⟨"ColourDuelModel", "isOver", "()Z"⟩ prog_8_method_40_code 1 (Option.some FieldType.boolean) ∈ Tb := tb_of (i := 1279) (by decide +kernel) rfl
theorem kw_1280 : Cond.methodLink "ColourDuelModel" 201 ⟨"ColourDuelModel", "pairs", "()I"⟩ ∈ Tb := tb_of (i := 1280) (by decide +kernel) rfl
theorem kw_1282 : Cond.instanceMethod ⟨"ColourDuelModel", "pairs", "()I"⟩ ∈ Tb := tb_of (i := 1282) (by decide +kernel) rfl
theorem kw_1283 : Cond.code ⟨"ColourDuelModel", "pairs", "()I"⟩ prog_8_method_39_code 3 (Option.some FieldType.int) ∈ Tb := tb_of (i := 1283) (by decide +kernel) rfl
theorem kw_1284 : Cond.methodLink "ColourDuelModel" 217 ⟨"ColourDuelModel", "stuck", "()I"⟩ ∈ Tb := tb_of (i := 1284) (by decide +kernel) rfl
theorem kw_1286 : Cond.instanceMethod ⟨"ColourDuelModel", "stuck", "()I"⟩ ∈ Tb := tb_of (i := 1286) (by decide +kernel) rfl
theorem kw_1287 : Cond.code ⟨"ColourDuelModel", "stuck", "()I"⟩ prog_8_method_42_code 3 (Option.some FieldType.int) ∈ Tb := tb_of (i := 1287) (by decide +kernel) rfl
theorem kw_1291 : Cond.code ⟨"ColourDuelModel", "vertex", "(II)I"⟩ prog_8_method_47_code 3 (Option.some FieldType.int) ∈ Tb := tb_of (i := 1291) (by decide +kernel) rfl
theorem kw_1292 : Cond.methodLink "ColourDuelModel" 220 ⟨"ColourDuelModel", "isVertex", "(I)Z"⟩ ∈ Tb := tb_of (i := 1292) (by decide +kernel) rfl
theorem kw_1294 : Cond.instanceMethod ⟨"ColourDuelModel", "isVertex", "(I)Z"⟩ ∈ Tb := tb_of (i := 1294) (by decide +kernel) rfl
theorem kw_1295 : Cond.code ⟨"ColourDuelModel", "isVertex", "(I)Z"⟩ prog_8_method_45_code 2 (Option.some FieldType.boolean) ∈ Tb := tb_of (i := 1295) (by decide +kernel) rfl
theorem kw_1296 : Cond.methodLink "ColourDuelModel" 223 ⟨"ColourDuelModel", "partOf", "(I)I"⟩ ∈ Tb := tb_of (i := 1296) (by decide +kernel) rfl
theorem kw_1298 : Cond.instanceMethod ⟨"ColourDuelModel", "partOf", "(I)I"⟩ ∈ Tb := tb_of (i := 1298) (by decide +kernel) rfl
theorem kw_1299 : Cond.code ⟨"ColourDuelModel", "partOf", "(I)I"⟩ prog_8_method_33_code 5 (Option.some FieldType.int) ∈ Tb := tb_of (i := 1299) (by decide +kernel) rfl
theorem kw_1303 : Cond.code ⟨"ColourDuelModel", "reason", "(II)I"⟩ prog_8_method_48_code 3 (Option.some FieldType.int) ∈ Tb := tb_of (i := 1303) (by decide +kernel) rfl
theorem kw_1304 : Cond.methodLink "ColourDuelModel" 226 ⟨"ColourDuelModel", "isColour", "(I)Z"⟩ ∈ Tb := tb_of (i := 1304) (by decide +kernel) rfl
theorem kw_1306 : Cond.instanceMethod ⟨"ColourDuelModel", "isColour", "(I)Z"⟩ ∈ Tb := tb_of (i := 1306) (by decide +kernel) rfl
theorem kw_1307 : Cond.code ⟨"ColourDuelModel", "isColour", "(I)Z"⟩ prog_8_method_46_code 2 (Option.some FieldType.boolean) ∈ Tb := tb_of (i := 1307) (by decide +kernel) rfl
theorem kw_1311 : Cond.code ⟨"ColourDuelModel", "part", "(II)I"⟩ prog_8_method_58_code 5 (Option.some FieldType.int) ∈ Tb := tb_of (i := 1311) (by decide +kernel) rfl
theorem kw_1312 : Cond.methodLink "ColourDuelModel" 244 ⟨"ColourDuelModel", "partSet", "(I)I"⟩ ∈ Tb := tb_of (i := 1312) (by decide +kernel) rfl
theorem kw_1314 : Cond.instanceMethod ⟨"ColourDuelModel", "partSet", "(I)I"⟩ ∈ Tb := tb_of (i := 1314) (by decide +kernel) rfl
theorem kw_1315 : Cond.code ⟨"ColourDuelModel", "partSet", "(I)I"⟩ prog_8_method_32_code 5 (Option.some FieldType.int) ∈ Tb := tb_of (i := 1315) (by decide +kernel) rfl
theorem kw_1316 : Cond.methodLink "ColourDuelModel" 247 ⟨"ColourDuelModel", "pairsIn", "(I)I"⟩ ∈ Tb := tb_of (i := 1316) (by decide +kernel) rfl
theorem kw_1318 : Cond.instanceMethod ⟨"ColourDuelModel", "pairsIn", "(I)I"⟩ ∈ Tb := tb_of (i := 1318) (by decide +kernel) rfl
theorem kw_1319 : Cond.code ⟨"ColourDuelModel", "pairsIn", "(I)I"⟩ prog_8_method_59_code 4 (Option.some FieldType.int) ∈ Tb := tb_of (i := 1319) (by decide +kernel) rfl
theorem kw_1320 : Cond.methodLink "ColourDuelModel" 250 ⟨"ColourDuelModel", "ofPart", "(III)I"⟩ ∈ Tb := tb_of (i := 1320) (by decide +kernel) rfl
theorem kw_1322 : Cond.instanceMethod ⟨"ColourDuelModel", "ofPart", "(III)I"⟩ ∈ Tb := tb_of (i := 1322) (by decide +kernel) rfl
theorem kw_1323 : Cond.code ⟨"ColourDuelModel", "ofPart", "(III)I"⟩ prog_8_method_60_code 5 (Option.some FieldType.int) ∈ Tb := tb_of (i := 1323) (by decide +kernel) rfl
theorem kw_1324 : Cond.methodLink "ColourDuelModel" 253 ⟨"ColourDuelModel", "forgets", "()V"⟩ ∈ Tb := tb_of (i := 1324) (by decide +kernel) rfl
theorem kw_1326 : Cond.instanceMethod ⟨"ColourDuelModel", "forgets", "()V"⟩ ∈ Tb := tb_of (i := 1326) (by decide +kernel) rfl
theorem kw_1327 : Cond.code ⟨"ColourDuelModel", "forgets", "()V"⟩ prog_8_method_49_code 2 (Option.none : Option FieldType) ∈ Tb := tb_of (i := 1327) (by decide +kernel) rfl
theorem kw_1328 : Cond.methodLink "ColourDuelModel" 229 ⟨"ColourDuelModel", "knownOf", "(II)I"⟩ ∈ Tb := tb_of (i := 1328) (by decide +kernel) rfl
theorem kw_1330 : Cond.instanceMethod ⟨"ColourDuelModel", "knownOf", "(II)I"⟩ ∈ Tb := tb_of (i := 1330) (by decide +kernel) rfl
theorem kw_1331 : Cond.code ⟨"ColourDuelModel", "knownOf", "(II)I"⟩ prog_8_method_52_code 13 (Option.some FieldType.int) ∈ Tb := tb_of (i := 1331) (by decide +kernel) rfl
theorem kw_1332 : Cond.methodLink "ColourDuelModel" 232 ⟨"ColourDuelModel", "placeOf", "(II)I"⟩ ∈ Tb := tb_of (i := 1332) (by decide +kernel) rfl
theorem kw_1334 : Cond.instanceMethod ⟨"ColourDuelModel", "placeOf", "(II)I"⟩ ∈ Tb := tb_of (i := 1334) (by decide +kernel) rfl
theorem kw_1335 : Cond.code ⟨"ColourDuelModel", "placeOf", "(II)I"⟩ prog_8_method_50_code 7 (Option.some FieldType.int) ∈ Tb := tb_of (i := 1335) (by decide +kernel) rfl
theorem kw_1336 : Cond.methodLink "ColourDuelModel" 235 ⟨"ColourDuelModel", "together", "(II)I"⟩ ∈ Tb := tb_of (i := 1336) (by decide +kernel) rfl
theorem kw_1338 : Cond.instanceMethod ⟨"ColourDuelModel", "together", "(II)I"⟩ ∈ Tb := tb_of (i := 1338) (by decide +kernel) rfl
theorem kw_1339 : Cond.code ⟨"ColourDuelModel", "together", "(II)I"⟩ prog_8_method_51_code 9 (Option.some FieldType.int) ∈ Tb := tb_of (i := 1339) (by decide +kernel) rfl
theorem kw_1343 : Cond.code ⟨"ColourDuelModel", "value", "()I"⟩ prog_8_method_61_code 1 (Option.some FieldType.int) ∈ Tb := tb_of (i := 1343) (by decide +kernel) rfl
theorem kw_1344 : Cond.methodLink "ColourDuelModel" 256 ⟨"ColourDuelModel", "valueNow", "()I"⟩ ∈ Tb := tb_of (i := 1344) (by decide +kernel) rfl
theorem kw_1346 : Cond.instanceMethod ⟨"ColourDuelModel", "valueNow", "()I"⟩ ∈ Tb := tb_of (i := 1346) (by decide +kernel) rfl
theorem kw_1347 : Cond.code ⟨"ColourDuelModel", "valueNow", "()I"⟩ prog_8_method_54_code 1 (Option.some FieldType.int) ∈ Tb := tb_of (i := 1347) (by decide +kernel) rfl
theorem kw_1348 : Cond.methodLink "ColourDuelModel" 238 ⟨"ColourDuelModel", "board", "()I"⟩ ∈ Tb := tb_of (i := 1348) (by decide +kernel) rfl
theorem kw_1350 : Cond.instanceMethod ⟨"ColourDuelModel", "board", "()I"⟩ ∈ Tb := tb_of (i := 1350) (by decide +kernel) rfl
theorem kw_1351 : Cond.code ⟨"ColourDuelModel", "board", "()I"⟩ prog_8_method_53_code 8 (Option.some FieldType.int) ∈ Tb := tb_of (i := 1351) (by decide +kernel) rfl
theorem kw_1355 : Cond.code ⟨"ColourDuelModel", "valueIf", "(II)I"⟩ prog_8_method_62_code 3 (Option.some FieldType.int) ∈ Tb := tb_of (i := 1355) (by decide +kernel) rfl
theorem kw_1356 : Cond.methodLink "ColourDuelModel" 241 ⟨"ColourDuelModel", "boardIf", "(II)I"⟩ ∈ Tb := tb_of (i := 1356) (by decide +kernel) rfl
theorem kw_1358 : Cond.instanceMethod ⟨"ColourDuelModel", "boardIf", "(II)I"⟩ ∈ Tb := tb_of (i := 1358) (by decide +kernel) rfl
theorem kw_1359 : Cond.code ⟨"ColourDuelModel", "boardIf", "(II)I"⟩ prog_8_method_55_code 6 (Option.some FieldType.int) ∈ Tb := tb_of (i := 1359) (by decide +kernel) rfl
theorem kw_1363 : Cond.code ⟨"ColourDuelModel", "winningMoves", "()I"⟩ prog_8_method_63_code 3 (Option.some FieldType.int) ∈ Tb := tb_of (i := 1363) (by decide +kernel) rfl
theorem kw_1364 : Cond.methodLink "ColourDuelModel" 259 ⟨"ColourDuelModel", "passWins", "()Z"⟩ ∈ Tb := tb_of (i := 1364) (by decide +kernel) rfl
theorem kw_1366 : Cond.instanceMethod ⟨"ColourDuelModel", "passWins", "()Z"⟩ ∈ Tb := tb_of (i := 1366) (by decide +kernel) rfl
theorem kw_1367 : Cond.code ⟨"ColourDuelModel", "passWins", "()Z"⟩ prog_8_method_57_code 1 (Option.some FieldType.boolean) ∈ Tb := tb_of (i := 1367) (by decide +kernel) rfl
theorem kw_1368 : Cond.methodLink "ColourDuelModel" 262 ⟨"ColourDuelModel", "winningOn", "(I)I"⟩ ∈ Tb := tb_of (i := 1368) (by decide +kernel) rfl
theorem kw_1370 : Cond.instanceMethod ⟨"ColourDuelModel", "winningOn", "(I)I"⟩ ∈ Tb := tb_of (i := 1370) (by decide +kernel) rfl
theorem kw_1371 : Cond.code ⟨"ColourDuelModel", "winningOn", "(I)I"⟩ prog_8_method_56_code 5 (Option.some FieldType.int) ∈ Tb := tb_of (i := 1371) (by decide +kernel) rfl
theorem kw_1375 : Cond.code ⟨"ColourDuelModel", "winningColours", "(I)I"⟩ prog_8_method_64_code 2 (Option.some FieldType.int) ∈ Tb := tb_of (i := 1375) (by decide +kernel) rfl
theorem kw_1379 : Cond.code ⟨"ColourDuelModel", "bestMove", "()I"⟩ prog_8_method_66_code 1 (Option.some FieldType.int) ∈ Tb := tb_of (i := 1379) (by decide +kernel) rfl
theorem kw_1380 : Cond.methodLink "ColourDuelModel" 265 ⟨"ColourDuelModel", "best", "()I"⟩ ∈ Tb := tb_of (i := 1380) (by decide +kernel) rfl
theorem kw_1382 : Cond.instanceMethod ⟨"ColourDuelModel", "best", "()I"⟩ ∈ Tb := tb_of (i := 1382) (by decide +kernel) rfl
theorem kw_1383 : Cond.code ⟨"ColourDuelModel", "best", "()I"⟩ prog_8_method_65_code 7 (Option.some FieldType.int) ∈ Tb := tb_of (i := 1383) (by decide +kernel) rfl
theorem kw_1387 : Cond.code ⟨"ColourDuelModel", "longest", "()I"⟩ prog_8_method_67_code 1 (Option.some FieldType.int) ∈ Tb := tb_of (i := 1387) (by decide +kernel) rfl
theorem kw_1391 : Cond.code ⟨"ColourDuelModel", "shortest", "()I"⟩ prog_8_method_68_code 1 (Option.some FieldType.int) ∈ Tb := tb_of (i := 1391) (by decide +kernel) rfl
theorem kw_1395 : Cond.code ⟨"ColourDuelModel", "meanValue", "()F"⟩ prog_8_method_69_code 4 (Option.some FieldType.float) ∈ Tb := tb_of (i := 1395) (by decide +kernel) rfl
theorem kw_1399 : Cond.code ⟨"ColourDuelModel", "falls", "(I)I"⟩ prog_8_method_70_code 2 (Option.some FieldType.int) ∈ Tb := tb_of (i := 1399) (by decide +kernel) rfl
theorem kw_1403 : Cond.code ⟨"ColourDuelModel", "valueWithout", "(I)I"⟩ prog_8_method_71_code 7 (Option.some FieldType.int) ∈ Tb := tb_of (i := 1403) (by decide +kernel) rfl
theorem kw_1407 : Cond.code ⟨"ColourDuelModel", "lay", "(II)I"⟩ prog_8_method_75_code 3 (Option.some FieldType.int) ∈ Tb := tb_of (i := 1407) (by decide +kernel) rfl
theorem kw_1411 : Cond.code ⟨"ColourDuelModel", "pass", "()I"⟩ prog_8_method_76_code 1 (Option.some FieldType.int) ∈ Tb := tb_of (i := 1411) (by decide +kernel) rfl
theorem kw_1415 : Cond.code ⟨"ColourDuelModel", "playOut", "(I)I"⟩ prog_8_method_77_code 4 (Option.some FieldType.int) ∈ Tb := tb_of (i := 1415) (by decide +kernel) rfl
theorem kw_1419 : Cond.code ⟨"ColourDuelModel", "setPasses", "(I)I"⟩ prog_8_method_78_code 3 (Option.some FieldType.int) ∈ Tb := tb_of (i := 1419) (by decide +kernel) rfl
theorem kw_1423 : Cond.code ⟨"ColourDuelModel", "move", "(II)I"⟩ prog_8_method_80_code 3 (Option.some FieldType.int) ∈ Tb := tb_of (i := 1423) (by decide +kernel) rfl
theorem kw_1424 : Cond.methodLink "ColourDuelModel" 272 ⟨"ColourDuelModel", "moved", "(II)I"⟩ ∈ Tb := tb_of (i := 1424) (by decide +kernel) rfl
theorem kw_1426 : Cond.instanceMethod ⟨"ColourDuelModel", "moved", "(II)I"⟩ ∈ Tb := tb_of (i := 1426) (by decide +kernel) rfl
theorem kw_1427 : Cond.code ⟨"ColourDuelModel", "moved", "(II)I"⟩ prog_8_method_79_code 4 (Option.some FieldType.int) ∈ Tb := tb_of (i := 1427) (by decide +kernel) rfl
theorem kw_1431 : Cond.code ⟨"ColourDuelModel", "account", "(II)I"⟩ prog_8_method_82_code 6 (Option.some FieldType.int) ∈ Tb := tb_of (i := 1431) (by decide +kernel) rfl
theorem kw_1432 : Cond.methodLink "ColourDuelModel" 275 ⟨"ColourDuelModel", "counts", "(II)Z"⟩ ∈ Tb := tb_of (i := 1432) (by decide +kernel) rfl
theorem kw_1434 : Cond.instanceMethod ⟨"ColourDuelModel", "counts", "(II)Z"⟩ ∈ Tb := tb_of (i := 1434) (by decide +kernel) rfl
theorem kw_1435 : Cond.code ⟨"ColourDuelModel", "counts", "(II)Z"⟩ prog_8_method_81_code 4 (Option.some FieldType.boolean) ∈ Tb := tb_of (i := 1435) (by decide +kernel) rfl
theorem kw_1439 : Cond.code ⟨"ColourDuelModel", "writeBoard", "()I"⟩ prog_8_method_84_code 2 (Option.some FieldType.int) ∈ Tb := tb_of (i := 1439) (by decide +kernel) rfl
theorem kw_1440 : Cond.methodLink "ColourDuelModel" 281 ⟨"ColourDuelModel", "says", "(I)V"⟩ ∈ Tb := tb_of (i := 1440) (by decide +kernel) rfl
theorem kw_1442 : Cond.instanceMethod ⟨"ColourDuelModel", "says", "(I)V"⟩ ∈ Tb := tb_of (i := 1442) (by decide +kernel) rfl
theorem kw_1443 : Cond.code ⟨"ColourDuelModel", "says", "(I)V"⟩ prog_8_method_83_code 2 (Option.none : Option FieldType) ∈ Tb := tb_of (i := 1443) (by decide +kernel) rfl
theorem kw_1447 : Cond.code ⟨"ColourDuelModel", "writtenByte", "(I)I"⟩ prog_8_method_85_code 2 (Option.some FieldType.int) ∈ Tb := tb_of (i := 1447) (by decide +kernel) rfl
theorem kw_1451 : Cond.code ⟨"ColourDuelModel", "save", "(I)I"⟩ prog_8_method_86_code 2 (Option.some FieldType.int) ∈ Tb := tb_of (i := 1451) (by decide +kernel) rfl
theorem kw_1455 : Cond.code ⟨"ColourDuelModel", "restore", "(I)I"⟩ prog_8_method_87_code 2 (Option.some FieldType.int) ∈ Tb := tb_of (i := 1455) (by decide +kernel) rfl
abbrev M_J6_bitCount : Mt := (yJ6_bitCount_0f7a4, cJ6_bitCount_0f7a4, 1, (some .int), [])
theorem K_J6_bitCount : KM M_J6_bitCount 1 := ⟨kw_286, kw_98, ⟨by decide, by decide, by decide +kernel⟩, by decide, by decide, rfl⟩
abbrev M_X5_errorPosition : Mt := (yX5_errorPosition, cX5_errorPosition, 1, (some .int), [])
theorem K_X5_errorPosition : KM M_X5_errorPosition 0 := ⟨kw_271, kw_82, ⟨by decide, by decide, by decide +kernel⟩, by decide, by decide, rfl⟩
abbrev M_X5_writtenByte : Mt := (yX5_writtenByte, cX5_writtenByte, 2, (some .int), [])
theorem K_X5_writtenByte : KM M_X5_writtenByte 1 := ⟨kw_1000, kw_82, ⟨by decide, by decide, by decide +kernel⟩, by decide, by decide, rfl⟩
abbrev M_X5_write : Mt := (yX5_write, cX5_write, 2, none, [])
theorem K_X5_write : KM M_X5_write 1 := ⟨kw_443, kw_82, ⟨by decide, by decide, by decide +kernel⟩, by decide, by decide, rfl⟩
abbrev M_X5_has : Mt := (yX5_has, cX5_has, 2, (some .boolean), [])
theorem K_X5_has : KM M_X5_has 2 := ⟨kw_320, kw_82, ⟨by decide, by decide, by decide +kernel⟩, by decide, by decide, rfl⟩
abbrev M_X5_at : Mt := (yX5_at, cX5_at, 2, (some .int), [])
theorem K_X5_at : KM M_X5_at 2 := ⟨kw_304, kw_82, ⟨by decide, by decide, by decide +kernel⟩, by decide, by decide, rfl⟩
abbrev M_X5_add : Mt := (yX5_add, cX5_add, 3, none, [])
theorem K_X5_add : KM M_X5_add 3 := ⟨kw_694, kw_82, ⟨by decide, by decide, by decide +kernel⟩, by decide, by decide, rfl⟩
abbrev M_X5_copyRow : Mt := (yX5_copyRow, cX5_copyRow, 3, none, [])
theorem K_X5_copyRow : KM M_X5_copyRow 2 := ⟨kw_767, kw_82, ⟨by decide, by decide, by decide +kernel⟩, by decide, by decide, rfl⟩
abbrev M_X5_clearRow : Mt := (yX5_clearRow, cX5_clearRow, 2, none, [])
theorem K_X5_clearRow : KM M_X5_clearRow 1 := ⟨kw_646, kw_82, ⟨by decide, by decide, by decide +kernel⟩, by decide, by decide, rfl⟩
abbrev M_X5_answerOf : Mt := (yX5_answerOf, cX5_answerOf, 3, (some .int), [])
theorem K_X5_answerOf : KM M_X5_answerOf 3 := ⟨kw_361, kw_82, ⟨by decide, by decide, by decide +kernel⟩, by decide, by decide, rfl⟩
abbrev M_X5_valueIn : Mt := (yX5_valueIn, cX5_valueIn, 1, (some .int), [])
theorem K_X5_valueIn : KM M_X5_valueIn 1 := ⟨kw_342, kw_82, ⟨by decide, by decide, by decide +kernel⟩, by decide, by decide, rfl⟩
abbrev M_X5_longestIn : Mt := (yX5_longestIn, cX5_longestIn, 1, (some .int), [])
theorem K_X5_longestIn : KM M_X5_longestIn 1 := ⟨kw_345, kw_82, ⟨by decide, by decide, by decide +kernel⟩, by decide, by decide, rfl⟩
abbrev M_X5_shortestIn : Mt := (yX5_shortestIn, cX5_shortestIn, 1, (some .int), [])
theorem K_X5_shortestIn : KM M_X5_shortestIn 1 := ⟨kw_351, kw_82, ⟨by decide, by decide, by decide +kernel⟩, by decide, by decide, rfl⟩
abbrev M_X5_together : Mt := (yX5_together, cX5_together, 3, (some .int), [])
theorem K_X5_together : KM M_X5_together 2 := ⟨kw_339, kw_82, ⟨by decide, by decide, by decide +kernel⟩, by decide, by decide, rfl⟩
abbrev M_X6_init : Mt := (yX6_init, cX6_init, 1, none, [])
theorem K_X6_init : KM M_X6_init 0 := ⟨kw_1036, kw_87, ⟨by decide, by decide, by decide +kernel⟩, by decide, by decide, rfl⟩
abbrev M_X6_thrown : Mt := (yX6_thrown, cX6_thrown, 1, (some .int), [])
theorem K_X6_thrown : KM M_X6_thrown 0 := ⟨kw_1111, kw_87, ⟨by decide, by decide, by decide +kernel⟩, by decide, by decide, rfl⟩
abbrev M_X6_isIn : Mt := (yX6_isIn, cX6_isIn, 3, (some .boolean), [])
theorem K_X6_isIn : KM M_X6_isIn 3 := ⟨kw_1129, kw_87, ⟨by decide, by decide, by decide +kernel⟩, by decide, by decide, rfl⟩
abbrev M_X6_sets : Mt := (yX6_sets, cX6_sets, 5, none, [])
theorem K_X6_sets : KM M_X6_sets 4 := ⟨kw_1118, kw_87, ⟨by decide, by decide, by decide +kernel⟩, by decide, by decide, rfl⟩
abbrev M_X6_append : Mt := (yX6_append, cX6_append, 8, (some .int), [])
theorem K_X6_append : KM M_X6_append 5 := ⟨kw_1122, kw_87, ⟨by decide, by decide, by decide +kernel⟩, by decide, by decide, rfl⟩
abbrev M_X6_see : Mt := (yX6_see, cX6_see, 2, (some .int), [])
theorem K_X6_see : KM M_X6_see 1 := ⟨kw_1137, kw_87, ⟨by decide, by decide, by decide +kernel⟩, by decide, by decide, rfl⟩
abbrev M_X6_fails : Mt := (yX6_fails, cX6_fails, 2, none, [])
theorem K_X6_fails : KM M_X6_fails 1 := ⟨kw_1156, kw_87, ⟨by decide, by decide, by decide +kernel⟩, by decide, by decide, rfl⟩
abbrev M_X6_lettersHere : Mt := (yX6_lettersHere, cX6_lettersHere, 4, (some .int), [])
theorem K_X6_lettersHere : KM M_X6_lettersHere 0 := ⟨kw_1178, kw_87, ⟨by decide, by decide, by decide +kernel⟩, by decide, by decide, rfl⟩
abbrev M_X6_colouringsNext : Mt := (yX6_colouringsNext, cX6_colouringsNext, 3, (some .int), [])
theorem K_X6_colouringsNext : KM M_X6_colouringsNext 0 := ⟨kw_1174, kw_87, ⟨by decide, by decide, by decide +kernel⟩, by decide, by decide, rfl⟩
abbrev M_X6_errorPosition : Mt := (yX6_errorPosition, cX6_errorPosition, 1, (some .int), [])
theorem K_X6_errorPosition : KM M_X6_errorPosition 0 := ⟨kw_1267, kw_87, ⟨by decide, by decide, by decide +kernel⟩, by decide, by decide, rfl⟩
abbrev M_X6_areNext : Mt := (yX6_areNext, cX6_areNext, 3, (some .boolean), [])
theorem K_X6_areNext : KM M_X6_areNext 2 := ⟨kw_1187, kw_87, ⟨by decide, by decide, by decide +kernel⟩, by decide, by decide, rfl⟩
abbrev M_X6_colourOf : Mt := (yX6_colourOf, cX6_colourOf, 2, (some .int), [])
theorem K_X6_colourOf : KM M_X6_colourOf 1 := ⟨kw_1209, kw_87, ⟨by decide, by decide, by decide +kernel⟩, by decide, by decide, rfl⟩
abbrev M_X6_isFree : Mt := (yX6_isFree, cX6_isFree, 2, (some .boolean), [])
theorem K_X6_isFree : KM M_X6_isFree 1 := ⟨kw_1201, kw_87, ⟨by decide, by decide, by decide +kernel⟩, by decide, by decide, rfl⟩
abbrev M_X6_bits : Mt := (yX6_bits, cX6_bits, 3, (some .int), [])
theorem K_X6_bits : KM M_X6_bits 1 := ⟨kw_1232, kw_87, ⟨by decide, by decide, by decide +kernel⟩, by decide, by decide, rfl⟩
abbrev M_X6_lowest : Mt := (yX6_lowest, cX6_lowest, 2, (some .int), [])
theorem K_X6_lowest : KM M_X6_lowest 1 := ⟨kw_1243, kw_87, ⟨by decide, by decide, by decide +kernel⟩, by decide, by decide, rfl⟩
abbrev M_X6_reached : Mt := (yX6_reached, cX6_reached, 6, (some .int), [])
theorem K_X6_reached : KM M_X6_reached 2 := ⟨kw_1221, kw_87, ⟨by decide, by decide, by decide +kernel⟩, by decide, by decide, rfl⟩
abbrev M_X6_banOf : Mt := (yX6_banOf, cX6_banOf, 2, (some .int), [])
theorem K_X6_banOf : KM M_X6_banOf 1 := ⟨kw_1225, kw_87, ⟨by decide, by decide, by decide +kernel⟩, by decide, by decide, rfl⟩
abbrev M_X6_turn : Mt := (yX6_turn, cX6_turn, 1, (some .int), [])
theorem K_X6_turn : KM M_X6_turn 0 := ⟨kw_1251, kw_87, ⟨by decide, by decide, by decide +kernel⟩, by decide, by decide, rfl⟩
abbrev M_X6_forgets : Mt := (yX6_forgets, cX6_forgets, 2, none, [])
theorem K_X6_forgets : KM M_X6_forgets 0 := ⟨kw_1327, kw_87, ⟨by decide, by decide, by decide +kernel⟩, by decide, by decide, rfl⟩
abbrev M_X6_moved : Mt := (yX6_moved, cX6_moved, 4, (some .int), [])
theorem K_X6_moved : KM M_X6_moved 2 := ⟨kw_1427, kw_87, ⟨by decide, by decide, by decide +kernel⟩, by decide, by decide, rfl⟩
abbrev M_X6_says : Mt := (yX6_says, cX6_says, 2, none, [])
theorem K_X6_says : KM M_X6_says 1 := ⟨kw_1443, kw_87, ⟨by decide, by decide, by decide +kernel⟩, by decide, by decide, rfl⟩
abbrev M_X0_init : Mt := (yX0_init, cX0_init, 2, none, [])
theorem K_X0_init : KM M_X0_init 0 := ⟨kw_120, kw_84, ⟨by decide, by decide, by decide +kernel⟩, by decide, by decide, rfl⟩
abbrev M_X0_isFull : Mt := (yX0_isFull, cX0_isFull, 3, (some .boolean), [])
theorem K_X0_isFull : KM M_X0_isFull 0 := ⟨kw_664, kw_84, ⟨by decide, by decide, by decide +kernel⟩, by decide, by decide, rfl⟩
abbrev M_X0_hasVertex : Mt := (yX0_hasVertex, cX0_hasVertex, 2, (some .boolean), [])
theorem K_X0_hasVertex : KM M_X0_hasVertex 1 := ⟨kw_810, kw_84, ⟨by decide, by decide, by decide +kernel⟩, by decide, by decide, rfl⟩
abbrev M_X0_everyVertex : Mt := (yX0_everyVertex, cX0_everyVertex, 1, (some .int), [])
theorem K_X0_everyVertex : KM M_X0_everyVertex 0 := ⟨kw_779, kw_84, ⟨by decide, by decide, by decide +kernel⟩, by decide, by decide, rfl⟩
abbrev M_X0_everyColour : Mt := (yX0_everyColour, cX0_everyColour, 1, (some .int), [])
theorem K_X0_everyColour : KM M_X0_everyColour 0 := ⟨kw_668, kw_84, ⟨by decide, by decide, by decide +kernel⟩, by decide, by decide, rfl⟩
abbrev M_X0_neighbours : Mt := (yX0_neighbours, cX0_neighbours, 2, (some .int), [])
theorem K_X0_neighbours : KM M_X0_neighbours 1 := ⟨kw_328, kw_84, ⟨by decide, by decide, by decide +kernel⟩, by decide, by decide, rfl⟩
abbrev M_X0_banOf : Mt := (yX0_banOf, cX0_banOf, 3, (some .int), [])
theorem K_X0_banOf : KM M_X0_banOf 1 := ⟨kw_297, kw_84, ⟨by decide, by decide, by decide +kernel⟩, by decide, by decide, rfl⟩
abbrev M_X0_turn : Mt := (yX0_turn, cX0_turn, 1, (some .int), [])
theorem K_X0_turn : KM M_X0_turn 0 := ⟨kw_447, kw_84, ⟨by decide, by decide, by decide +kernel⟩, by decide, by decide, rfl⟩
abbrev M_X0_passValue : Mt := (yX0_passValue, cX0_passValue, 1, (some .int), [])
theorem K_X0_passValue : KM M_X0_passValue 0 := ⟨kw_366, kw_84, ⟨by decide, by decide, by decide +kernel⟩, by decide, by decide, rfl⟩
abbrev M_X0_moveAt : Mt := (yX0_moveAt, cX0_moveAt, 4, (some (.object "ColourDuel$Move")), [])
theorem K_X0_moveAt : KM M_X0_moveAt 1 := ⟨kw_970, kw_84, ⟨by decide, by decide, by decide +kernel⟩, by decide, by decide, rfl⟩
abbrev M_X0_coloursLaidBy : Mt := (yX0_coloursLaidBy, cX0_coloursLaidBy, 5, (some .int), [])
theorem K_X0_coloursLaidBy : KM M_X0_coloursLaidBy 1 := ⟨kw_985, kw_84, ⟨by decide, by decide, by decide +kernel⟩, by decide, by decide, rfl⟩
abbrev M_X1_init : Mt := (yX1_init, cX1_init, 1, none, [])
theorem K_X1_init : KM M_X1_init 0 := ⟨kw_227, kw_86, ⟨by decide, by decide, by decide +kernel⟩, by decide, by decide, rfl⟩
abbrev M_X2_init : Mt := (yX2_init, cX2_init, 6, none, [])
theorem K_X2_init : KM M_X2_init 5 := ⟨kw_718, kw_99, ⟨by decide, by decide, by decide +kernel⟩, by decide, by decide, rfl⟩
abbrev M_X2_countsAs : Mt := (yX2_countsAs, cX2_countsAs, 2, (some .boolean), [])
theorem K_X2_countsAs : KM M_X2_countsAs 1 := ⟨kw_993, kw_99, ⟨by decide, by decide, by decide +kernel⟩, by decide, by decide, rfl⟩
abbrev M_X3_addFour : Mt := (yX3_addFour, cX3_addFour, 3, none, [])
theorem K_X3_addFour : KM M_X3_addFour 1 := ⟨kw_527, kw_85, ⟨by decide, by decide, by decide +kernel⟩, by decide, by decide, rfl⟩
abbrev M_X3_byteAt : Mt := (yX3_byteAt, cX3_byteAt, 3, (some .int), [])
theorem K_X3_byteAt : KM M_X3_byteAt 1 := ⟨kw_563, kw_85, ⟨by decide, by decide, by decide +kernel⟩, by decide, by decide, rfl⟩
abbrev M_X3_isLetter : Mt := (yX3_isLetter, cX3_isLetter, 1, (some .boolean), [])
theorem K_X3_isLetter : KM M_X3_isLetter 1 := ⟨kw_566, kw_85, ⟨by decide, by decide, by decide +kernel⟩, by decide, by decide, rfl⟩
abbrev M_X3_isDigit : Mt := (yX3_isDigit, cX3_isDigit, 1, (some .boolean), [])
theorem K_X3_isDigit : KM M_X3_isDigit 1 := ⟨kw_569, kw_85, ⟨by decide, by decide, by decide +kernel⟩, by decide, by decide, rfl⟩
abbrev M_X3_fail : Mt := (yX3_fail, cX3_fail, 2, (some .boolean), [])
theorem K_X3_fail : KM M_X3_fail 1 := ⟨kw_635, kw_85, ⟨by decide, by decide, by decide +kernel⟩, by decide, by decide, rfl⟩
abbrev M_X4_setShift : Mt := (yX4_setShift, cX4_setShift, 1, (some .int), [])
theorem K_X4_setShift : KM M_X4_setShift 1 := ⟨kw_307, kw_83, ⟨by decide, by decide, by decide +kernel⟩, by decide, by decide, rfl⟩
abbrev M_X5_append : Mt := (yX5_append, cX5_append, 6, (some .int), [])
theorem K_X5_append : KM M_X5_append 5 := ⟨kw_455, kw_82, ⟨by decide, by decide, by decide +kernel⟩, by decide, by decide, rfl⟩
abbrev M_X5_move : Mt := (yX5_move, cX5_move, 4, (some .int), [])
theorem K_X5_move : KM M_X5_move 2 := ⟨kw_966, kw_82, ⟨by decide, by decide, by decide +kernel⟩, by decide, by decide, rfl⟩
abbrev M_X5_least : Mt := (yX5_least, cX5_least, 1, (some .int), [])
theorem K_X5_least : KM M_X5_least 1 := ⟨kw_357, kw_82, ⟨by decide, by decide, by decide +kernel⟩, by decide, by decide, rfl⟩
abbrev M_X6_keeps : Mt := (yX6_keeps, cX6_keeps, 2, none, [])
theorem K_X6_keeps : KM M_X6_keeps 0 := ⟨kw_1263, kw_87, ⟨by decide, by decide, by decide +kernel⟩, by decide, by decide, rfl⟩
abbrev M_X6_undo : Mt := (yX6_undo, cX6_undo, 1, (some .int), [])
theorem K_X6_undo : KM M_X6_undo 0 := ⟨kw_1115, kw_87, ⟨by decide, by decide, by decide +kernel⟩, by decide, by decide, rfl⟩
abbrev M_X6_next : Mt := (yX6_next, cX6_next, 1, none, [])
theorem K_X6_next : KM M_X6_next 0 := ⟨kw_1133, kw_87, ⟨by decide, by decide, by decide +kernel⟩, by decide, by decide, rfl⟩
abbrev M_X6_freeSet : Mt := (yX6_freeSet, cX6_freeSet, 3, (some .int), [])
theorem K_X6_freeSet : KM M_X6_freeSet 0 := ⟨kw_1217, kw_87, ⟨by decide, by decide, by decide +kernel⟩, by decide, by decide, rfl⟩
abbrev M_X6_partsIn : Mt := (yX6_partsIn, cX6_partsIn, 4, (some .int), [])
theorem K_X6_partsIn : KM M_X6_partsIn 1 := ⟨kw_1240, kw_87, ⟨by decide, by decide, by decide +kernel⟩, by decide, by decide, rfl⟩
abbrev M_X6_around : Mt := (yX6_around, cX6_around, 4, (some .int), [])
theorem K_X6_around : KM M_X6_around 1 := ⟨kw_1205, kw_87, ⟨by decide, by decide, by decide +kernel⟩, by decide, by decide, rfl⟩
abbrev M_X6_edgesIn : Mt := (yX6_edgesIn, cX6_edgesIn, 4, (some .int), [])
theorem K_X6_edgesIn : KM M_X6_edgesIn 1 := ⟨kw_1275, kw_87, ⟨by decide, by decide, by decide +kernel⟩, by decide, by decide, rfl⟩
abbrev M_X6_isVertex : Mt := (yX6_isVertex, cX6_isVertex, 2, (some .boolean), [])
theorem K_X6_isVertex : KM M_X6_isVertex 1 := ⟨kw_1295, kw_87, ⟨by decide, by decide, by decide +kernel⟩, by decide, by decide, rfl⟩
abbrev M_X6_isColour : Mt := (yX6_isColour, cX6_isColour, 2, (some .boolean), [])
theorem K_X6_isColour : KM M_X6_isColour 1 := ⟨kw_1307, kw_87, ⟨by decide, by decide, by decide +kernel⟩, by decide, by decide, rfl⟩
abbrev M_X6_placeOf : Mt := (yX6_placeOf, cX6_placeOf, 7, (some .int), [])
theorem K_X6_placeOf : KM M_X6_placeOf 2 := ⟨kw_1335, kw_87, ⟨by decide, by decide, by decide +kernel⟩, by decide, by decide, rfl⟩
abbrev M_X6_move : Mt := (yX6_move, cX6_move, 3, (some .int), [])
theorem K_X6_move : KM M_X6_move 2 := ⟨kw_1423, kw_87, ⟨by decide, by decide, by decide +kernel⟩, by decide, by decide, rfl⟩
abbrev M_X6_counts : Mt := (yX6_counts, cX6_counts, 4, (some .boolean), [])
theorem K_X6_counts : KM M_X6_counts 2 := ⟨kw_1435, kw_87, ⟨by decide, by decide, by decide +kernel⟩, by decide, by decide, rfl⟩
abbrev M_X6_writeBoard : Mt := (yX6_writeBoard, cX6_writeBoard, 2, (some .int), [])
theorem K_X6_writeBoard : KM M_X6_writeBoard 0 := ⟨kw_1439, kw_87, ⟨by decide, by decide, by decide +kernel⟩, by decide, by decide, rfl⟩
abbrev M_X6_writtenByte : Mt := (yX6_writtenByte, cX6_writtenByte, 2, (some .int), [])
theorem K_X6_writtenByte : KM M_X6_writtenByte 1 := ⟨kw_1447, kw_87, ⟨by decide, by decide, by decide +kernel⟩, by decide, by decide, rfl⟩
abbrev M_X6_save : Mt := (yX6_save, cX6_save, 2, (some .int), [])
theorem K_X6_save : KM M_X6_save 1 := ⟨kw_1451, kw_87, ⟨by decide, by decide, by decide +kernel⟩, by decide, by decide, rfl⟩
abbrev M_X0_takeFrom : Mt := (yX0_takeFrom, cX0_takeFrom, 2, none, [])
theorem K_X0_takeFrom : KM M_X0_takeFrom 1 := ⟨kw_764, kw_84, ⟨by decide, by decide, by decide +kernel⟩, by decide, by decide, rfl⟩
abbrev M_X0_startEmpty : Mt := (yX0_startEmpty, cX0_startEmpty, 2, none, [])
theorem K_X0_startEmpty : KM M_X0_startEmpty 1 := ⟨kw_643, kw_84, ⟨by decide, by decide, by decide +kernel⟩, by decide, by decide, rfl⟩
abbrev M_X0_addVertex : Mt := (yX0_addVertex, cX0_addVertex, 4, none, [])
theorem K_X0_addVertex : KM M_X0_addVertex 1 := ⟨kw_677, kw_84, ⟨by decide, by decide, by decide +kernel⟩, by decide, by decide, rfl⟩
abbrev M_X0_addEdge : Mt := (yX0_addEdge, cX0_addEdge, 3, none, [])
theorem K_X0_addEdge : KM M_X0_addEdge 2 := ⟨kw_691, kw_84, ⟨by decide, by decide, by decide +kernel⟩, by decide, by decide, rfl⟩
abbrev M_X0_hasPair : Mt := (yX0_hasPair, cX0_hasPair, 3, (some .boolean), [])
theorem K_X0_hasPair : KM M_X0_hasPair 2 := ⟨kw_848, kw_84, ⟨by decide, by decide, by decide +kernel⟩, by decide, by decide, rfl⟩
abbrev M_X0_edgesIn : Mt := (yX0_edgesIn, cX0_edgesIn, 4, (some .int), [])
theorem K_X0_edgesIn : KM M_X0_edgesIn 1 := ⟨kw_783, kw_84, ⟨by decide, by decide, by decide +kernel⟩, by decide, by decide, rfl⟩
abbrev M_X0_coloursAt : Mt := (yX0_coloursAt, cX0_coloursAt, 5, (some .int), [])
theorem K_X0_coloursAt : KM M_X0_coloursAt 2 := ⟨kw_438, kw_84, ⟨by decide, by decide, by decide +kernel⟩, by decide, by decide, rfl⟩
abbrev M_X0_isFree : Mt := (yX0_isFree, cX0_isFree, 2, (some .boolean), [])
theorem K_X0_isFree : KM M_X0_isFree 1 := ⟨kw_390, kw_84, ⟨by decide, by decide, by decide +kernel⟩, by decide, by decide, rfl⟩
abbrev M_X0_reachable : Mt := (yX0_reachable, cX0_reachable, 10, (some .int), [])
theorem K_X0_reachable : KM M_X0_reachable 2 := ⟨kw_283, kw_84, ⟨by decide, by decide, by decide +kernel⟩, by decide, by decide, rfl⟩
abbrev M_X0_openTo : Mt := (yX0_openTo, cX0_openTo, 4, (some .int), [])
theorem K_X0_openTo : KM M_X0_openTo 1 := ⟨kw_301, kw_84, ⟨by decide, by decide, by decide +kernel⟩, by decide, by decide, rfl⟩
abbrev M_X0_movesBy : Mt := (yX0_movesBy, cX0_movesBy, 6, (some .int), [])
theorem K_X0_movesBy : KM M_X0_movesBy 2 := ⟨kw_989, kw_84, ⟨by decide, by decide, by decide +kernel⟩, by decide, by decide, rfl⟩
abbrev M_X3_init : Mt := (yX3_init, cX3_init, 1, none, [])
theorem K_X3_init : KM M_X3_init 0 := ⟨kw_184, kw_85, ⟨by decide, by decide, by decide +kernel⟩, by decide, by decide, rfl⟩
abbrev M_X3_readEnd : Mt := (yX3_readEnd, cX3_readEnd, 1, (some .boolean), [])
theorem K_X3_readEnd : KM M_X3_readEnd 0 := ⟨kw_752, kw_85, ⟨by decide, by decide, by decide +kernel⟩, by decide, by decide, rfl⟩
abbrev M_X3_listHere : Mt := (yX3_listHere, cX3_listHere, 4, (some .int), [])
theorem K_X3_listHere : KM M_X3_listHere 0 := ⟨kw_672, kw_85, ⟨by decide, by decide, by decide +kernel⟩, by decide, by decide, rfl⟩
abbrev M_X3_advance : Mt := (yX3_advance, cX3_advance, 2, none, [])
theorem K_X3_advance : KM M_X3_advance 0 := ⟨kw_559, kw_85, ⟨by decide, by decide, by decide +kernel⟩, by decide, by decide, rfl⟩
abbrev M_X4_init : Mt := (yX4_init, cX4_init, 1, none, [])
theorem K_X4_init : KM M_X4_init 0 := ⟨kw_114, kw_83, ⟨by decide, by decide, by decide +kernel⟩, by decide, by decide, rfl⟩
abbrev M_X4_behind : Mt := (yX4_behind, cX4_behind, 7, (some .long), [])
theorem K_X4_behind : KM M_X4_behind 3 := ⟨kw_324, kw_83, ⟨by decide, by decide, by decide +kernel⟩, by decide, by decide, rfl⟩
abbrev M_X5_init : Mt := (yX5_init, cX5_init, 1, none, [])
theorem K_X5_init : KM M_X5_init 0 := ⟨kw_106, kw_82, ⟨by decide, by decide, by decide +kernel⟩, by decide, by decide, rfl⟩
abbrev M_X5_account : Mt := (yX5_account, cX5_account, 3, (some .int), [])
theorem K_X5_account : KM M_X5_account 2 := ⟨kw_979, kw_82, ⟨by decide, by decide, by decide +kernel⟩, by decide, by decide, rfl⟩
abbrev M_X5_keepCopy : Mt := (yX5_keepCopy, cX5_keepCopy, 4, none, [])
theorem K_X5_keepCopy : KM M_X5_keepCopy 3 := ⟨kw_759, kw_82, ⟨by decide, by decide, by decide +kernel⟩, by decide, by decide, rfl⟩
abbrev M_X6_must : Mt := (yX6_must, cX6_must, 2, none, [])
theorem K_X6_must : KM M_X6_must 1 := ⟨kw_1152, kw_87, ⟨by decide, by decide, by decide +kernel⟩, by decide, by decide, rfl⟩
abbrev M_X6_takes : Mt := (yX6_takes, cX6_takes, 4, (some .int), [])
theorem K_X6_takes : KM M_X6_takes 2 := ⟨kw_1160, kw_87, ⟨by decide, by decide, by decide +kernel⟩, by decide, by decide, rfl⟩
abbrev M_X6_partSet : Mt := (yX6_partSet, cX6_partSet, 5, (some .int), [])
theorem K_X6_partSet : KM M_X6_partSet 1 := ⟨kw_1315, kw_87, ⟨by decide, by decide, by decide +kernel⟩, by decide, by decide, rfl⟩
abbrev M_X6_partOf : Mt := (yX6_partOf, cX6_partOf, 5, (some .int), [])
theorem K_X6_partOf : KM M_X6_partOf 1 := ⟨kw_1299, kw_87, ⟨by decide, by decide, by decide +kernel⟩, by decide, by decide, rfl⟩
abbrev M_X6_canLay : Mt := (yX6_canLay, cX6_canLay, 5, (some .int), [])
theorem K_X6_canLay : KM M_X6_canLay 3 := ⟨kw_1229, kw_87, ⟨by decide, by decide, by decide +kernel⟩, by decide, by decide, rfl⟩
abbrev M_X6_falls : Mt := (yX6_falls, cX6_falls, 2, (some .int), [])
theorem K_X6_falls : KM M_X6_falls 1 := ⟨kw_1399, kw_87, ⟨by decide, by decide, by decide +kernel⟩, by decide, by decide, rfl⟩
abbrev M_X6_notes : Mt := (yX6_notes, cX6_notes, 5, none, [])
theorem K_X6_notes : KM M_X6_notes 3 := ⟨kw_1247, kw_87, ⟨by decide, by decide, by decide +kernel⟩, by decide, by decide, rfl⟩
abbrev M_X6_setPasses : Mt := (yX6_setPasses, cX6_setPasses, 3, (some .int), [])
theorem K_X6_setPasses : KM M_X6_setPasses 1 := ⟨kw_1419, kw_87, ⟨by decide, by decide, by decide +kernel⟩, by decide, by decide, rfl⟩
abbrev M_X6_account : Mt := (yX6_account, cX6_account, 6, (some .int), [])
theorem K_X6_account : KM M_X6_account 2 := ⟨kw_1431, kw_87, ⟨by decide, by decide, by decide +kernel⟩, by decide, by decide, rfl⟩
abbrev M_X6_restore : Mt := (yX6_restore, cX6_restore, 2, (some .int), [])
theorem K_X6_restore : KM M_X6_restore 1 := ⟨kw_1455, kw_87, ⟨by decide, by decide, by decide +kernel⟩, by decide, by decide, rfl⟩
abbrev M_X0_listOf : Mt := (yX0_listOf, cX0_listOf, 2, (some .int), [])
theorem K_X0_listOf : KM M_X0_listOf 1 := ⟨kw_830, kw_84, ⟨by decide, by decide, by decide +kernel⟩, by decide, by decide, rfl⟩
abbrev M_X0_partWith : Mt := (yX0_partWith, cX0_partWith, 2, (some .int), [])
theorem K_X0_partWith : KM M_X0_partWith 1 := ⟨kw_401, kw_84, ⟨by decide, by decide, by decide +kernel⟩, by decide, by decide, rfl⟩
abbrev M_X0_partsIn : Mt := (yX0_partsIn, cX0_partsIn, 4, (some .int), [])
theorem K_X0_partsIn : KM M_X0_partsIn 1 := ⟨kw_421, kw_84, ⟨by decide, by decide, by decide +kernel⟩, by decide, by decide, rfl⟩
abbrev M_X0_partAt : Mt := (yX0_partAt, cX0_partAt, 4, (some .int), [])
theorem K_X0_partAt : KM M_X0_partAt 1 := ⟨kw_425, kw_84, ⟨by decide, by decide, by decide +kernel⟩, by decide, by decide, rfl⟩
abbrev M_X0_colourOf : Mt := (yX0_colourOf, cX0_colourOf, 3, (some .int), [])
theorem K_X0_colourOf : KM M_X0_colourOf 1 := ⟨kw_434, kw_84, ⟨by decide, by decide, by decide +kernel⟩, by decide, by decide, rfl⟩
abbrev M_X0_whyNot : Mt := (yX0_whyNot, cX0_whyNot, 4, (some .int), [])
theorem K_X0_whyNot : KM M_X0_whyNot 2 := ⟨kw_386, kw_84, ⟨by decide, by decide, by decide +kernel⟩, by decide, by decide, rfl⟩
abbrev M_X1_bringBack : Mt := (yX1_bringBack, cX1_bringBack, 4, none, [])
theorem K_X1_bringBack : KM M_X1_bringBack 1 := ⟨kw_1013, kw_86, ⟨by decide, by decide, by decide +kernel⟩, by decide, by decide, rfl⟩
abbrev M_X3_readNumber : Mt := (yX3_readNumber, cX3_readNumber, 4, (some .int), [])
theorem K_X3_readNumber : KM M_X3_readNumber 2 := ⟨kw_639, kw_85, ⟨by decide, by decide, by decide +kernel⟩, by decide, by decide, rfl⟩
abbrev M_X3_readSemicolon : Mt := (yX3_readSemicolon, cX3_readSemicolon, 1, (some .boolean), [])
theorem K_X3_readSemicolon : KM M_X3_readSemicolon 0 := ⟨kw_651, kw_85, ⟨by decide, by decide, by decide +kernel⟩, by decide, by decide, rfl⟩
abbrev M_X4_placeOf : Mt := (yX4_placeOf, cX4_placeOf, 5, (some .long), [])
theorem K_X4_placeOf : KM M_X4_placeOf 1 := ⟨kw_293, kw_83, ⟨by decide, by decide, by decide +kernel⟩, by decide, by decide, rfl⟩
abbrev M_X4_ofPieces : Mt := (yX4_ofPieces, cX4_ofPieces, 10, (some .int), [])
theorem K_X4_ofPieces : KM M_X4_ofPieces 2 := ⟨kw_335, kw_83, ⟨by decide, by decide, by decide +kernel⟩, by decide, by decide, rfl⟩
abbrev M_X4_workOut : Mt := (yX4_workOut, cX4_workOut, 14, (some .int), [])
theorem K_X4_workOut : KM M_X4_workOut 2 := ⟨kw_316, kw_83, ⟨by decide, by decide, by decide +kernel⟩, by decide, by decide, rfl⟩
abbrev M_X4_ofPlace : Mt := (yX4_ofPlace, cX4_ofPlace, 6, (some .int), [])
theorem K_X4_ofPlace : KM M_X4_ofPlace 2 := ⟨kw_311, kw_83, ⟨by decide, by decide, by decide +kernel⟩, by decide, by decide, rfl⟩
abbrev M_X5_reason : Mt := (yX5_reason, cX5_reason, 3, (some .int), [])
theorem K_X5_reason : KM M_X5_reason 2 := ⟨kw_844, kw_82, ⟨by decide, by decide, by decide +kernel⟩, by decide, by decide, rfl⟩
abbrev M_X5_falls : Mt := (yX5_falls, cX5_falls, 2, (some .int), [])
theorem K_X5_falls : KM M_X5_falls 1 := ⟨kw_913, kw_82, ⟨by decide, by decide, by decide +kernel⟩, by decide, by decide, rfl⟩
abbrev M_X5_writeBoard : Mt := (yX5_writeBoard, cX5_writeBoard, 2, (some .int), [])
theorem K_X5_writeBoard : KM M_X5_writeBoard 0 := ⟨kw_429, kw_82, ⟨by decide, by decide, by decide +kernel⟩, by decide, by decide, rfl⟩
abbrev M_X5_undo : Mt := (yX5_undo, cX5_undo, 1, (some .int), [])
theorem K_X5_undo : KM M_X5_undo 0 := ⟨kw_1008, kw_82, ⟨by decide, by decide, by decide +kernel⟩, by decide, by decide, rfl⟩
abbrev M_X5_save : Mt := (yX5_save, cX5_save, 2, (some .int), [])
theorem K_X5_save : KM M_X5_save 1 := ⟨kw_1021, kw_82, ⟨by decide, by decide, by decide +kernel⟩, by decide, by decide, rfl⟩
abbrev M_X6_mustEnd : Mt := (yX6_mustEnd, cX6_mustEnd, 1, none, [])
theorem K_X6_mustEnd : KM M_X6_mustEnd 0 := ⟨kw_1165, kw_87, ⟨by decide, by decide, by decide +kernel⟩, by decide, by decide, rfl⟩
abbrev M_X6_colours : Mt := (yX6_colours, cX6_colours, 2, (some .int), [])
theorem K_X6_colours : KM M_X6_colours 1 := ⟨kw_1213, kw_87, ⟨by decide, by decide, by decide +kernel⟩, by decide, by decide, rfl⟩
abbrev M_X6_lays : Mt := (yX6_lays, cX6_lays, 5, none, [])
theorem K_X6_lays : KM M_X6_lays 2 := ⟨kw_1236, kw_87, ⟨by decide, by decide, by decide +kernel⟩, by decide, by decide, rfl⟩
abbrev M_X6_passes : Mt := (yX6_passes, cX6_passes, 1, none, [])
theorem K_X6_passes : KM M_X6_passes 0 := ⟨kw_1259, kw_87, ⟨by decide, by decide, by decide +kernel⟩, by decide, by decide, rfl⟩
abbrev M_X0_partNumberOf : Mt := (yX0_partNumberOf, cX0_partNumberOf, 3, (some .int), [])
theorem K_X0_partNumberOf : KM M_X0_partNumberOf 1 := ⟨kw_835, kw_84, ⟨by decide, by decide, by decide +kernel⟩, by decide, by decide, rfl⟩
abbrev M_X0_choicesOn : Mt := (yX0_choicesOn, cX0_choicesOn, 4, (some .int), [])
theorem K_X0_choicesOn : KM M_X0_choicesOn 1 := ⟨kw_382, kw_84, ⟨by decide, by decide, by decide +kernel⟩, by decide, by decide, rfl⟩
abbrev M_X0_paint : Mt := (yX0_paint, cX0_paint, 5, none, [])
theorem K_X0_paint : KM M_X0_paint 2 := ⟨kw_711, kw_84, ⟨by decide, by decide, by decide +kernel⟩, by decide, by decide, rfl⟩
abbrev M_X0_spendPass : Mt := (yX0_spendPass, cX0_spendPass, 1, none, [])
theorem K_X0_spendPass : KM M_X0_spendPass 0 := ⟨kw_748, kw_84, ⟨by decide, by decide, by decide +kernel⟩, by decide, by decide, rfl⟩
abbrev M_X1_keep : Mt := (yX1_keep, cX1_keep, 2, none, [])
theorem K_X1_keep : KM M_X1_keep 1 := ⟨kw_756, kw_86, ⟨by decide, by decide, by decide +kernel⟩, by decide, by decide, rfl⟩
abbrev M_X6_together : Mt := (yX6_together, cX6_together, 9, (some .int), [])
theorem K_X6_together : KM M_X6_together 2 := ⟨kw_1339, kw_87, ⟨by decide, by decide, by decide +kernel⟩, by decide, by decide, rfl⟩
abbrev M_X6_knownOf : Mt := (yX6_knownOf, cX6_knownOf, 13, (some .int), [])
theorem K_X6_knownOf : KM M_X6_knownOf 2 := ⟨kw_1331, kw_87, ⟨by decide, by decide, by decide +kernel⟩, by decide, by decide, rfl⟩
abbrev M_X5_vertex : Mt := (yX5_vertex, cX5_vertex, 3, (some .int), [])
theorem K_X5_vertex : KM M_X5_vertex 2 := ⟨kw_806, kw_82, ⟨by decide, by decide, by decide +kernel⟩, by decide, by decide, rfl⟩
abbrev M_X5_lay : Mt := (yX5_lay, cX5_lay, 3, (some .int), [])
theorem K_X5_lay : KM M_X5_lay 2 := ⟨kw_933, kw_82, ⟨by decide, by decide, by decide +kernel⟩, by decide, by decide, rfl⟩
abbrev M_X5_pass : Mt := (yX5_pass, cX5_pass, 1, (some .int), [])
theorem K_X5_pass : KM M_X5_pass 0 := ⟨kw_941, kw_82, ⟨by decide, by decide, by decide +kernel⟩, by decide, by decide, rfl⟩
abbrev M_X5_setPasses : Mt := (yX5_setPasses, cX5_setPasses, 3, (some .int), [])
theorem K_X5_setPasses : KM M_X5_setPasses 1 := ⟨kw_958, kw_82, ⟨by decide, by decide, by decide +kernel⟩, by decide, by decide, rfl⟩
abbrev M_X5_restore : Mt := (yX5_restore, cX5_restore, 3, (some .int), [])
theorem K_X5_restore : KM M_X5_restore 1 := ⟨kw_1030, kw_82, ⟨by decide, by decide, by decide +kernel⟩, by decide, by decide, rfl⟩
abbrev M_X6_readsVertex : Mt := (yX6_readsVertex, cX6_readsVertex, 2, none, [])
theorem K_X6_readsVertex : KM M_X6_readsVertex 0 := ⟨kw_1170, kw_87, ⟨by decide, by decide, by decide +kernel⟩, by decide, by decide, rfl⟩
abbrev M_X6_readsEdge : Mt := (yX6_readsEdge, cX6_readsEdge, 3, none, [])
theorem K_X6_readsEdge : KM M_X6_readsEdge 0 := ⟨kw_1183, kw_87, ⟨by decide, by decide, by decide +kernel⟩, by decide, by decide, rfl⟩
abbrev M_X6_readsPass : Mt := (yX6_readsPass, cX6_readsPass, 1, none, [])
theorem K_X6_readsPass : KM M_X6_readsPass 0 := ⟨kw_1255, kw_87, ⟨by decide, by decide, by decide +kernel⟩, by decide, by decide, rfl⟩
abbrev M_X6_whyNot : Mt := (yX6_whyNot, cX6_whyNot, 3, (some .int), [])
theorem K_X6_whyNot : KM M_X6_whyNot 2 := ⟨kw_1197, kw_87, ⟨by decide, by decide, by decide +kernel⟩, by decide, by decide, rfl⟩
abbrev M_X6_pairs : Mt := (yX6_pairs, cX6_pairs, 3, (some .int), [])
theorem K_X6_pairs : KM M_X6_pairs 0 := ⟨kw_1283, kw_87, ⟨by decide, by decide, by decide +kernel⟩, by decide, by decide, rfl⟩
abbrev M_X6_stuck : Mt := (yX6_stuck, cX6_stuck, 3, (some .int), [])
theorem K_X6_stuck : KM M_X6_stuck 0 := ⟨kw_1287, kw_87, ⟨by decide, by decide, by decide +kernel⟩, by decide, by decide, rfl⟩
abbrev M_X6_vertex : Mt := (yX6_vertex, cX6_vertex, 3, (some .int), [])
theorem K_X6_vertex : KM M_X6_vertex 2 := ⟨kw_1291, kw_87, ⟨by decide, by decide, by decide +kernel⟩, by decide, by decide, rfl⟩
abbrev M_X6_pairsIn : Mt := (yX6_pairsIn, cX6_pairsIn, 4, (some .int), [])
theorem K_X6_pairsIn : KM M_X6_pairsIn 1 := ⟨kw_1319, kw_87, ⟨by decide, by decide, by decide +kernel⟩, by decide, by decide, rfl⟩
abbrev M_X6_pass : Mt := (yX6_pass, cX6_pass, 1, (some .int), [])
theorem K_X6_pass : KM M_X6_pass 0 := ⟨kw_1411, kw_87, ⟨by decide, by decide, by decide +kernel⟩, by decide, by decide, rfl⟩
abbrev M_X0_choicesIn : Mt := (yX0_choicesIn, cX0_choicesIn, 4, (some .int), [])
theorem K_X0_choicesIn : KM M_X0_choicesIn 1 := ⟨kw_791, kw_84, ⟨by decide, by decide, by decide +kernel⟩, by decide, by decide, rfl⟩
abbrev M_X0_stuckVertices : Mt := (yX0_stuckVertices, cX0_stuckVertices, 3, (some .int), [])
theorem K_X0_stuckVertices : KM M_X0_stuckVertices 0 := ⟨kw_797, kw_84, ⟨by decide, by decide, by decide +kernel⟩, by decide, by decide, rfl⟩
abbrev M_X6_readsLay : Mt := (yX6_readsLay, cX6_readsLay, 4, none, [])
theorem K_X6_readsLay : KM M_X6_readsLay 0 := ⟨kw_1193, kw_87, ⟨by decide, by decide, by decide +kernel⟩, by decide, by decide, rfl⟩
abbrev M_X6_isOver : Mt := (yX6_isOver, cX6_isOver, 1, (some .boolean), [])
theorem K_X6_isOver : KM M_X6_isOver 0 := ⟨kw_1279, kw_87, ⟨by decide, by decide, by decide +kernel⟩, by decide, by decide, rfl⟩
abbrev M_X6_reason : Mt := (yX6_reason, cX6_reason, 3, (some .int), [])
theorem K_X6_reason : KM M_X6_reason 2 := ⟨kw_1303, kw_87, ⟨by decide, by decide, by decide +kernel⟩, by decide, by decide, rfl⟩
abbrev M_X6_lay : Mt := (yX6_lay, cX6_lay, 3, (some .int), [])
theorem K_X6_lay : KM M_X6_lay 2 := ⟨kw_1407, kw_87, ⟨by decide, by decide, by decide +kernel⟩, by decide, by decide, rfl⟩
abbrev M_X0_isOver : Mt := (yX0_isOver, cX0_isOver, 1, (some .boolean), [])
theorem K_X0_isOver : KM M_X0_isOver 0 := ⟨kw_787, kw_84, ⟨by decide, by decide, by decide +kernel⟩, by decide, by decide, rfl⟩
abbrev M_X5_count : Mt := (yX5_count, cX5_count, 2, (some .int), [])
theorem K_X5_count : KM M_X5_count 1 := ⟨kw_775, kw_82, ⟨by decide, by decide, by decide +kernel⟩, by decide, by decide, rfl⟩
abbrev M_X6_count : Mt := (yX6_count, cX6_count, 2, (some .int), [])
theorem K_X6_count : KM M_X6_count 1 := ⟨kw_1271, kw_87, ⟨by decide, by decide, by decide +kernel⟩, by decide, by decide, rfl⟩
abbrev M_X6_isWord : Mt := (yX6_isWord, cX6_isWord, 3, (some .boolean), [])
theorem K_X6_isWord : KM M_X6_isWord 1 := ⟨kw_1146, kw_87, ⟨by decide, by decide, by decide +kernel⟩, by decide, by decide, rfl⟩
abbrev M_X3_atWord : Mt := (yX3_atWord, cX3_atWord, 3, (some .boolean), [])
theorem K_X3_atWord : KM M_X3_atWord 1 := ⟨kw_583, kw_85, ⟨by decide, by decide, by decide +kernel⟩, by decide, by decide, rfl⟩
abbrev M_X6_reads : Mt := (yX6_reads, cX6_reads, 1, none, [])
theorem K_X6_reads : KM M_X6_reads 0 := ⟨kw_1141, kw_87, ⟨by decide, by decide, by decide +kernel⟩, by decide, by decide, rfl⟩
abbrev M_X3_readWord : Mt := (yX3_readWord, cX3_readWord, 2, (some .boolean), [])
theorem K_X3_readWord : KM M_X3_readWord 1 := ⟨kw_579, kw_85, ⟨by decide, by decide, by decide +kernel⟩, by decide, by decide, rfl⟩
abbrev M_X6_load : Mt := (yX6_load, cX6_load, 3, (some .int), [])
theorem K_X6_load : KM M_X6_load 1 := ⟨kw_1126, kw_87, ⟨by decide, by decide, by decide +kernel⟩, by decide, by decide, rfl⟩
abbrev M_X3_readHead : Mt := (yX3_readHead, cX3_readHead, 3, (some .boolean), [])
theorem K_X3_readHead : KM M_X3_readHead 0 := ⟨kw_574, kw_85, ⟨by decide, by decide, by decide +kernel⟩, by decide, by decide, rfl⟩
abbrev M_X3_readVertex : Mt := (yX3_readVertex, cX3_readVertex, 2, (some .boolean), [])
theorem K_X3_readVertex : KM M_X3_readVertex 0 := ⟨kw_659, kw_85, ⟨by decide, by decide, by decide +kernel⟩, by decide, by decide, rfl⟩
abbrev M_X3_readEdge : Mt := (yX3_readEdge, cX3_readEdge, 3, (some .boolean), [])
theorem K_X3_readEdge : KM M_X3_readEdge 0 := ⟨kw_686, kw_85, ⟨by decide, by decide, by decide +kernel⟩, by decide, by decide, rfl⟩
abbrev M_X3_readLay : Mt := (yX3_readLay, cX3_readLay, 4, (some .boolean), [])
theorem K_X3_readLay : KM M_X3_readLay 0 := ⟨kw_704, kw_85, ⟨by decide, by decide, by decide +kernel⟩, by decide, by decide, rfl⟩
abbrev M_X3_readPass : Mt := (yX3_readPass, cX3_readPass, 1, (some .boolean), [])
theorem K_X3_readPass : KM M_X3_readPass 0 := ⟨kw_744, kw_85, ⟨by decide, by decide, by decide +kernel⟩, by decide, by decide, rfl⟩
abbrev M_X3_readVertices : Mt := (yX3_readVertices, cX3_readVertices, 3, (some .boolean), [])
theorem K_X3_readVertices : KM M_X3_readVertices 0 := ⟨kw_655, kw_85, ⟨by decide, by decide, by decide +kernel⟩, by decide, by decide, rfl⟩
abbrev M_X3_readEdges : Mt := (yX3_readEdges, cX3_readEdges, 3, (some .boolean), [])
theorem K_X3_readEdges : KM M_X3_readEdges 0 := ⟨kw_681, kw_85, ⟨by decide, by decide, by decide +kernel⟩, by decide, by decide, rfl⟩
abbrev M_X3_readMoves : Mt := (yX3_readMoves, cX3_readMoves, 3, (some .boolean), [])
theorem K_X3_readMoves : KM M_X3_readMoves 0 := ⟨kw_698, kw_85, ⟨by decide, by decide, by decide +kernel⟩, by decide, by decide, rfl⟩
abbrev M_X3_readText : Mt := (yX3_readText, cX3_readText, 3, (some .int), [])
theorem K_X3_readText : KM M_X3_readText 1 := ⟨kw_555, kw_85, ⟨by decide, by decide, by decide +kernel⟩, by decide, by decide, rfl⟩
abbrev M_X5_load : Mt := (yX5_load, cX5_load, 3, (some .int), [])
theorem K_X5_load : KM M_X5_load 1 := ⟨kw_535, kw_82, ⟨by decide, by decide, by decide +kernel⟩, by decide, by decide, rfl⟩
abbrev M_X6_board : Mt := (yX6_board, cX6_board, 8, (some .int), [])
theorem K_X6_board : KM M_X6_board 0 := ⟨kw_1351, kw_87, ⟨by decide, by decide, by decide +kernel⟩, by decide, by decide, rfl⟩
abbrev M_X6_ofPart : Mt := (yX6_ofPart, cX6_ofPart, 5, (some .int), [])
theorem K_X6_ofPart : KM M_X6_ofPart 3 := ⟨kw_1323, kw_87, ⟨by decide, by decide, by decide +kernel⟩, by decide, by decide, rfl⟩
abbrev M_X6_meanValue : Mt := (yX6_meanValue, cX6_meanValue, 4, (some .float), [])
theorem K_X6_meanValue : KM M_X6_meanValue 0 := ⟨kw_1395, kw_87, ⟨by decide, by decide, by decide +kernel⟩, by decide, by decide, rfl⟩
abbrev M_X6_valueNow : Mt := (yX6_valueNow, cX6_valueNow, 1, (some .int), [])
theorem K_X6_valueNow : KM M_X6_valueNow 0 := ⟨kw_1347, kw_87, ⟨by decide, by decide, by decide +kernel⟩, by decide, by decide, rfl⟩
abbrev M_X6_boardIf : Mt := (yX6_boardIf, cX6_boardIf, 6, (some .int), [])
theorem K_X6_boardIf : KM M_X6_boardIf 2 := ⟨kw_1359, kw_87, ⟨by decide, by decide, by decide +kernel⟩, by decide, by decide, rfl⟩
abbrev M_X6_passWins : Mt := (yX6_passWins, cX6_passWins, 1, (some .boolean), [])
theorem K_X6_passWins : KM M_X6_passWins 0 := ⟨kw_1367, kw_87, ⟨by decide, by decide, by decide +kernel⟩, by decide, by decide, rfl⟩
abbrev M_X6_part : Mt := (yX6_part, cX6_part, 5, (some .int), [])
theorem K_X6_part : KM M_X6_part 2 := ⟨kw_1311, kw_87, ⟨by decide, by decide, by decide +kernel⟩, by decide, by decide, rfl⟩
abbrev M_X6_longest : Mt := (yX6_longest, cX6_longest, 1, (some .int), [])
theorem K_X6_longest : KM M_X6_longest 0 := ⟨kw_1387, kw_87, ⟨by decide, by decide, by decide +kernel⟩, by decide, by decide, rfl⟩
abbrev M_X6_shortest : Mt := (yX6_shortest, cX6_shortest, 1, (some .int), [])
theorem K_X6_shortest : KM M_X6_shortest 0 := ⟨kw_1391, kw_87, ⟨by decide, by decide, by decide +kernel⟩, by decide, by decide, rfl⟩
abbrev M_X6_winningOn : Mt := (yX6_winningOn, cX6_winningOn, 5, (some .int), [])
theorem K_X6_winningOn : KM M_X6_winningOn 1 := ⟨kw_1371, kw_87, ⟨by decide, by decide, by decide +kernel⟩, by decide, by decide, rfl⟩
abbrev M_X6_value : Mt := (yX6_value, cX6_value, 1, (some .int), [])
theorem K_X6_value : KM M_X6_value 0 := ⟨kw_1343, kw_87, ⟨by decide, by decide, by decide +kernel⟩, by decide, by decide, rfl⟩
abbrev M_X6_valueIf : Mt := (yX6_valueIf, cX6_valueIf, 3, (some .int), [])
theorem K_X6_valueIf : KM M_X6_valueIf 2 := ⟨kw_1355, kw_87, ⟨by decide, by decide, by decide +kernel⟩, by decide, by decide, rfl⟩
abbrev M_X6_valueWithout : Mt := (yX6_valueWithout, cX6_valueWithout, 7, (some .int), [])
theorem K_X6_valueWithout : KM M_X6_valueWithout 1 := ⟨kw_1403, kw_87, ⟨by decide, by decide, by decide +kernel⟩, by decide, by decide, rfl⟩
abbrev M_X6_winningMoves : Mt := (yX6_winningMoves, cX6_winningMoves, 3, (some .int), [])
theorem K_X6_winningMoves : KM M_X6_winningMoves 0 := ⟨kw_1363, kw_87, ⟨by decide, by decide, by decide +kernel⟩, by decide, by decide, rfl⟩
abbrev M_X6_winningColours : Mt := (yX6_winningColours, cX6_winningColours, 2, (some .int), [])
theorem K_X6_winningColours : KM M_X6_winningColours 1 := ⟨kw_1375, kw_87, ⟨by decide, by decide, by decide +kernel⟩, by decide, by decide, rfl⟩
abbrev M_X6_best : Mt := (yX6_best, cX6_best, 7, (some .int), [])
theorem K_X6_best : KM M_X6_best 0 := ⟨kw_1383, kw_87, ⟨by decide, by decide, by decide +kernel⟩, by decide, by decide, rfl⟩
abbrev M_X6_bestMove : Mt := (yX6_bestMove, cX6_bestMove, 1, (some .int), [])
theorem K_X6_bestMove : KM M_X6_bestMove 0 := ⟨kw_1379, kw_87, ⟨by decide, by decide, by decide +kernel⟩, by decide, by decide, rfl⟩
abbrev M_X6_playOut : Mt := (yX6_playOut, cX6_playOut, 4, (some .int), [])
theorem K_X6_playOut : KM M_X6_playOut 1 := ⟨kw_1415, kw_87, ⟨by decide, by decide, by decide +kernel⟩, by decide, by decide, rfl⟩
abbrev M_X4_ofPartsIn : Mt := (yX4_ofPartsIn, cX4_ofPartsIn, 6, (some .int), [])
theorem K_X4_ofPartsIn : KM M_X4_ofPartsIn 1 := ⟨kw_279, kw_83, ⟨by decide, by decide, by decide +kernel⟩, by decide, by decide, rfl⟩
abbrev M_X5_part : Mt := (yX5_part, cX5_part, 4, (some .int), [])
theorem K_X5_part : KM M_X5_part 2 := ⟨kw_858, kw_82, ⟨by decide, by decide, by decide +kernel⟩, by decide, by decide, rfl⟩
abbrev M_X5_value : Mt := (yX5_value, cX5_value, 1, (some .int), [])
theorem K_X5_value : KM M_X5_value 0 := ⟨kw_275, kw_82, ⟨by decide, by decide, by decide +kernel⟩, by decide, by decide, rfl⟩
abbrev M_X5_longest : Mt := (yX5_longest, cX5_longest, 1, (some .int), [])
theorem K_X5_longest : KM M_X5_longest 0 := ⟨kw_407, kw_82, ⟨by decide, by decide, by decide +kernel⟩, by decide, by decide, rfl⟩
abbrev M_X5_shortest : Mt := (yX5_shortest, cX5_shortest, 1, (some .int), [])
theorem K_X5_shortest : KM M_X5_shortest 0 := ⟨kw_412, kw_82, ⟨by decide, by decide, by decide +kernel⟩, by decide, by decide, rfl⟩
abbrev M_X5_meanValue : Mt := (yX5_meanValue, cX5_meanValue, 4, (some .float), [])
theorem K_X5_meanValue : KM M_X5_meanValue 0 := ⟨kw_417, kw_82, ⟨by decide, by decide, by decide +kernel⟩, by decide, by decide, rfl⟩
abbrev M_X5_passWins : Mt := (yX5_passWins, cX5_passWins, 2, (some .boolean), [])
theorem K_X5_passWins : KM M_X5_passWins 0 := ⟨kw_374, kw_82, ⟨by decide, by decide, by decide +kernel⟩, by decide, by decide, rfl⟩
abbrev M_X4_behindLay : Mt := (yX4_behindLay, cX4_behindLay, 6, (some .int), [])
theorem K_X4_behindLay : KM M_X4_behindLay 2 := ⟨kw_397, kw_83, ⟨by decide, by decide, by decide +kernel⟩, by decide, by decide, rfl⟩
abbrev M_X4_without : Mt := (yX4_without, cX4_without, 5, (some .int), [])
theorem K_X4_without : KM M_X4_without 1 := ⟨kw_926, kw_83, ⟨by decide, by decide, by decide +kernel⟩, by decide, by decide, rfl⟩
abbrev M_X5_valueIf : Mt := (yX5_valueIf, cX5_valueIf, 3, (some .int), [])
theorem K_X5_valueIf : KM M_X5_valueIf 2 := ⟨kw_870, kw_82, ⟨by decide, by decide, by decide +kernel⟩, by decide, by decide, rfl⟩
abbrev M_X5_valueWithout : Mt := (yX5_valueWithout, cX5_valueWithout, 2, (some .int), [])
theorem K_X5_valueWithout : KM M_X5_valueWithout 1 := ⟨kw_922, kw_82, ⟨by decide, by decide, by decide +kernel⟩, by decide, by decide, rfl⟩
abbrev M_X5_winnersOn : Mt := (yX5_winnersOn, cX5_winnersOn, 5, (some .int), [])
theorem K_X5_winnersOn : KM M_X5_winnersOn 1 := ⟨kw_378, kw_82, ⟨by decide, by decide, by decide +kernel⟩, by decide, by decide, rfl⟩
abbrev M_X5_chosenMove : Mt := (yX5_chosenMove, cX5_chosenMove, 7, (some .int), [])
theorem K_X5_chosenMove : KM M_X5_chosenMove 0 := ⟨kw_898, kw_82, ⟨by decide, by decide, by decide +kernel⟩, by decide, by decide, rfl⟩
abbrev M_X5_winningMoves : Mt := (yX5_winningMoves, cX5_winningMoves, 3, (some .int), [])
theorem K_X5_winningMoves : KM M_X5_winningMoves 0 := ⟨kw_370, kw_82, ⟨by decide, by decide, by decide +kernel⟩, by decide, by decide, rfl⟩
abbrev M_X5_bestMove : Mt := (yX5_bestMove, cX5_bestMove, 1, (some .int), [])
theorem K_X5_bestMove : KM M_X5_bestMove 0 := ⟨kw_893, kw_82, ⟨by decide, by decide, by decide +kernel⟩, by decide, by decide, rfl⟩
abbrev M_X5_winningColours : Mt := (yX5_winningColours, cX5_winningColours, 2, (some .int), [])
theorem K_X5_winningColours : KM M_X5_winningColours 1 := ⟨kw_906, kw_82, ⟨by decide, by decide, by decide +kernel⟩, by decide, by decide, rfl⟩
abbrev M_X5_playOut : Mt := (yX5_playOut, cX5_playOut, 4, (some .int), [])
theorem K_X5_playOut : KM M_X5_playOut 1 := ⟨kw_950, kw_82, ⟨by decide, by decide, by decide +kernel⟩, by decide, by decide, rfl⟩
