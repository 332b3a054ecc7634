section
-- ===== PART A: goes FIRST, ahead of the names: the tables' words, and 'selects' of the private methods out of them =====
/-- a private method of a class that the tables say can be made, by its rows of tables_1 -/
def lw_okq (q : MethodName × Nat) : Prop := (q.1.cls ≠ "java/lang/invoke/MethodHandle" ∧ q.1.cls ≠ "java/lang/invoke/VarHandle") ∧ Cond.instantiable q.1.cls q.2 ∈ tables_1 ∧ Cond.privateMethod q.1 ∈ tables_1 ∧ Cond.instanceMethod q.1 ∈ tables_1
theorem lw_p0 : lw_okq (⟨"ColourDuel$Solver", "placeOf", "(I)J"⟩, 3) := ⟨⟨by decide +kernel, by decide +kernel⟩, List.mem_of_getElem? (i := 84) (by decide +kernel), List.mem_of_getElem? (i := 209) (by decide +kernel), List.mem_of_getElem? (i := 210) (by decide +kernel)⟩
theorem lw_p1 : lw_okq (⟨"ColourDuel$Solver", "ofPlace", "(JI)I"⟩, 3) := ⟨⟨by decide +kernel, by decide +kernel⟩, List.mem_of_getElem? (i := 84) (by decide +kernel), List.mem_of_getElem? (i := 227) (by decide +kernel), List.mem_of_getElem? (i := 228) (by decide +kernel)⟩
theorem lw_p2 : lw_okq (⟨"ColourDuel$Solver", "workOut", "(JI)I"⟩, 3) := ⟨⟨by decide +kernel, by decide +kernel⟩, List.mem_of_getElem? (i := 84) (by decide +kernel), List.mem_of_getElem? (i := 232) (by decide +kernel), List.mem_of_getElem? (i := 233) (by decide +kernel)⟩
theorem lw_p3 : lw_okq (⟨"ColourDuel$Solver", "behind", "(JII)J"⟩, 3) := ⟨⟨by decide +kernel, by decide +kernel⟩, List.mem_of_getElem? (i := 84) (by decide +kernel), List.mem_of_getElem? (i := 240) (by decide +kernel), List.mem_of_getElem? (i := 241) (by decide +kernel)⟩
theorem lw_p4 : lw_okq (⟨"ColourDuel$Solver", "ofPieces", "(JI)I"⟩, 3) := ⟨⟨by decide +kernel, by decide +kernel⟩, List.mem_of_getElem? (i := 84) (by decide +kernel), List.mem_of_getElem? (i := 251) (by decide +kernel), List.mem_of_getElem? (i := 252) (by decide +kernel)⟩
theorem lw_p5 : lw_okq (⟨"ColourDuel", "passWins", "()Z"⟩, 8) := ⟨⟨by decide +kernel, by decide +kernel⟩, List.mem_of_getElem? (i := 22) (by decide +kernel), List.mem_of_getElem? (i := 290) (by decide +kernel), List.mem_of_getElem? (i := 291) (by decide +kernel)⟩
theorem lw_p6 : lw_okq (⟨"ColourDuel", "winnersOn", "(I)I"⟩, 8) := ⟨⟨by decide +kernel, by decide +kernel⟩, List.mem_of_getElem? (i := 22) (by decide +kernel), List.mem_of_getElem? (i := 294) (by decide +kernel), List.mem_of_getElem? (i := 295) (by decide +kernel)⟩
theorem lw_p7 : lw_okq (⟨"ColourDuel$Board", "coloursAt", "([II)I"⟩, 11) := ⟨⟨by decide +kernel, by decide +kernel⟩, List.mem_of_getElem? (i := 30) (by decide +kernel), List.mem_of_getElem? (i := 354) (by decide +kernel), List.mem_of_getElem? (i := 355) (by decide +kernel)⟩
theorem lw_p8 : lw_okq (⟨"ColourDuel", "write", "(I)V"⟩, 8) := ⟨⟨by decide +kernel, by decide +kernel⟩, List.mem_of_getElem? (i := 22) (by decide +kernel), List.mem_of_getElem? (i := 359) (by decide +kernel), List.mem_of_getElem? (i := 360) (by decide +kernel)⟩
theorem lw_p9 : lw_okq (⟨"java/lang/Throwable", "fillInStackTrace", "(I)Ljava/lang/Throwable;"⟩, 6) := ⟨⟨by decide +kernel, by decide +kernel⟩, List.mem_of_getElem? (i := 414) (by decide +kernel), List.mem_of_getElem? (i := 412) (by decide +kernel), List.mem_of_getElem? (i := 413) (by decide +kernel)⟩
theorem lw_p10 : lw_okq (⟨"ColourDuel$Reader", "advance", "()V"⟩, 10) := ⟨⟨by decide +kernel, by decide +kernel⟩, List.mem_of_getElem? (i := 102) (by decide +kernel), List.mem_of_getElem? (i := 475) (by decide +kernel), List.mem_of_getElem? (i := 476) (by decide +kernel)⟩
theorem lw_p11 : lw_okq (⟨"ColourDuel$Reader", "byteAt", "(I)I"⟩, 10) := ⟨⟨by decide +kernel, by decide +kernel⟩, List.mem_of_getElem? (i := 102) (by decide +kernel), List.mem_of_getElem? (i := 479) (by decide +kernel), List.mem_of_getElem? (i := 480) (by decide +kernel)⟩
theorem lw_p12 : lw_okq (⟨"ColourDuel$Reader", "readHead", "()Z"⟩, 10) := ⟨⟨by decide +kernel, by decide +kernel⟩, List.mem_of_getElem? (i := 102) (by decide +kernel), List.mem_of_getElem? (i := 490) (by decide +kernel), List.mem_of_getElem? (i := 491) (by decide +kernel)⟩
theorem lw_p13 : lw_okq (⟨"ColourDuel$Reader", "readWord", "(Ljava/lang/String;)Z"⟩, 10) := ⟨⟨by decide +kernel, by decide +kernel⟩, List.mem_of_getElem? (i := 102) (by decide +kernel), List.mem_of_getElem? (i := 495) (by decide +kernel), List.mem_of_getElem? (i := 496) (by decide +kernel)⟩
theorem lw_p14 : lw_okq (⟨"ColourDuel$Reader", "atWord", "(Ljava/lang/String;)Z"⟩, 10) := ⟨⟨by decide +kernel, by decide +kernel⟩, List.mem_of_getElem? (i := 102) (by decide +kernel), List.mem_of_getElem? (i := 499) (by decide +kernel), List.mem_of_getElem? (i := 500) (by decide +kernel)⟩
theorem lw_p15 : lw_okq (⟨"ColourDuel$Reader", "fail", "(I)Z"⟩, 10) := ⟨⟨by decide +kernel, by decide +kernel⟩, List.mem_of_getElem? (i := 102) (by decide +kernel), List.mem_of_getElem? (i := 551) (by decide +kernel), List.mem_of_getElem? (i := 552) (by decide +kernel)⟩
def lw_privs_1 : List (MethodName × Nat) := [(⟨"ColourDuel$Solver", "placeOf", "(I)J"⟩, 3), (⟨"ColourDuel$Solver", "ofPlace", "(JI)I"⟩, 3), (⟨"ColourDuel$Solver", "workOut", "(JI)I"⟩, 3), (⟨"ColourDuel$Solver", "behind", "(JII)J"⟩, 3), (⟨"ColourDuel$Solver", "ofPieces", "(JI)I"⟩, 3), (⟨"ColourDuel", "passWins", "()Z"⟩, 8), (⟨"ColourDuel", "winnersOn", "(I)I"⟩, 8), (⟨"ColourDuel$Board", "coloursAt", "([II)I"⟩, 11), (⟨"ColourDuel", "write", "(I)V"⟩, 8), (⟨"java/lang/Throwable", "fillInStackTrace", "(I)Ljava/lang/Throwable;"⟩, 6), (⟨"ColourDuel$Reader", "advance", "()V"⟩, 10), (⟨"ColourDuel$Reader", "byteAt", "(I)I"⟩, 10), (⟨"ColourDuel$Reader", "readHead", "()Z"⟩, 10), (⟨"ColourDuel$Reader", "readWord", "(Ljava/lang/String;)Z"⟩, 10), (⟨"ColourDuel$Reader", "atWord", "(Ljava/lang/String;)Z"⟩, 10), (⟨"ColourDuel$Reader", "fail", "(I)Z"⟩, 10)]
theorem lw_r1 : ∀ q ∈ lw_privs_1, lw_okq q := List.forall_mem_cons.mpr ⟨lw_p0, List.forall_mem_cons.mpr ⟨lw_p1, List.forall_mem_cons.mpr ⟨lw_p2, List.forall_mem_cons.mpr ⟨lw_p3, List.forall_mem_cons.mpr ⟨lw_p4, List.forall_mem_cons.mpr ⟨lw_p5, List.forall_mem_cons.mpr ⟨lw_p6, List.forall_mem_cons.mpr ⟨lw_p7, List.forall_mem_cons.mpr ⟨lw_p8, List.forall_mem_cons.mpr ⟨lw_p9, List.forall_mem_cons.mpr ⟨lw_p10, List.forall_mem_cons.mpr ⟨lw_p11, List.forall_mem_cons.mpr ⟨lw_p12, List.forall_mem_cons.mpr ⟨lw_p13, List.forall_mem_cons.mpr ⟨lw_p14, List.forall_mem_cons.mpr ⟨lw_p15, fun _ h => absurd h List.not_mem_nil⟩⟩⟩⟩⟩⟩⟩⟩⟩⟩⟩⟩⟩⟩⟩⟩
theorem lw_p16 : lw_okq (⟨"ColourDuel$Reader", "readNumber", "(II)I"⟩, 10) := ⟨⟨by decide +kernel, by decide +kernel⟩, List.mem_of_getElem? (i := 102) (by decide +kernel), List.mem_of_getElem? (i := 555) (by decide +kernel), List.mem_of_getElem? (i := 556) (by decide +kernel)⟩
theorem lw_p17 : lw_okq (⟨"ColourDuel$Reader", "readSemicolon", "()Z"⟩, 10) := ⟨⟨by decide +kernel, by decide +kernel⟩, List.mem_of_getElem? (i := 102) (by decide +kernel), List.mem_of_getElem? (i := 567) (by decide +kernel), List.mem_of_getElem? (i := 568) (by decide +kernel)⟩
theorem lw_p18 : lw_okq (⟨"ColourDuel$Reader", "readVertices", "()Z"⟩, 10) := ⟨⟨by decide +kernel, by decide +kernel⟩, List.mem_of_getElem? (i := 102) (by decide +kernel), List.mem_of_getElem? (i := 571) (by decide +kernel), List.mem_of_getElem? (i := 572) (by decide +kernel)⟩
theorem lw_p19 : lw_okq (⟨"ColourDuel$Reader", "readVertex", "()Z"⟩, 10) := ⟨⟨by decide +kernel, by decide +kernel⟩, List.mem_of_getElem? (i := 102) (by decide +kernel), List.mem_of_getElem? (i := 575) (by decide +kernel), List.mem_of_getElem? (i := 576) (by decide +kernel)⟩
theorem lw_p20 : lw_okq (⟨"ColourDuel$Reader", "listHere", "()I"⟩, 10) := ⟨⟨by decide +kernel, by decide +kernel⟩, List.mem_of_getElem? (i := 102) (by decide +kernel), List.mem_of_getElem? (i := 588) (by decide +kernel), List.mem_of_getElem? (i := 589) (by decide +kernel)⟩
theorem lw_p21 : lw_okq (⟨"ColourDuel$Reader", "readEdges", "()Z"⟩, 10) := ⟨⟨by decide +kernel, by decide +kernel⟩, List.mem_of_getElem? (i := 102) (by decide +kernel), List.mem_of_getElem? (i := 597) (by decide +kernel), List.mem_of_getElem? (i := 598) (by decide +kernel)⟩
theorem lw_p22 : lw_okq (⟨"ColourDuel$Reader", "readEdge", "()Z"⟩, 10) := ⟨⟨by decide +kernel, by decide +kernel⟩, List.mem_of_getElem? (i := 102) (by decide +kernel), List.mem_of_getElem? (i := 602) (by decide +kernel), List.mem_of_getElem? (i := 603) (by decide +kernel)⟩
theorem lw_p23 : lw_okq (⟨"ColourDuel$Reader", "readMoves", "()Z"⟩, 10) := ⟨⟨by decide +kernel, by decide +kernel⟩, List.mem_of_getElem? (i := 102) (by decide +kernel), List.mem_of_getElem? (i := 611) (by decide +kernel), List.mem_of_getElem? (i := 612) (by decide +kernel)⟩
theorem lw_p24 : lw_okq (⟨"ColourDuel$Reader", "readLay", "()Z"⟩, 10) := ⟨⟨by decide +kernel, by decide +kernel⟩, List.mem_of_getElem? (i := 102) (by decide +kernel), List.mem_of_getElem? (i := 617) (by decide +kernel), List.mem_of_getElem? (i := 618) (by decide +kernel)⟩
theorem lw_p25 : lw_okq (⟨"ColourDuel$Reader", "readPass", "()Z"⟩, 10) := ⟨⟨by decide +kernel, by decide +kernel⟩, List.mem_of_getElem? (i := 102) (by decide +kernel), List.mem_of_getElem? (i := 657) (by decide +kernel), List.mem_of_getElem? (i := 658) (by decide +kernel)⟩
theorem lw_p26 : lw_okq (⟨"ColourDuel$Reader", "readEnd", "()Z"⟩, 10) := ⟨⟨by decide +kernel, by decide +kernel⟩, List.mem_of_getElem? (i := 102) (by decide +kernel), List.mem_of_getElem? (i := 665) (by decide +kernel), List.mem_of_getElem? (i := 666) (by decide +kernel)⟩
theorem lw_p27 : lw_okq (⟨"ColourDuel", "chosenMove", "()I"⟩, 8) := ⟨⟨by decide +kernel, by decide +kernel⟩, List.mem_of_getElem? (i := 22) (by decide +kernel), List.mem_of_getElem? (i := 810) (by decide +kernel), List.mem_of_getElem? (i := 811) (by decide +kernel)⟩
theorem lw_p28 : lw_okq (⟨"ColourDuelModel", "next", "()V"⟩, 22) := ⟨⟨by decide +kernel, by decide +kernel⟩, List.mem_of_getElem? (i := 947) (by decide +kernel), List.mem_of_getElem? (i := 1045) (by decide +kernel), List.mem_of_getElem? (i := 1046) (by decide +kernel)⟩
theorem lw_p29 : lw_okq (⟨"ColourDuelModel", "see", "(I)I"⟩, 22) := ⟨⟨by decide +kernel, by decide +kernel⟩, List.mem_of_getElem? (i := 947) (by decide +kernel), List.mem_of_getElem? (i := 1049) (by decide +kernel), List.mem_of_getElem? (i := 1050) (by decide +kernel)⟩
theorem lw_p30 : lw_okq (⟨"ColourDuelModel", "reads", "()V"⟩, 22) := ⟨⟨by decide +kernel, by decide +kernel⟩, List.mem_of_getElem? (i := 947) (by decide +kernel), List.mem_of_getElem? (i := 1053) (by decide +kernel), List.mem_of_getElem? (i := 1054) (by decide +kernel)⟩
theorem lw_p31 : lw_okq (⟨"ColourDuelModel", "isWord", "(Ljava/lang/String;)Z"⟩, 22) := ⟨⟨by decide +kernel, by decide +kernel⟩, List.mem_of_getElem? (i := 947) (by decide +kernel), List.mem_of_getElem? (i := 1058) (by decide +kernel), List.mem_of_getElem? (i := 1059) (by decide +kernel)⟩
def lw_privs_2 : List (MethodName × Nat) := [(⟨"ColourDuel$Reader", "readNumber", "(II)I"⟩, 10), (⟨"ColourDuel$Reader", "readSemicolon", "()Z"⟩, 10), (⟨"ColourDuel$Reader", "readVertices", "()Z"⟩, 10), (⟨"ColourDuel$Reader", "readVertex", "()Z"⟩, 10), (⟨"ColourDuel$Reader", "listHere", "()I"⟩, 10), (⟨"ColourDuel$Reader", "readEdges", "()Z"⟩, 10), (⟨"ColourDuel$Reader", "readEdge", "()Z"⟩, 10), (⟨"ColourDuel$Reader", "readMoves", "()Z"⟩, 10), (⟨"ColourDuel$Reader", "readLay", "()Z"⟩, 10), (⟨"ColourDuel$Reader", "readPass", "()Z"⟩, 10), (⟨"ColourDuel$Reader", "readEnd", "()Z"⟩, 10), (⟨"ColourDuel", "chosenMove", "()I"⟩, 8), (⟨"ColourDuelModel", "next", "()V"⟩, 22), (⟨"ColourDuelModel", "see", "(I)I"⟩, 22), (⟨"ColourDuelModel", "reads", "()V"⟩, 22), (⟨"ColourDuelModel", "isWord", "(Ljava/lang/String;)Z"⟩, 22)]
theorem lw_r2 : ∀ q ∈ lw_privs_2, lw_okq q := List.forall_mem_cons.mpr ⟨lw_p16, List.forall_mem_cons.mpr ⟨lw_p17, List.forall_mem_cons.mpr ⟨lw_p18, List.forall_mem_cons.mpr ⟨lw_p19, List.forall_mem_cons.mpr ⟨lw_p20, List.forall_mem_cons.mpr ⟨lw_p21, List.forall_mem_cons.mpr ⟨lw_p22, List.forall_mem_cons.mpr ⟨lw_p23, List.forall_mem_cons.mpr ⟨lw_p24, List.forall_mem_cons.mpr ⟨lw_p25, List.forall_mem_cons.mpr ⟨lw_p26, List.forall_mem_cons.mpr ⟨lw_p27, List.forall_mem_cons.mpr ⟨lw_p28, List.forall_mem_cons.mpr ⟨lw_p29, List.forall_mem_cons.mpr ⟨lw_p30, List.forall_mem_cons.mpr ⟨lw_p31, fun _ h => absurd h List.not_mem_nil⟩⟩⟩⟩⟩⟩⟩⟩⟩⟩⟩⟩⟩⟩⟩⟩
theorem lw_p32 : lw_okq (⟨"ColourDuelModel", "must", "(Z)V"⟩, 22) := ⟨⟨by decide +kernel, by decide +kernel⟩, List.mem_of_getElem? (i := 947) (by decide +kernel), List.mem_of_getElem? (i := 1064) (by decide +kernel), List.mem_of_getElem? (i := 1065) (by decide +kernel)⟩
theorem lw_p33 : lw_okq (⟨"ColourDuelModel", "fails", "(I)V"⟩, 22) := ⟨⟨by decide +kernel, by decide +kernel⟩, List.mem_of_getElem? (i := 947) (by decide +kernel), List.mem_of_getElem? (i := 1068) (by decide +kernel), List.mem_of_getElem? (i := 1069) (by decide +kernel)⟩
theorem lw_p34 : lw_okq (⟨"ColourDuelModel", "takes", "(II)I"⟩, 22) := ⟨⟨by decide +kernel, by decide +kernel⟩, List.mem_of_getElem? (i := 947) (by decide +kernel), List.mem_of_getElem? (i := 1072) (by decide +kernel), List.mem_of_getElem? (i := 1073) (by decide +kernel)⟩
theorem lw_p35 : lw_okq (⟨"ColourDuelModel", "mustEnd", "()V"⟩, 22) := ⟨⟨by decide +kernel, by decide +kernel⟩, List.mem_of_getElem? (i := 947) (by decide +kernel), List.mem_of_getElem? (i := 1077) (by decide +kernel), List.mem_of_getElem? (i := 1078) (by decide +kernel)⟩
theorem lw_p36 : lw_okq (⟨"ColourDuelModel", "readsVertex", "()V"⟩, 22) := ⟨⟨by decide +kernel, by decide +kernel⟩, List.mem_of_getElem? (i := 947) (by decide +kernel), List.mem_of_getElem? (i := 1082) (by decide +kernel), List.mem_of_getElem? (i := 1083) (by decide +kernel)⟩
theorem lw_p37 : lw_okq (⟨"ColourDuelModel", "colouringsNext", "()I"⟩, 22) := ⟨⟨by decide +kernel, by decide +kernel⟩, List.mem_of_getElem? (i := 947) (by decide +kernel), List.mem_of_getElem? (i := 1086) (by decide +kernel), List.mem_of_getElem? (i := 1087) (by decide +kernel)⟩
theorem lw_p38 : lw_okq (⟨"ColourDuelModel", "lettersHere", "()I"⟩, 22) := ⟨⟨by decide +kernel, by decide +kernel⟩, List.mem_of_getElem? (i := 947) (by decide +kernel), List.mem_of_getElem? (i := 1090) (by decide +kernel), List.mem_of_getElem? (i := 1091) (by decide +kernel)⟩
theorem lw_p39 : lw_okq (⟨"ColourDuelModel", "readsEdge", "()V"⟩, 22) := ⟨⟨by decide +kernel, by decide +kernel⟩, List.mem_of_getElem? (i := 947) (by decide +kernel), List.mem_of_getElem? (i := 1095) (by decide +kernel), List.mem_of_getElem? (i := 1096) (by decide +kernel)⟩
theorem lw_p40 : lw_okq (⟨"ColourDuelModel", "areNext", "(II)Z"⟩, 22) := ⟨⟨by decide +kernel, by decide +kernel⟩, List.mem_of_getElem? (i := 947) (by decide +kernel), List.mem_of_getElem? (i := 1099) (by decide +kernel), List.mem_of_getElem? (i := 1100) (by decide +kernel)⟩
theorem lw_p41 : lw_okq (⟨"ColourDuelModel", "readsLay", "()V"⟩, 22) := ⟨⟨by decide +kernel, by decide +kernel⟩, List.mem_of_getElem? (i := 947) (by decide +kernel), List.mem_of_getElem? (i := 1105) (by decide +kernel), List.mem_of_getElem? (i := 1106) (by decide +kernel)⟩
theorem lw_p42 : lw_okq (⟨"ColourDuelModel", "whyNot", "(II)I"⟩, 22) := ⟨⟨by decide +kernel, by decide +kernel⟩, List.mem_of_getElem? (i := 947) (by decide +kernel), List.mem_of_getElem? (i := 1109) (by decide +kernel), List.mem_of_getElem? (i := 1110) (by decide +kernel)⟩
theorem lw_p43 : lw_okq (⟨"ColourDuelModel", "isFree", "(I)Z"⟩, 22) := ⟨⟨by decide +kernel, by decide +kernel⟩, List.mem_of_getElem? (i := 947) (by decide +kernel), List.mem_of_getElem? (i := 1113) (by decide +kernel), List.mem_of_getElem? (i := 1114) (by decide +kernel)⟩
theorem lw_p44 : lw_okq (⟨"ColourDuelModel", "around", "(I)I"⟩, 22) := ⟨⟨by decide +kernel, by decide +kernel⟩, List.mem_of_getElem? (i := 947) (by decide +kernel), List.mem_of_getElem? (i := 1117) (by decide +kernel), List.mem_of_getElem? (i := 1118) (by decide +kernel)⟩
theorem lw_p45 : lw_okq (⟨"ColourDuelModel", "colourOf", "(I)I"⟩, 22) := ⟨⟨by decide +kernel, by decide +kernel⟩, List.mem_of_getElem? (i := 947) (by decide +kernel), List.mem_of_getElem? (i := 1121) (by decide +kernel), List.mem_of_getElem? (i := 1122) (by decide +kernel)⟩
theorem lw_p46 : lw_okq (⟨"ColourDuelModel", "colours", "(I)I"⟩, 22) := ⟨⟨by decide +kernel, by decide +kernel⟩, List.mem_of_getElem? (i := 947) (by decide +kernel), List.mem_of_getElem? (i := 1125) (by decide +kernel), List.mem_of_getElem? (i := 1126) (by decide +kernel)⟩
theorem lw_p47 : lw_okq (⟨"ColourDuelModel", "freeSet", "()I"⟩, 22) := ⟨⟨by decide +kernel, by decide +kernel⟩, List.mem_of_getElem? (i := 947) (by decide +kernel), List.mem_of_getElem? (i := 1129) (by decide +kernel), List.mem_of_getElem? (i := 1130) (by decide +kernel)⟩
def lw_privs_3 : List (MethodName × Nat) := [(⟨"ColourDuelModel", "must", "(Z)V"⟩, 22), (⟨"ColourDuelModel", "fails", "(I)V"⟩, 22), (⟨"ColourDuelModel", "takes", "(II)I"⟩, 22), (⟨"ColourDuelModel", "mustEnd", "()V"⟩, 22), (⟨"ColourDuelModel", "readsVertex", "()V"⟩, 22), (⟨"ColourDuelModel", "colouringsNext", "()I"⟩, 22), (⟨"ColourDuelModel", "lettersHere", "()I"⟩, 22), (⟨"ColourDuelModel", "readsEdge", "()V"⟩, 22), (⟨"ColourDuelModel", "areNext", "(II)Z"⟩, 22), (⟨"ColourDuelModel", "readsLay", "()V"⟩, 22), (⟨"ColourDuelModel", "whyNot", "(II)I"⟩, 22), (⟨"ColourDuelModel", "isFree", "(I)Z"⟩, 22), (⟨"ColourDuelModel", "around", "(I)I"⟩, 22), (⟨"ColourDuelModel", "colourOf", "(I)I"⟩, 22), (⟨"ColourDuelModel", "colours", "(I)I"⟩, 22), (⟨"ColourDuelModel", "freeSet", "()I"⟩, 22)]
theorem lw_r3 : ∀ q ∈ lw_privs_3, lw_okq q := List.forall_mem_cons.mpr ⟨lw_p32, List.forall_mem_cons.mpr ⟨lw_p33, List.forall_mem_cons.mpr ⟨lw_p34, List.forall_mem_cons.mpr ⟨lw_p35, List.forall_mem_cons.mpr ⟨lw_p36, List.forall_mem_cons.mpr ⟨lw_p37, List.forall_mem_cons.mpr ⟨lw_p38, List.forall_mem_cons.mpr ⟨lw_p39, List.forall_mem_cons.mpr ⟨lw_p40, List.forall_mem_cons.mpr ⟨lw_p41, List.forall_mem_cons.mpr ⟨lw_p42, List.forall_mem_cons.mpr ⟨lw_p43, List.forall_mem_cons.mpr ⟨lw_p44, List.forall_mem_cons.mpr ⟨lw_p45, List.forall_mem_cons.mpr ⟨lw_p46, List.forall_mem_cons.mpr ⟨lw_p47, fun _ h => absurd h List.not_mem_nil⟩⟩⟩⟩⟩⟩⟩⟩⟩⟩⟩⟩⟩⟩⟩⟩
theorem lw_p48 : lw_okq (⟨"ColourDuelModel", "reached", "(II)I"⟩, 22) := ⟨⟨by decide +kernel, by decide +kernel⟩, List.mem_of_getElem? (i := 947) (by decide +kernel), List.mem_of_getElem? (i := 1133) (by decide +kernel), List.mem_of_getElem? (i := 1134) (by decide +kernel)⟩
theorem lw_p49 : lw_okq (⟨"ColourDuelModel", "banOf", "(I)I"⟩, 22) := ⟨⟨by decide +kernel, by decide +kernel⟩, List.mem_of_getElem? (i := 947) (by decide +kernel), List.mem_of_getElem? (i := 1137) (by decide +kernel), List.mem_of_getElem? (i := 1138) (by decide +kernel)⟩
theorem lw_p50 : lw_okq (⟨"ColourDuelModel", "canLay", "(III)I"⟩, 22) := ⟨⟨by decide +kernel, by decide +kernel⟩, List.mem_of_getElem? (i := 947) (by decide +kernel), List.mem_of_getElem? (i := 1141) (by decide +kernel), List.mem_of_getElem? (i := 1142) (by decide +kernel)⟩
theorem lw_p51 : lw_okq (⟨"ColourDuelModel", "lays", "(II)V"⟩, 22) := ⟨⟨by decide +kernel, by decide +kernel⟩, List.mem_of_getElem? (i := 947) (by decide +kernel), List.mem_of_getElem? (i := 1148) (by decide +kernel), List.mem_of_getElem? (i := 1149) (by decide +kernel)⟩
theorem lw_p52 : lw_okq (⟨"ColourDuelModel", "partsIn", "(I)I"⟩, 22) := ⟨⟨by decide +kernel, by decide +kernel⟩, List.mem_of_getElem? (i := 947) (by decide +kernel), List.mem_of_getElem? (i := 1152) (by decide +kernel), List.mem_of_getElem? (i := 1153) (by decide +kernel)⟩
theorem lw_p53 : lw_okq (⟨"ColourDuelModel", "notes", "(III)V"⟩, 22) := ⟨⟨by decide +kernel, by decide +kernel⟩, List.mem_of_getElem? (i := 947) (by decide +kernel), List.mem_of_getElem? (i := 1159) (by decide +kernel), List.mem_of_getElem? (i := 1160) (by decide +kernel)⟩
theorem lw_p54 : lw_okq (⟨"ColourDuelModel", "turn", "()I"⟩, 22) := ⟨⟨by decide +kernel, by decide +kernel⟩, List.mem_of_getElem? (i := 947) (by decide +kernel), List.mem_of_getElem? (i := 1163) (by decide +kernel), List.mem_of_getElem? (i := 1164) (by decide +kernel)⟩
theorem lw_p55 : lw_okq (⟨"ColourDuelModel", "readsPass", "()V"⟩, 22) := ⟨⟨by decide +kernel, by decide +kernel⟩, List.mem_of_getElem? (i := 947) (by decide +kernel), List.mem_of_getElem? (i := 1167) (by decide +kernel), List.mem_of_getElem? (i := 1168) (by decide +kernel)⟩
theorem lw_p56 : lw_okq (⟨"ColourDuelModel", "passes", "()V"⟩, 22) := ⟨⟨by decide +kernel, by decide +kernel⟩, List.mem_of_getElem? (i := 947) (by decide +kernel), List.mem_of_getElem? (i := 1171) (by decide +kernel), List.mem_of_getElem? (i := 1172) (by decide +kernel)⟩
theorem lw_p57 : lw_okq (⟨"ColourDuelModel", "keeps", "()V"⟩, 22) := ⟨⟨by decide +kernel, by decide +kernel⟩, List.mem_of_getElem? (i := 947) (by decide +kernel), List.mem_of_getElem? (i := 1175) (by decide +kernel), List.mem_of_getElem? (i := 1176) (by decide +kernel)⟩
theorem lw_p58 : lw_okq (⟨"ColourDuelModel", "edgesIn", "(I)I"⟩, 22) := ⟨⟨by decide +kernel, by decide +kernel⟩, List.mem_of_getElem? (i := 947) (by decide +kernel), List.mem_of_getElem? (i := 1187) (by decide +kernel), List.mem_of_getElem? (i := 1188) (by decide +kernel)⟩
theorem lw_p59 : lw_okq (⟨"ColourDuelModel", "isOver", "()Z"⟩, 22) := ⟨⟨by decide +kernel, by decide +kernel⟩, List.mem_of_getElem? (i := 947) (by decide +kernel), List.mem_of_getElem? (i := 1191) (by decide +kernel), List.mem_of_getElem? (i := 1192) (by decide +kernel)⟩
theorem lw_p60 : lw_okq (⟨"ColourDuelModel", "pairs", "()I"⟩, 22) := ⟨⟨by decide +kernel, by decide +kernel⟩, List.mem_of_getElem? (i := 947) (by decide +kernel), List.mem_of_getElem? (i := 1195) (by decide +kernel), List.mem_of_getElem? (i := 1196) (by decide +kernel)⟩
theorem lw_p61 : lw_okq (⟨"ColourDuelModel", "stuck", "()I"⟩, 22) := ⟨⟨by decide +kernel, by decide +kernel⟩, List.mem_of_getElem? (i := 947) (by decide +kernel), List.mem_of_getElem? (i := 1199) (by decide +kernel), List.mem_of_getElem? (i := 1200) (by decide +kernel)⟩
theorem lw_p62 : lw_okq (⟨"ColourDuelModel", "isVertex", "(I)Z"⟩, 22) := ⟨⟨by decide +kernel, by decide +kernel⟩, List.mem_of_getElem? (i := 947) (by decide +kernel), List.mem_of_getElem? (i := 1207) (by decide +kernel), List.mem_of_getElem? (i := 1208) (by decide +kernel)⟩
theorem lw_p63 : lw_okq (⟨"ColourDuelModel", "partOf", "(I)I"⟩, 22) := ⟨⟨by decide +kernel, by decide +kernel⟩, List.mem_of_getElem? (i := 947) (by decide +kernel), List.mem_of_getElem? (i := 1211) (by decide +kernel), List.mem_of_getElem? (i := 1212) (by decide +kernel)⟩
def lw_privs_4 : List (MethodName × Nat) := [(⟨"ColourDuelModel", "reached", "(II)I"⟩, 22), (⟨"ColourDuelModel", "banOf", "(I)I"⟩, 22), (⟨"ColourDuelModel", "canLay", "(III)I"⟩, 22), (⟨"ColourDuelModel", "lays", "(II)V"⟩, 22), (⟨"ColourDuelModel", "partsIn", "(I)I"⟩, 22), (⟨"ColourDuelModel", "notes", "(III)V"⟩, 22), (⟨"ColourDuelModel", "turn", "()I"⟩, 22), (⟨"ColourDuelModel", "readsPass", "()V"⟩, 22), (⟨"ColourDuelModel", "passes", "()V"⟩, 22), (⟨"ColourDuelModel", "keeps", "()V"⟩, 22), (⟨"ColourDuelModel", "edgesIn", "(I)I"⟩, 22), (⟨"ColourDuelModel", "isOver", "()Z"⟩, 22), (⟨"ColourDuelModel", "pairs", "()I"⟩, 22), (⟨"ColourDuelModel", "stuck", "()I"⟩, 22), (⟨"ColourDuelModel", "isVertex", "(I)Z"⟩, 22), (⟨"ColourDuelModel", "partOf", "(I)I"⟩, 22)]
theorem lw_r4 : ∀ q ∈ lw_privs_4, lw_okq q := List.forall_mem_cons.mpr ⟨lw_p48, List.forall_mem_cons.mpr ⟨lw_p49, List.forall_mem_cons.mpr ⟨lw_p50, List.forall_mem_cons.mpr ⟨lw_p51, List.forall_mem_cons.mpr ⟨lw_p52, List.forall_mem_cons.mpr ⟨lw_p53, List.forall_mem_cons.mpr ⟨lw_p54, List.forall_mem_cons.mpr ⟨lw_p55, List.forall_mem_cons.mpr ⟨lw_p56, List.forall_mem_cons.mpr ⟨lw_p57, List.forall_mem_cons.mpr ⟨lw_p58, List.forall_mem_cons.mpr ⟨lw_p59, List.forall_mem_cons.mpr ⟨lw_p60, List.forall_mem_cons.mpr ⟨lw_p61, List.forall_mem_cons.mpr ⟨lw_p62, List.forall_mem_cons.mpr ⟨lw_p63, fun _ h => absurd h List.not_mem_nil⟩⟩⟩⟩⟩⟩⟩⟩⟩⟩⟩⟩⟩⟩⟩⟩
theorem lw_p64 : lw_okq (⟨"ColourDuelModel", "isColour", "(I)Z"⟩, 22) := ⟨⟨by decide +kernel, by decide +kernel⟩, List.mem_of_getElem? (i := 947) (by decide +kernel), List.mem_of_getElem? (i := 1219) (by decide +kernel), List.mem_of_getElem? (i := 1220) (by decide +kernel)⟩
theorem lw_p65 : lw_okq (⟨"ColourDuelModel", "partSet", "(I)I"⟩, 22) := ⟨⟨by decide +kernel, by decide +kernel⟩, List.mem_of_getElem? (i := 947) (by decide +kernel), List.mem_of_getElem? (i := 1227) (by decide +kernel), List.mem_of_getElem? (i := 1228) (by decide +kernel)⟩
theorem lw_p66 : lw_okq (⟨"ColourDuelModel", "pairsIn", "(I)I"⟩, 22) := ⟨⟨by decide +kernel, by decide +kernel⟩, List.mem_of_getElem? (i := 947) (by decide +kernel), List.mem_of_getElem? (i := 1231) (by decide +kernel), List.mem_of_getElem? (i := 1232) (by decide +kernel)⟩
theorem lw_p67 : lw_okq (⟨"ColourDuelModel", "ofPart", "(III)I"⟩, 22) := ⟨⟨by decide +kernel, by decide +kernel⟩, List.mem_of_getElem? (i := 947) (by decide +kernel), List.mem_of_getElem? (i := 1235) (by decide +kernel), List.mem_of_getElem? (i := 1236) (by decide +kernel)⟩
theorem lw_p68 : lw_okq (⟨"ColourDuelModel", "forgets", "()V"⟩, 22) := ⟨⟨by decide +kernel, by decide +kernel⟩, List.mem_of_getElem? (i := 947) (by decide +kernel), List.mem_of_getElem? (i := 1239) (by decide +kernel), List.mem_of_getElem? (i := 1240) (by decide +kernel)⟩
theorem lw_p69 : lw_okq (⟨"ColourDuelModel", "knownOf", "(II)I"⟩, 22) := ⟨⟨by decide +kernel, by decide +kernel⟩, List.mem_of_getElem? (i := 947) (by decide +kernel), List.mem_of_getElem? (i := 1243) (by decide +kernel), List.mem_of_getElem? (i := 1244) (by decide +kernel)⟩
theorem lw_p70 : lw_okq (⟨"ColourDuelModel", "placeOf", "(II)I"⟩, 22) := ⟨⟨by decide +kernel, by decide +kernel⟩, List.mem_of_getElem? (i := 947) (by decide +kernel), List.mem_of_getElem? (i := 1247) (by decide +kernel), List.mem_of_getElem? (i := 1248) (by decide +kernel)⟩
theorem lw_p71 : lw_okq (⟨"ColourDuelModel", "together", "(II)I"⟩, 22) := ⟨⟨by decide +kernel, by decide +kernel⟩, List.mem_of_getElem? (i := 947) (by decide +kernel), List.mem_of_getElem? (i := 1251) (by decide +kernel), List.mem_of_getElem? (i := 1252) (by decide +kernel)⟩
theorem lw_p72 : lw_okq (⟨"ColourDuelModel", "valueNow", "()I"⟩, 22) := ⟨⟨by decide +kernel, by decide +kernel⟩, List.mem_of_getElem? (i := 947) (by decide +kernel), List.mem_of_getElem? (i := 1259) (by decide +kernel), List.mem_of_getElem? (i := 1260) (by decide +kernel)⟩
theorem lw_p73 : lw_okq (⟨"ColourDuelModel", "board", "()I"⟩, 22) := ⟨⟨by decide +kernel, by decide +kernel⟩, List.mem_of_getElem? (i := 947) (by decide +kernel), List.mem_of_getElem? (i := 1263) (by decide +kernel), List.mem_of_getElem? (i := 1264) (by decide +kernel)⟩
theorem lw_p74 : lw_okq (⟨"ColourDuelModel", "boardIf", "(II)I"⟩, 22) := ⟨⟨by decide +kernel, by decide +kernel⟩, List.mem_of_getElem? (i := 947) (by decide +kernel), List.mem_of_getElem? (i := 1271) (by decide +kernel), List.mem_of_getElem? (i := 1272) (by decide +kernel)⟩
theorem lw_p75 : lw_okq (⟨"ColourDuelModel", "passWins", "()Z"⟩, 22) := ⟨⟨by decide +kernel, by decide +kernel⟩, List.mem_of_getElem? (i := 947) (by decide +kernel), List.mem_of_getElem? (i := 1279) (by decide +kernel), List.mem_of_getElem? (i := 1280) (by decide +kernel)⟩
theorem lw_p76 : lw_okq (⟨"ColourDuelModel", "winningOn", "(I)I"⟩, 22) := ⟨⟨by decide +kernel, by decide +kernel⟩, List.mem_of_getElem? (i := 947) (by decide +kernel), List.mem_of_getElem? (i := 1283) (by decide +kernel), List.mem_of_getElem? (i := 1284) (by decide +kernel)⟩
theorem lw_p77 : lw_okq (⟨"ColourDuelModel", "best", "()I"⟩, 22) := ⟨⟨by decide +kernel, by decide +kernel⟩, List.mem_of_getElem? (i := 947) (by decide +kernel), List.mem_of_getElem? (i := 1295) (by decide +kernel), List.mem_of_getElem? (i := 1296) (by decide +kernel)⟩
theorem lw_p78 : lw_okq (⟨"ColourDuelModel", "moved", "(II)I"⟩, 22) := ⟨⟨by decide +kernel, by decide +kernel⟩, List.mem_of_getElem? (i := 947) (by decide +kernel), List.mem_of_getElem? (i := 1339) (by decide +kernel), List.mem_of_getElem? (i := 1340) (by decide +kernel)⟩
theorem lw_p79 : lw_okq (⟨"ColourDuelModel", "counts", "(II)Z"⟩, 22) := ⟨⟨by decide +kernel, by decide +kernel⟩, List.mem_of_getElem? (i := 947) (by decide +kernel), List.mem_of_getElem? (i := 1347) (by decide +kernel), List.mem_of_getElem? (i := 1348) (by decide +kernel)⟩
def lw_privs_5 : List (MethodName × Nat) := [(⟨"ColourDuelModel", "isColour", "(I)Z"⟩, 22), (⟨"ColourDuelModel", "partSet", "(I)I"⟩, 22), (⟨"ColourDuelModel", "pairsIn", "(I)I"⟩, 22), (⟨"ColourDuelModel", "ofPart", "(III)I"⟩, 22), (⟨"ColourDuelModel", "forgets", "()V"⟩, 22), (⟨"ColourDuelModel", "knownOf", "(II)I"⟩, 22), (⟨"ColourDuelModel", "placeOf", "(II)I"⟩, 22), (⟨"ColourDuelModel", "together", "(II)I"⟩, 22), (⟨"ColourDuelModel", "valueNow", "()I"⟩, 22), (⟨"ColourDuelModel", "board", "()I"⟩, 22), (⟨"ColourDuelModel", "boardIf", "(II)I"⟩, 22), (⟨"ColourDuelModel", "passWins", "()Z"⟩, 22), (⟨"ColourDuelModel", "winningOn", "(I)I"⟩, 22), (⟨"ColourDuelModel", "best", "()I"⟩, 22), (⟨"ColourDuelModel", "moved", "(II)I"⟩, 22), (⟨"ColourDuelModel", "counts", "(II)Z"⟩, 22)]
theorem lw_r5 : ∀ q ∈ lw_privs_5, lw_okq q := List.forall_mem_cons.mpr ⟨lw_p64, List.forall_mem_cons.mpr ⟨lw_p65, List.forall_mem_cons.mpr ⟨lw_p66, List.forall_mem_cons.mpr ⟨lw_p67, List.forall_mem_cons.mpr ⟨lw_p68, List.forall_mem_cons.mpr ⟨lw_p69, List.forall_mem_cons.mpr ⟨lw_p70, List.forall_mem_cons.mpr ⟨lw_p71, List.forall_mem_cons.mpr ⟨lw_p72, List.forall_mem_cons.mpr ⟨lw_p73, List.forall_mem_cons.mpr ⟨lw_p74, List.forall_mem_cons.mpr ⟨lw_p75, List.forall_mem_cons.mpr ⟨lw_p76, List.forall_mem_cons.mpr ⟨lw_p77, List.forall_mem_cons.mpr ⟨lw_p78, List.forall_mem_cons.mpr ⟨lw_p79, fun _ h => absurd h List.not_mem_nil⟩⟩⟩⟩⟩⟩⟩⟩⟩⟩⟩⟩⟩⟩⟩⟩
theorem lw_p80 : lw_okq (⟨"ColourDuelModel", "says", "(I)V"⟩, 22) := ⟨⟨by decide +kernel, by decide +kernel⟩, List.mem_of_getElem? (i := 947) (by decide +kernel), List.mem_of_getElem? (i := 1355) (by decide +kernel), List.mem_of_getElem? (i := 1356) (by decide +kernel)⟩
def lw_privs_6 : List (MethodName × Nat) := [(⟨"ColourDuelModel", "says", "(I)V"⟩, 22)]
theorem lw_r6 : ∀ q ∈ lw_privs_6, lw_okq q := List.forall_mem_cons.mpr ⟨lw_p80, fun _ h => absurd h List.not_mem_nil⟩
def lw_privs : List (MethodName × Nat) := lw_privs_1 ++ (lw_privs_2 ++ (lw_privs_3 ++ (lw_privs_4 ++ (lw_privs_5 ++ (lw_privs_6)))))
def lw_tbl : List Cond := k2_sels lw_privs ++ tables_1
theorem lw_privs_ok : ∀ q ∈ lw_privs, lw_okq q := by
  show ∀ q ∈ lw_privs_1 ++ (lw_privs_2 ++ (lw_privs_3 ++ (lw_privs_4 ++ (lw_privs_5 ++ (lw_privs_6))))), lw_okq q
  exact List.forall_mem_append.mpr ⟨lw_r1, List.forall_mem_append.mpr ⟨lw_r2, List.forall_mem_append.mpr ⟨lw_r3, List.forall_mem_append.mpr ⟨lw_r4, List.forall_mem_append.mpr ⟨lw_r5, lw_r6⟩⟩⟩⟩⟩
/-- the streams that the claim lets the run draw from -/
abbrev lw_cs : List Choice := [Jvm.Choice.named "NaN.bits"]
theorem lw_bits : nanBits ∈ lw_cs := by first | decide | exact List.mem_cons_self | simp [lw_cs, nanBits]
end
section
/-! ===== BEGIN words of one list among another's, by their places ===== -/
theorem goodIn_r {big : List Cond} (ws : List Cond) (ps : List Nat) (hp : ws = ps.filterMap (fun i => big[i]?)) (h : ws.all goodWord = true) : GoodIn big ws := by
  intro w hw
  have h1 := List.all_eq_true.mp h w hw
  rw [hp] at hw
  obtain ⟨i, -, hi⟩ := List.mem_filterMap.mp hw
  have hm : w ∈ big := by first | exact List.mem_of_getElem? hi | exact List.getElem?_mem hi
  exact ⟨hm, good_of_word h1⟩
theorem goodIn_app {big a b : List Cond} (ha : GoodIn big a) (hb : GoodIn big b) : GoodIn big (a ++ b) := fun w h => (List.mem_append.mp h).elim (ha w) (hb w)
theorem goodIn_ca {big a b : List Cond} {c : Cond} (ha : GoodIn big (c :: a)) (hb : GoodIn big b) : GoodIn big (c :: (a ++ b)) := fun w h => (List.mem_cons.mp h).elim (fun e => ha w (List.mem_cons.mpr (Or.inl e))) (fun h => (List.mem_append.mp h).elim (fun h => ha w (List.mem_cons.mpr (Or.inr h))) (hb w))
theorem goodIn_sub {big ws : List Cond} (hm : ∀ w ∈ ws, w ∈ big) (h : ws.all goodWord = true) : GoodIn big ws := fun w hw => ⟨hm w hw, good_of_word (List.all_eq_true.mp h w hw)⟩
/-! ===== END ===== -/

/-! ===== BEGIN exceptions that leave a method, and their catching by the caller (launches without stack traces) ===== -/
section VXA
/-! The laws vx_back, vx_callV, vx_callS, vx_callSW, vx_throw0, vx_throwS follow proofs of the library, with one case more: JvmDerived/Free/Laws.lean (Back.of_free), Shelf42/LK1.lean (callV, callS), Shelf/KitTraced.lean (throwNew0V, throwNewS). -/
/-- where a method has thrown q: the class by its name, the cell, what was written, the world -/
def vx_T (XC : String → State → State → Prop) (st : State) (q : Addr) (t : State) (mc ms : Nat) (free : Addr → Prop) : Prop :=
  ∃ (E : String) (ce : Cell) (L : List Loc), XC E st t ∧ t.heap[q]? = some ce ∧ ce.vm = .none ∧ st.vm.findClass E = some ce.cls ∧ st.WarmedH t.vm ∧ st.sameButNew ({ t with vm := st.vm } : State) L mc ms ∧ ∀ z ∈ L, free z.base
def vx_Q (Qc : Array Value → State → Outcome → State → Prop) (XC : String → State → State → Prop) (mc ms : Nat) (free : Addr → Prop) : Array Value → State → Outcome → State → Prop := fun a st o t =>
  (Qc a st o t ∧ ∃ L, FrameEnd st o t L mc ms ∧ ∀ q ∈ L, free q.base) ∨ ∃ q, o = .threw q ∧ vx_T XC st q t mc ms free
/-- a callee that returns or throws -/
def vx_Met (l : Launch) (y : MethodName) (ws : List Cond) (rm : Room) (Pc : Array Value → State → Prop) (Qc : Array Value → State → Outcome → State → Prop) (XC : String → State → State → Prop) (mc ms : Nat) (free : Addr → Prop) : Prop :=
  MetFree l y (headSpec ws rm) Pc (fun _ _ _ _ _ => True) (vx_Q Qc XC mc ms free)
def vx_Post (XC : String → State → State → Prop) (mc ms : Nat) (free : Addr → Prop) : Pt → Array Value → Addr → Pt → Prop := fun A a q B =>
  ∃ (g : JFrame) (mk : MethodId) (t : State) (L : List Loc) (E : String) (ce : Cell), B.U.heap = t.heap ∧ B.U.vm = t.vm ∧ XC E (A.U.calling g mk a) t ∧ t.heap[q]? = some ce ∧ ce.vm = .none ∧ A.U.vm.findClass E = some ce.cls ∧ B.locs = A.locs ++ L ∧ (∀ z ∈ L, free z.base) ∧ B.cells = A.cells + mc ∧ B.slots = A.slots + ms
def vx_Back (l : Launch) (R : Room) (p : Program) (e : Env) (below : List Frame) (s : State) (sargs : Array Value) (y : MethodName) (len W9 : Nat)
    (Pre : Pt → Array Value → Prop) (Post : Pt → Array Value → Option Value → Pt → Prop) (PostX : Pt → Array Value → Addr → Pt → Prop) : Prop :=
  ∀ (m : MethodId) (meth : Method) (c : Code) (A : Pt) (g : JFrame) (ig : Instr) (mk : MethodId) (a : Array Value),
    Stand p l e R s m sargs below meth c A.U A.locs A.cells A.slots → g.method = m → g.locals.size = c.maxLocals → decode c.code g.pc = .ok (ig, len) →
    2 * g.monitorRoom + (g.stack.map fun v => v.category).sum ≤ W9 → A.U.methodNamed? y = some mk → Pre A a →
    (∃ (v : Option Value) (B : Pt), Stand p l e R s m sargs below meth c B.U B.locs B.cells B.slots ∧ Post A a v B ∧
      Steps p.tables e below (doInvoke e (A.U.setTop g) [] mk a).1 (B.U.setTop { g with pc := g.pc + len, stack := v.toList ++ g.stack })) ∨
    (∃ (q : Addr) (B : Pt), Stand p l e R s m sargs below meth c B.U B.locs B.cells B.slots ∧ PostX A a q B ∧
      Steps p.tables e below (doInvoke e (A.U.setTop g) [] mk a).1 ((B.U.setTop g).pushFrame (.throwing q)))
section Payer
variable {l : Launch} {R : Room} {p : Program} {e : Env} {below : List Frame} {s : State} {sargs : Array Value} {y : MethodName} {len W9 : Nat}
theorem vx_back {ws : List Cond} {rm : Room} {Pc : Array Value → State → Prop} {Qc : Array Value → State → Outcome → State → Prop} {XC : String → State → State → Prop} {mc ms : Nat} {free : Addr → Prop} {bytes : ByteArray} {maxL : Nat} {ret : Option FieldType}
    (hM : vx_Met l y ws rm Pc Qc XC mc ms free) (hblind : FrameBlind Pc) (hrc : rm.cells = mc) (hrs : rm.slots = ms)
    (hframes : rm.frames + 1 ≤ R.frames) (hlocals : W9 + (maxL + 11) + rm.locals ≤ R.locals)
    (hws : ∀ w ∈ ws, ∀ a' U, s.WarmedH U.vm → w.before a' U = true) (hcode : Cond.code y bytes maxL ret ∈ ws) (hinit : ∀ a' U, s.WarmedH U.vm → (Cond.initialized y.cls).before a' U = true) :
    vx_Back l R p e below s sargs y len W9 (PreOf R mc ms Pc) (PostOf Qc mc ms free) (vx_Post XC mc ms free) := by
  intro m meth c A g ig mk a X hg hsize hdg hW hn hp
  have h1 : (headSpec ws rm).pre.before a A.U = true := atoms_intro fun w hw => hws w hw _ _ X.warmed
  have h2 : (Cond.code y bytes maxL ret).before a A.U = true := hws _ hcode _ _ X.warmed
  have h3 : (Cond.initialized y.cls).before a A.U = true := hinit _ _ X.warmed
  have h4 : A.cells + (headSpec ws rm).room.cells ≤ R.cells := by rw [show (headSpec ws rm).room.cells = mc from hrc]; exact hp.1
  have h5 : A.slots + (headSpec ws rm).room.slots ≤ R.slots := by rw [show (headSpec ws rm).room.slots = ms from hrs]; exact hp.2.1
  have hPc : Pc a (A.U.calling g mk a) := hblind _ _ _ _ hp.2.2
  obtain ⟨U, Ls, c0, s0⟩ := A
  dsimp only [Pt.U, Pt.locs, Pt.cells, Pt.slots] at h1 h2 h3 h4 h5 X hn hPc ⊢
  obtain ⟨methY, cY, hmY, hcY, -, hlY, -, -, -, -⟩ := Cond.code_spec hn h2
  obtain ⟨kY, hkY, -⟩ := className_of_methodNamed hn
  have hinitY : kY.init = .initialized := Cond.initialized_spec (findClass_of_methodNamed hn) hkY h3
  have h : At U g.method c below := by rw [hg]; exact X.here
  have hlocals9 : W9 + (maxL + 11) + (headSpec ws rm).room.locals ≤ R.locals := hlocals
  have happ : (headSpec ws rm).appliesLoose y e.platform (U.calling g mk a) = true :=
    Spec.appliesLoose_calling (g := g) h hdg hn hkY hinitY
      (X.room_calling (g := g) (R' := (headSpec ws rm).room) hsize hmY hcY hframes (by rw [hlY]; omega) h4 h5) h1
  obtain ⟨mid, hmid⟩ := h.above
  have hfr : (U.setTop g).frames = (.java g :: mid) ++ below := by rw [State.frames_setTop' g h.top, hmid]; rfl
  obtain ⟨o, s₂, hsteps, -, hend, hq⟩ := Steps.callFree hM p X.admits X.cas X.clock (acts := []) hfr happ hPc trivial
  have hq' : vx_Q Qc XC mc ms free a (U.calling g mk a) o s₂ := hq
  rw [State.frames_setTop' g h.top] at hend
  obtain ⟨g₀, hg0⟩ := Option.isSome_iff_exists.mp h.top
  obtain ⟨r, hr⟩ := State.topJava?_eq_some.mp hg0
  have hr' : (({ U with heap := s₂.heap, slotsUsed := s₂.slotsUsed } : State).setVm s₂.vm).frames = .java g₀ :: r := hr
  rcases hq' with ⟨hqc, L, hfe, hL⟩ | ⟨q, rfl, E, ce, L, hx, hce, hcv, hcl, hW₂, hsm, hL⟩
  · obtain ⟨⟨v, rfl⟩, hW₂, e2, q2, q3, q4, q5, q6⟩ := id hfe
    have e3 : s₂ = ({ (U.calling g mk a).setFrames s₂.frames with heap := s₂.heap, slotsUsed := s₂.slotsUsed } : State).setVm s₂.vm := by
      have : s₂ = ({ s₂ with vm := (U.calling g mk a).vm } : State).setVm s₂.vm := rfl
      rw [e2] at this
      exact this
    obtain ⟨c₂, i₂, len₂, hc₂, hd₂, hf₂⟩ := hend
    have hW' : U.WarmedH s₂.vm := hW₂
    have hcc : c₂ = c := by
      have h1 : s₂.code? g.method = U.code? g.method := by
        rw [State.code?_eq, State.code?_eq, hW'.alike.method?]
      exact Option.some.inj (hc₂.symm.trans (h1.trans h.code))
    subst hcc
    have hlen : len₂ = len := by rw [hdg] at hd₂; cases hd₂; rfl
    subst hlen
    have hs₂ : s₂ = (({ U with heap := s₂.heap, slotsUsed := s₂.slotsUsed } : State).setVm s₂.vm).setTop { g with pc := g.pc + len₂, stack := v.toList ++ g.stack } := by
      refine e3.trans ?_
      rw [hf₂, State.calling_eq h.top, State.setFrames_setFrames, State.setTop_of_frames _ hr', hr]
      rfl
    have hsame : U.sameButNew ({ U with heap := s₂.heap, slotsUsed := s₂.slotsUsed } : State) L mc ms := by
      refine ⟨?_, q2, q3, q4, q5, q6⟩
      obtain ⟨t, ht, -⟩ := State.frames_cons hr
      show ({ U with heap := s₂.heap, slotsUsed := s₂.slotsUsed } : State) = { U.setFrames U.frames with heap := s₂.heap, slotsUsed := s₂.slotsUsed }
      rw [State.setFrames_self ht]
    subst hg
    refine Or.inl ⟨v, ⟨(({ U with heap := s₂.heap, slotsUsed := s₂.slotsUsed } : State).setVm s₂.vm), Ls ++ L, c0 + mc, s0 + ms⟩,
      ⟨X.admits, X.cas, X.clock, X.frames, X.room, X.hears, X.method, X.code, (X.here.setHeapUsed s₂.heap s₂.slotsUsed).setVm hW'.alike, X.tail, State.WarmedH.trans X.warmed hW', X.limits, X.bytes, X.same.trans (hsame.setVm s.vm)⟩,
      ⟨g, mk, s₂, L, rfl, rfl, hqc, rfl, hL, rfl, rfl⟩, ?_⟩
    show Steps p.tables e below _ ((({ U with heap := s₂.heap, slotsUsed := s₂.slotsUsed } : State).setVm s₂.vm).setTop { g with pc := g.pc + len₂, stack := v.toList ++ g.stack })
    rw [← hs₂]
    exact hsteps
  · obtain ⟨e2, q2, q3, q4, q5, q6⟩ := id hsm
    have e3 : s₂ = ({ (U.calling g mk a).setFrames s₂.frames with heap := s₂.heap, slotsUsed := s₂.slotsUsed } : State).setVm s₂.vm := by
      have : s₂ = ({ s₂ with vm := (U.calling g mk a).vm } : State).setVm s₂.vm := rfl
      rw [e2] at this
      exact this
    have hf₂ : s₂.frames = .throwing q :: .java g :: U.frames.tail := hend
    have hW' : U.WarmedH s₂.vm := hW₂
    have hs₂ : s₂ = ((({ U with heap := s₂.heap, slotsUsed := s₂.slotsUsed } : State).setVm s₂.vm).setTop g).pushFrame (.throwing q) := by
      refine e3.trans ?_
      rw [hf₂, State.calling_eq h.top, State.setFrames_setFrames, State.pushFrame, State.frames_setTop _ hr', State.setTop_of_frames _ hr', State.setFrames_setFrames, hr]
      rfl
    have hsame : U.sameButNew ({ U with heap := s₂.heap, slotsUsed := s₂.slotsUsed } : State) L mc ms := by
      refine ⟨?_, q2, q3, q4, q5, q6⟩
      obtain ⟨t, ht, -⟩ := State.frames_cons hr
      show ({ U with heap := s₂.heap, slotsUsed := s₂.slotsUsed } : State) = { U.setFrames U.frames with heap := s₂.heap, slotsUsed := s₂.slotsUsed }
      rw [State.setFrames_self ht]
    subst hg
    refine Or.inr ⟨q, ⟨(({ U with heap := s₂.heap, slotsUsed := s₂.slotsUsed } : State).setVm s₂.vm), Ls ++ L, c0 + mc, s0 + ms⟩,
      ⟨X.admits, X.cas, X.clock, X.frames, X.room, X.hears, X.method, X.code, (X.here.setHeapUsed s₂.heap s₂.slotsUsed).setVm hW'.alike, X.tail, State.WarmedH.trans X.warmed hW', X.limits, X.bytes, X.same.trans (hsame.setVm s.vm)⟩,
      ⟨g, mk, s₂, L, E, ce, rfl, rfl, hx, hce, hcv, hcl, rfl, hL, rfl, rfl⟩, ?_⟩
    show Steps p.tables e below _ (((({ U with heap := s₂.heap, slotsUsed := s₂.slotsUsed } : State).setVm s₂.vm).setTop g).pushFrame (.throwing q))
    rw [← hs₂]
    exact hsteps
end Payer
section Calls
variable {p : Program} {l : Launch} {e : Env} {R : Room} {s : State} {m : MethodId} {args : Array Value} {below : List Frame} {meth : Method} {c : Code} {T : State} {locs : List Loc} {cells slots : Nat}
theorem vx_callV (X : Stand p l e R s m args below meth c T locs cells slots) (hexec : p.tables.exec = Jvm.exec) {own C : String} {index : Nat} {y : MethodName} {bytes : ByteArray} {maxL : Nat} {ret : Option FieldType}
    (hown : s.vm.findClass own = some m.cls) (hlink : (Cond.methodLink own index y).before args s = true) (hinst : (Cond.instanceMethod y).before args s = true) (hsel : (Cond.selects C y y).before args s = true)
    (hcode : (Cond.code y bytes maxL ret).before args s = true) (hy : y.cls ≠ "java/lang/invoke/MethodHandle" ∧ y.cls ≠ "java/lang/invoke/VarHandle")
    {W9 : Nat} {Pre : Pt → Array Value → Prop} {Post : Pt → Array Value → Option Value → Pt → Prop} {PostX : Pt → Array Value → Addr → Pt → Prop} (hK : vx_Back l R p e below s args y 3 W9 Pre Post PostX)
    {b : Addr} {cellB : Cell} (hcell : T.heap[b]? = some cellB) (hobj : cellB.vm.isStatics = false) (hcls : s.vm.findClass C = some cellB.cls)
    {g : JFrame} (hg : g.method = m) (hsize : g.locals.size = c.maxLocals) {argsL rest : List Value} (hlen : ∀ sig, parseMethodDescriptor y.desc = some sig → argsL.length = sig.parameters.length)
    (hstack : g.stack = argsL.reverse ++ .ref b :: rest) (hW : 2 * g.monitorRoom + (rest.map fun v => v.category).sum ≤ W9) (hdg : decode c.code g.pc = .ok (.invokevirtual index, 3))
    (hpre : ∀ vm₁, s.WarmedH vm₁ → Pre ⟨T.setVm vm₁, locs, cells, slots⟩ (Value.ref b :: argsL).toArray) :
    (∃ (v : Option Value) (vm₁ : Vm) (B : Pt), s.WarmedH vm₁ ∧ Stand p l e R s m args below meth c B.U B.locs B.cells B.slots ∧ Post ⟨T.setVm vm₁, locs, cells, slots⟩ (Value.ref b :: argsL).toArray v B ∧
      ∀ target, Steps p.tables e below (B.U.setTop { g with pc := g.pc + 3, stack := v.toList ++ rest }) target → Steps p.tables e below (T.setTop g) target) ∨
    (∃ (q : Addr) (vm₁ : Vm) (B : Pt), s.WarmedH vm₁ ∧ Stand p l e R s m args below meth c B.U B.locs B.cells B.slots ∧ PostX ⟨T.setVm vm₁, locs, cells, slots⟩ (Value.ref b :: argsL).toArray q B ∧
      Steps p.tables e below (T.setTop g) ((B.U.setTop { g with stack := rest }).pushFrame (.throwing q))) := by
  obtain ⟨mk, methM, hnamed, hmethM, hstM, habM⟩ := Cond.instanceMethod_spec hinst
  obtain ⟨methM', cM, hmethM', -, -, -, -, -, -, hsigM⟩ := Cond.code_spec hnamed hcode
  cases hmethM.symm.trans hmethM'
  obtain ⟨c2, r2, m2, q1, q2, q3, q4, kP, hkP, hkPi⟩ := Cond.selects_spec hsel
  cases hcls.symm.trans q1
  cases (State.methodFound?_of_named hnamed hy).symm.trans q2
  cases hnamed.symm.trans q3
  have hselP : selectMethod e.platform s.vm cellB.cls mk = .method mk := by rw [Launch.admits_selectMethod X.admits]; exact q4
  obtain ⟨vm₁, X₁, hstep₁⟩ := X.invokevirtual hexec hown hlink hnamed hmethM hstM hkP hkPi hy (a := b) (cell := cellB) hcell
    (fun z h => by rw [h] at hobj; cases hobj) hselP hmethM habM hkP hkPi (g := g) hg (argsL := argsL) (rest := rest) (hlen _ hsigM) hstack hdg
  rcases hK m meth c ⟨T.setVm vm₁, locs, cells, slots⟩ { g with stack := rest } (.invokevirtual index) mk (Value.ref b :: argsL).toArray X₁ hg hsize hdg hW (X₁.named hnamed) (hpre vm₁ X₁.warmed) with ⟨v, B, X', hpost, hsteps⟩ | ⟨q, B, X', hpost, hsteps⟩
  · exact Or.inl ⟨v, vm₁, B, X₁.warmed, X', hpost, fun target h => hstep₁ _ fun acts => by rw [doInvoke_state]; exact hsteps.trans h⟩
  · exact Or.inr ⟨q, vm₁, B, X₁.warmed, X', hpost, hstep₁ _ fun acts => by rw [doInvoke_state]; exact hsteps⟩
theorem vx_callS (X : Stand p l e R s m args below meth c T locs cells slots) (hexec : p.tables.exec = Jvm.exec) {own : String} {index : Nat} {y : MethodName} {bytes : ByteArray} {maxL : Nat} {ret : Option FieldType}
    (hown : s.vm.findClass own = some m.cls) (hlink : (Cond.methodLink own index y).before args s = true) (hstat : (Cond.static y).before args s = true) (hinit : (Cond.initialized y.cls).before args s = true)
    (hcode : (Cond.code y bytes maxL ret).before args s = true) (hy : y.cls ≠ "java/lang/invoke/MethodHandle" ∧ y.cls ≠ "java/lang/invoke/VarHandle")
    {W9 : Nat} {Pre : Pt → Array Value → Prop} {Post : Pt → Array Value → Option Value → Pt → Prop} {PostX : Pt → Array Value → Addr → Pt → Prop} (hK : vx_Back l R p e below s args y 3 W9 Pre Post PostX)
    {g : JFrame} (hg : g.method = m) (hsize : g.locals.size = c.maxLocals) {argsL rest : List Value} (hlen : ∀ sig, parseMethodDescriptor y.desc = some sig → argsL.length = sig.parameters.length)
    (hstack : g.stack = argsL.reverse ++ rest) (hW : 2 * g.monitorRoom + (rest.map fun v => v.category).sum ≤ W9) (hdg : decode c.code g.pc = .ok (.invokestatic index, 3))
    (hpre : ∀ vm₁, s.WarmedH vm₁ → Pre ⟨T.setVm vm₁, locs, cells, slots⟩ argsL.toArray) :
    (∃ (v : Option Value) (vm₁ : Vm) (B : Pt), s.WarmedH vm₁ ∧ Stand p l e R s m args below meth c B.U B.locs B.cells B.slots ∧ Post ⟨T.setVm vm₁, locs, cells, slots⟩ argsL.toArray v B ∧
      ∀ target, Steps p.tables e below (B.U.setTop { g with pc := g.pc + 3, stack := v.toList ++ rest }) target → Steps p.tables e below (T.setTop g) target) ∨
    (∃ (q : Addr) (vm₁ : Vm) (B : Pt), s.WarmedH vm₁ ∧ Stand p l e R s m args below meth c B.U B.locs B.cells B.slots ∧ PostX ⟨T.setVm vm₁, locs, cells, slots⟩ argsL.toArray q B ∧
      Steps p.tables e below (T.setTop g) ((B.U.setTop { g with stack := rest }).pushFrame (.throwing q))) := by
  obtain ⟨mk, hnamed⟩ := Cond.code_named hcode
  obtain ⟨methM, cM, hmethM, -, -, -, -, -, -, hsigM⟩ := Cond.code_spec hnamed hcode
  have hstatic : methM.isStatic = true := Cond.static_spec hnamed hmethM hstat
  obtain ⟨kP, hkP, -⟩ := className_of_methodNamed hnamed
  have hinitP : kP.init = .initialized := Cond.initialized_spec (findClass_of_methodNamed hnamed) hkP hinit
  obtain ⟨vm₁, X₁, hstep₁⟩ := X.invokestatic hexec hown hlink hnamed hmethM hstatic hkP hinitP hy (g := g) hg (argsL := argsL) (rest := rest) (hlen _ hsigM) hstack hdg
  rcases hK m meth c ⟨T.setVm vm₁, locs, cells, slots⟩ { g with stack := rest } (.invokestatic index) mk argsL.toArray X₁ hg hsize hdg hW (X₁.named hnamed) (hpre vm₁ X₁.warmed) with ⟨v, B, X', hpost, hsteps⟩ | ⟨q, B, X', hpost, hsteps⟩
  · exact Or.inl ⟨v, vm₁, B, X₁.warmed, X', hpost, fun target h => hstep₁ _ fun acts => by rw [doInvoke_state]; exact hsteps.trans h⟩
  · exact Or.inr ⟨q, vm₁, B, X₁.warmed, X', hpost, hstep₁ _ fun acts => by rw [doInvoke_state]; exact hsteps⟩
end Calls
theorem vx_cls {s : State} {T : State} {vm₁ : Vm} {E : String} {k : ClassId} (hW : s.WarmedH vm₁) (h : (T.setVm vm₁).vm.findClass E = some k) : s.vm.findClass E = some k := by
  have h1 : vm₁.findClass E = some k := h
  rw [hW.alike.findClass] at h1
  exact h1
/-- the method's frame g, with q thrown over it -/
def vx_W (p : Program) (l : Launch) (e : Env) (R : Room) (s : State) (m : MethodId) (args : Array Value) (below : List Frame) (meth : Method) (c : Code) (H : Heap) (locs : List Loc) (cells slots : Nat) (Q : State → Prop) (g : JFrame) (q : Addr) : Prop :=
  ∀ T : State, T.heap = H → Stand p l e R s m args below meth c T locs cells slots → ∃ t, Steps p.tables e below ((T.setTop g).pushFrame (.throwing q)) t ∧ Q t
def vx_Run (p : Program) (l : Launch) (e : Env) (R : Room) (s : State) (m : MethodId) (args : Array Value) (below : List Frame) (meth : Method) (c : Code) (H : Heap) (locs : List Loc) (cells slots mc ms : Nat) (g : JFrame) (rest : List Value) (Qa : State → Outcome → State → Prop) (XC : String → State → State → Prop) (free : Addr → Prop) : Prop :=
  ∀ T : State, T.heap = H → Stand p l e R s m args below meth c T locs cells slots →
    (∃ (v : Option Value) (st₀ t T' : State) (L : List Loc), st₀.heap = H ∧ Stand p l e R s m args below meth c T' (locs ++ L) (cells + mc) (slots + ms) ∧ (∀ q ∈ L, free q.base) ∧ T'.heap = t.heap ∧ T'.vm = t.vm ∧ Qa st₀ (.returned v) t ∧
      Goes p e below T g T' { g with pc := g.pc + 3, stack := v.toList ++ rest }) ∨
    (∃ (q : Addr) (st₀ t T' : State) (L : List Loc) (E : String) (ce : Cell), st₀.heap = H ∧ Stand p l e R s m args below meth c T' (locs ++ L) (cells + mc) (slots + ms) ∧ (∀ z ∈ L, free z.base) ∧ T'.heap = t.heap ∧ T'.vm = t.vm ∧ XC E st₀ t ∧ t.heap[q]? = some ce ∧ ce.vm = .none ∧ s.vm.findClass E = some ce.cls ∧
      Steps p.tables e below (T.setTop g) ((T'.setTop { g with stack := rest }).pushFrame (.throwing q)))
def vx_X {S : Type} (px : S → Prop) (B : String → S → State → Prop) (A : Nat → Prop) : String → State → State → Prop := fun E st t => ∃ u : S, px u ∧ B E u t ∧ va_F A st t
section Runs
variable {p : Program} {l : Launch} {e : Env} {R : Room} {s : State} {m : MethodId} {args : Array Value} {below : List Frame} {meth : Method} {c : Code} {H : Heap} {locs : List Loc} {cells slots : Nat}
variable {y : MethodName} {bytes cc : ByteArray} {maxL nL mc ms n index : Nat} {ret : Option FieldType} {ws : List Cond} {rm : Room} {Pc : Array Value → State → Prop} {Qc : Array Value → State → Outcome → State → Prop} {XC : String → State → State → Prop} {free : Addr → Prop} {Ts : List Cond} {own C : String} {b : Addr} {As rest : List Value} {g : JFrame}
theorem vx_callBack (cb : CallB R s args own index y bytes maxL ret ws rm mc ms n) (hM : vx_Met l y ws rm Pc Qc XC mc ms free) (hbl : FrameBlind Pc) : vx_Back l R p e below s args y 3 8 (PreOf R mc ms Pc) (PostOf Qc mc ms free) (vx_Post XC mc ms free) := by
  obtain ⟨hrc, hrs, hfr, hlo, hws, hcw, -, hini, -⟩ := cb
  exact vx_back (bytes := bytes) (maxL := maxL) (ret := ret) hM hbl hrc hrs hfr hlo hws hcw (fun a' U hW => word_at hW (Or.inl (by first | rfl | simp [Cond.onTables, Cond.keeps, Cond.steady])) hini)
theorem vx_runV (S : CallFix p m c cc nL s args Ts own) (hM : vx_Met l y ws rm Pc Qc XC mc ms free) (cw : CallW R s args own C index y bytes maxL ret ws rm mc ms n) (hp : PreV s H C b Pc As)
    (hg : g.method = m) (hn : As.length = n) (hsize : g.locals.size = nL) (hstack : g.stack = As.reverse ++ .ref b :: rest) (hW : 2 * g.monitorRoom + (rest.map fun v => v.category).sum ≤ 8) (hdg : decode cc g.pc = .ok (.invokevirtual index, 3)) (hf : cells + mc ≤ R.cells ∧ slots + ms ≤ R.slots) :
    vx_Run p l e R s m args below meth c H locs cells slots mc ms g rest (Qc (Value.ref b :: As).toArray) XC free := by
  have hK : vx_Back l R p e below s args y 3 8 (PreOf R mc ms Pc) (PostOf Qc mc ms free) (vx_Post XC mc ms free) := vx_callBack cw.1 hM hp.1
  obtain ⟨⟨-, -, -, -, -, -, hcode, -, hy, hlen, hl⟩, hin, hse⟩ := cw
  obtain ⟨hx, hb, hml, ho, -⟩ := S
  obtain ⟨-, ⟨cellB, hcB, hoB, hclB⟩, hPc⟩ := hp
  intro T hT X
  rcases vx_callV X hx (C := C) (bytes := bytes) (maxL := maxL) (ret := ret) ho hl hin hse hcode hy hK (by rw [hT]; exact hcB) hoB hclB hg (hsize.trans hml.symm) (argsL := As) (rest := rest) (fun sig h => hn.trans (hlen sig h)) hstack hW (by rw [hb]; exact hdg)
    (fun vm₁ hW₁ => ⟨hf.1, hf.2, hPc (T.setVm vm₁) hT hW₁⟩) with ⟨v, vm₁, ⟨U', l2, c2, s2⟩, hW₁, X', ⟨g', mk, t, L, e1, e2, hq, h1, hL, h2, h3⟩, st⟩ | ⟨q, vm₁, ⟨U', l2, c2, s2⟩, hW₁, X', ⟨g', mk, t, L, E, ce, e1, e2, hq, hce, hcv, hcl, h1, hL, h2, h3⟩, st⟩
  · dsimp only [Pt.U, Pt.locs, Pt.cells, Pt.slots] at X' e1 e2 h1 h2 h3 st
    subst h1; subst h2; subst h3
    exact Or.inl ⟨v, (T.setVm vm₁).calling g' mk (Value.ref b :: As).toArray, t, U', L, hT, X', hL, e1, e2, hq, st⟩
  · dsimp only [Pt.U, Pt.locs, Pt.cells, Pt.slots] at X' e1 e2 h1 h2 h3 st hcl
    subst h1; subst h2; subst h3
    exact Or.inr ⟨q, (T.setVm vm₁).calling g' mk (Value.ref b :: As).toArray, t, U', L, E, ce, hT, X', hL, e1, e2, hq, hce, hcv, vx_cls hW₁ hcl, st⟩
theorem vx_runS (S : CallFix p m c cc nL s args Ts own) (hM : vx_Met l y ws rm Pc Qc XC mc ms free) (cw : CallB R s args own index y bytes maxL ret ws rm mc ms n ∧ (Cond.static y).before args s = true) (hp : PreS s H Pc As)
    (hg : g.method = m) (hn : As.length = n) (hsize : g.locals.size = nL) (hstack : g.stack = As.reverse ++ rest) (hW : 2 * g.monitorRoom + (rest.map fun v => v.category).sum ≤ 8) (hdg : decode cc g.pc = .ok (.invokestatic index, 3)) (hf : cells + mc ≤ R.cells ∧ slots + ms ≤ R.slots) :
    vx_Run p l e R s m args below meth c H locs cells slots mc ms g rest (Qc As.toArray) XC free := by
  have hK : vx_Back l R p e below s args y 3 8 (PreOf R mc ms Pc) (PostOf Qc mc ms free) (vx_Post XC mc ms free) := vx_callBack cw.1 hM hp.1
  obtain ⟨⟨-, -, -, -, -, -, hcode, hini, hy, hlen, hl⟩, hstt⟩ := cw
  obtain ⟨hx, hb, hml, ho, -⟩ := S
  intro T hT X
  rcases vx_callS X hx (bytes := bytes) (maxL := maxL) (ret := ret) ho hl hstt hini hcode hy hK hg (hsize.trans hml.symm) (argsL := As) (rest := rest) (fun sig h => hn.trans (hlen sig h)) hstack hW (by rw [hb]; exact hdg)
    (fun vm₁ hW₁ => ⟨hf.1, hf.2, hp.2 (T.setVm vm₁) hT hW₁⟩) with ⟨v, vm₁, ⟨U', l2, c2, s2⟩, hW₁, X', ⟨g', mk, t, L, e1, e2, hq, h1, hL, h2, h3⟩, st⟩ | ⟨q, vm₁, ⟨U', l2, c2, s2⟩, hW₁, X', ⟨g', mk, t, L, E, ce, e1, e2, hq, hce, hcv, hcl, h1, hL, h2, h3⟩, st⟩
  · dsimp only [Pt.U, Pt.locs, Pt.cells, Pt.slots] at X' e1 e2 h1 h2 h3 st
    subst h1; subst h2; subst h3
    exact Or.inl ⟨v, (T.setVm vm₁).calling g' mk As.toArray, t, U', L, hT, X', hL, e1, e2, hq, st⟩
  · dsimp only [Pt.U, Pt.locs, Pt.cells, Pt.slots] at X' e1 e2 h1 h2 h3 st hcl
    subst h1; subst h2; subst h3
    exact Or.inr ⟨q, (T.setVm vm₁).calling g' mk As.toArray, t, U', L, E, ce, hT, X', hL, e1, e2, hq, hce, hcv, vx_cls hW₁ hcl, st⟩
end Runs
section Rows
variable {p : Program} {l : Launch} {e : Env} {R : Room} {s : State} {m : MethodId} {args : Array Value} {below : List Frame} {meth : Method} {c : Code} {H : Heap} {locs : List Loc} {cells slots : Nat} {Q : State → Prop}
variable {mc ms : Nat} {free : Addr → Prop} {A0 A1 : Nat → Prop} {H0 : Heap} {a : Array Value} {pc : Nat} {ls : Array Slot} {st0 rest : List Value}
theorem vx_keep {st₀ t T' : State} {L : List Loc} (h0 : st₀.heap = H) (e1 : T'.heap = t.heap) (hS : va_S A0 H0 H locs) (hA : ∀ q, q < H.size → A1 q → A0 q) (hf : ∀ q, free q → A0 q) (hL : ∀ q ∈ L, free q.base) (hF : va_F A1 st₀ t) :
    H.size ≤ T'.heap.size ∧ (∀ q : Nat, q < H.size → ¬ A1 q → T'.heap[q]? = H[q]?) ∧ va_S A0 H0 T'.heap (locs ++ L) := by
  obtain ⟨hz, hk⟩ := hF
  rw [h0] at hz hk
  exact ⟨by rw [e1]; exact hz, fun q h1 h2 => by rw [e1]; exact hk q h1 h2,
    ⟨Nat.le_trans hS.1 (by rw [e1]; exact hz), fun q h1 h2 => by rw [e1, hk q (Nat.lt_of_lt_of_le h1 hS.1) (fun z => h2 (hA q (Nat.lt_of_lt_of_le h1 hS.1) z))]; exact hS.2.1 q h1 h2, fun q hq => by
      rcases List.mem_append.mp hq with h | h
      · exact hS.2.2 q h
      · exact hf _ (hL q h)⟩⟩
theorem vx_calli {S SX : Type} {post : Int32 → S → Prop} {px : SX → Prop} {B : S → State → Prop} {BX : String → SX → State → Prop} {AX : Nat → Prop} (hr : vx_Run p l e R s m args below meth c H locs cells slots mc ms (F0 m pc ls st0) rest (va_Qi post B A1 a) (vx_X px BX AX) free) (hS : va_S A0 H0 H locs) (hA : ∀ q, q < H.size → A1 q → A0 q) (hf : ∀ q, free q → A0 q) (hAX : ∀ q, q < H.size → AX q → A0 q)
    (kx : ∀ (E : String) (ce : Cell) (q9 : Addr) (u : SX) (t : State) (H1 : Heap) (locs1 : List Loc), t.heap = H1 → s.vm.Alike t.vm → px u → BX E u t → H.size ≤ H1.size → (∀ q : Nat, q < H.size → ¬ AX q → H1[q]? = H[q]?) → va_S A0 H0 H1 locs1 → H1[q9]? = some ce → ce.vm = .none → s.vm.findClass E = some ce.cls → vx_W p l e R s m args below meth c H1 locs1 (cells + mc) (slots + ms) Q (F0 m pc ls rest) q9)
    (kk : ∀ (r : Int32) (u : S) (t : State) (H1 : Heap) (locs1 : List Loc), t.heap = H1 → s.vm.Alike t.vm → post r u → B u t → H.size ≤ H1.size → (∀ q : Nat, q < H.size → ¬ A1 q → H1[q]? = H[q]?) → va_S A0 H0 H1 locs1 → W p l e R s m args below meth c H1 locs1 (cells + mc) (slots + ms) Q (F0 m (pc + 3) ls (.int r :: rest))) : W p l e R s m args below meth c H locs cells slots Q (F0 m pc ls st0) := by
  intro T hT X
  rcases hr T hT X with ⟨v, st₀, t, T', L, h0, X', hL, e1, e2, ⟨⟨r, u, hv, hp, hb⟩, hF⟩, st⟩ | ⟨q, st₀, t, T', L, E, ce, h0, X', hL, e1, e2, ⟨u, hp, hb, hF⟩, hce, hcv, hcl, st⟩
  · cases hv
    obtain ⟨k1, k2, k3⟩ := vx_keep h0 e1 hS hA hf hL hF
    obtain ⟨t2, a1, b1⟩ := kk r u t T'.heap (locs ++ L) e1.symm (by rw [← e2]; exact X'.warmed.alike) hp hb k1 k2 k3 T' rfl X'
    exact ⟨t2, st t2 a1, b1⟩
  · obtain ⟨k1, k2, k3⟩ := vx_keep h0 e1 hS hAX hf hL hF
    obtain ⟨t2, a1, b1⟩ := kx E ce q u t T'.heap (locs ++ L) e1.symm (by rw [← e2]; exact X'.warmed.alike) hp hb k1 k2 k3 (by rw [e1]; exact hce) hcv hcl T' rfl X'
    exact ⟨t2, st.trans a1, b1⟩
theorem vx_calll {S SX : Type} {post : Int64 → S → Prop} {px : SX → Prop} {B : S → State → Prop} {BX : String → SX → State → Prop} {AX : Nat → Prop} (hr : vx_Run p l e R s m args below meth c H locs cells slots mc ms (F0 m pc ls st0) rest (va_Ql post B A1 a) (vx_X px BX AX) free) (hS : va_S A0 H0 H locs) (hA : ∀ q, q < H.size → A1 q → A0 q) (hf : ∀ q, free q → A0 q) (hAX : ∀ q, q < H.size → AX q → A0 q)
    (kx : ∀ (E : String) (ce : Cell) (q9 : Addr) (u : SX) (t : State) (H1 : Heap) (locs1 : List Loc), t.heap = H1 → s.vm.Alike t.vm → px u → BX E u t → H.size ≤ H1.size → (∀ q : Nat, q < H.size → ¬ AX q → H1[q]? = H[q]?) → va_S A0 H0 H1 locs1 → H1[q9]? = some ce → ce.vm = .none → s.vm.findClass E = some ce.cls → vx_W p l e R s m args below meth c H1 locs1 (cells + mc) (slots + ms) Q (F0 m pc ls rest) q9)
    (kk : ∀ (r : Int64) (u : S) (t : State) (H1 : Heap) (locs1 : List Loc), t.heap = H1 → s.vm.Alike t.vm → post r u → B u t → H.size ≤ H1.size → (∀ q : Nat, q < H.size → ¬ A1 q → H1[q]? = H[q]?) → va_S A0 H0 H1 locs1 → W p l e R s m args below meth c H1 locs1 (cells + mc) (slots + ms) Q (F0 m (pc + 3) ls (.long r :: rest))) : W p l e R s m args below meth c H locs cells slots Q (F0 m pc ls st0) := by
  intro T hT X
  rcases hr T hT X with ⟨v, st₀, t, T', L, h0, X', hL, e1, e2, ⟨⟨r, u, hv, hp, hb⟩, hF⟩, st⟩ | ⟨q, st₀, t, T', L, E, ce, h0, X', hL, e1, e2, ⟨u, hp, hb, hF⟩, hce, hcv, hcl, st⟩
  · cases hv
    obtain ⟨k1, k2, k3⟩ := vx_keep h0 e1 hS hA hf hL hF
    obtain ⟨t2, a1, b1⟩ := kk r u t T'.heap (locs ++ L) e1.symm (by rw [← e2]; exact X'.warmed.alike) hp hb k1 k2 k3 T' rfl X'
    exact ⟨t2, st t2 a1, b1⟩
  · obtain ⟨k1, k2, k3⟩ := vx_keep h0 e1 hS hAX hf hL hF
    obtain ⟨t2, a1, b1⟩ := kx E ce q u t T'.heap (locs ++ L) e1.symm (by rw [← e2]; exact X'.warmed.alike) hp hb k1 k2 k3 (by rw [e1]; exact hce) hcv hcl T' rfl X'
    exact ⟨t2, st.trans a1, b1⟩
theorem vx_callf {S SX : Type} {post : UInt32 → S → Prop} {px : SX → Prop} {B : S → State → Prop} {BX : String → SX → State → Prop} {AX : Nat → Prop} (hr : vx_Run p l e R s m args below meth c H locs cells slots mc ms (F0 m pc ls st0) rest (va_Qf post B A1 a) (vx_X px BX AX) free) (hS : va_S A0 H0 H locs) (hA : ∀ q, q < H.size → A1 q → A0 q) (hf : ∀ q, free q → A0 q) (hAX : ∀ q, q < H.size → AX q → A0 q)
    (kx : ∀ (E : String) (ce : Cell) (q9 : Addr) (u : SX) (t : State) (H1 : Heap) (locs1 : List Loc), t.heap = H1 → s.vm.Alike t.vm → px u → BX E u t → H.size ≤ H1.size → (∀ q : Nat, q < H.size → ¬ AX q → H1[q]? = H[q]?) → va_S A0 H0 H1 locs1 → H1[q9]? = some ce → ce.vm = .none → s.vm.findClass E = some ce.cls → vx_W p l e R s m args below meth c H1 locs1 (cells + mc) (slots + ms) Q (F0 m pc ls rest) q9)
    (kk : ∀ (r : UInt32) (u : S) (t : State) (H1 : Heap) (locs1 : List Loc), t.heap = H1 → s.vm.Alike t.vm → post r u → B u t → H.size ≤ H1.size → (∀ q : Nat, q < H.size → ¬ A1 q → H1[q]? = H[q]?) → va_S A0 H0 H1 locs1 → W p l e R s m args below meth c H1 locs1 (cells + mc) (slots + ms) Q (F0 m (pc + 3) ls (.float r :: rest))) : W p l e R s m args below meth c H locs cells slots Q (F0 m pc ls st0) := by
  intro T hT X
  rcases hr T hT X with ⟨v, st₀, t, T', L, h0, X', hL, e1, e2, ⟨⟨r, u, hv, hp, hb⟩, hF⟩, st⟩ | ⟨q, st₀, t, T', L, E, ce, h0, X', hL, e1, e2, ⟨u, hp, hb, hF⟩, hce, hcv, hcl, st⟩
  · cases hv
    obtain ⟨k1, k2, k3⟩ := vx_keep h0 e1 hS hA hf hL hF
    obtain ⟨t2, a1, b1⟩ := kk r u t T'.heap (locs ++ L) e1.symm (by rw [← e2]; exact X'.warmed.alike) hp hb k1 k2 k3 T' rfl X'
    exact ⟨t2, st t2 a1, b1⟩
  · obtain ⟨k1, k2, k3⟩ := vx_keep h0 e1 hS hAX hf hL hF
    obtain ⟨t2, a1, b1⟩ := kx E ce q u t T'.heap (locs ++ L) e1.symm (by rw [← e2]; exact X'.warmed.alike) hp hb k1 k2 k3 (by rw [e1]; exact hce) hcv hcl T' rfl X'
    exact ⟨t2, st.trans a1, b1⟩
theorem vx_calld {S SX : Type} {post : UInt64 → S → Prop} {px : SX → Prop} {B : S → State → Prop} {BX : String → SX → State → Prop} {AX : Nat → Prop} (hr : vx_Run p l e R s m args below meth c H locs cells slots mc ms (F0 m pc ls st0) rest (va_Qd post B A1 a) (vx_X px BX AX) free) (hS : va_S A0 H0 H locs) (hA : ∀ q, q < H.size → A1 q → A0 q) (hf : ∀ q, free q → A0 q) (hAX : ∀ q, q < H.size → AX q → A0 q)
    (kx : ∀ (E : String) (ce : Cell) (q9 : Addr) (u : SX) (t : State) (H1 : Heap) (locs1 : List Loc), t.heap = H1 → s.vm.Alike t.vm → px u → BX E u t → H.size ≤ H1.size → (∀ q : Nat, q < H.size → ¬ AX q → H1[q]? = H[q]?) → va_S A0 H0 H1 locs1 → H1[q9]? = some ce → ce.vm = .none → s.vm.findClass E = some ce.cls → vx_W p l e R s m args below meth c H1 locs1 (cells + mc) (slots + ms) Q (F0 m pc ls rest) q9)
    (kk : ∀ (r : UInt64) (u : S) (t : State) (H1 : Heap) (locs1 : List Loc), t.heap = H1 → s.vm.Alike t.vm → post r u → B u t → H.size ≤ H1.size → (∀ q : Nat, q < H.size → ¬ A1 q → H1[q]? = H[q]?) → va_S A0 H0 H1 locs1 → W p l e R s m args below meth c H1 locs1 (cells + mc) (slots + ms) Q (F0 m (pc + 3) ls (.double r :: rest))) : W p l e R s m args below meth c H locs cells slots Q (F0 m pc ls st0) := by
  intro T hT X
  rcases hr T hT X with ⟨v, st₀, t, T', L, h0, X', hL, e1, e2, ⟨⟨r, u, hv, hp, hb⟩, hF⟩, st⟩ | ⟨q, st₀, t, T', L, E, ce, h0, X', hL, e1, e2, ⟨u, hp, hb, hF⟩, hce, hcv, hcl, st⟩
  · cases hv
    obtain ⟨k1, k2, k3⟩ := vx_keep h0 e1 hS hA hf hL hF
    obtain ⟨t2, a1, b1⟩ := kk r u t T'.heap (locs ++ L) e1.symm (by rw [← e2]; exact X'.warmed.alike) hp hb k1 k2 k3 T' rfl X'
    exact ⟨t2, st t2 a1, b1⟩
  · obtain ⟨k1, k2, k3⟩ := vx_keep h0 e1 hS hAX hf hL hF
    obtain ⟨t2, a1, b1⟩ := kx E ce q u t T'.heap (locs ++ L) e1.symm (by rw [← e2]; exact X'.warmed.alike) hp hb k1 k2 k3 (by rw [e1]; exact hce) hcv hcl T' rfl X'
    exact ⟨t2, st.trans a1, b1⟩
theorem vx_callv {S SX : Type} {post : S → Prop} {px : SX → Prop} {B : S → State → Prop} {BX : String → SX → State → Prop} {AX : Nat → Prop} (hr : vx_Run p l e R s m args below meth c H locs cells slots mc ms (F0 m pc ls st0) rest (va_Qv post B A1 a) (vx_X px BX AX) free) (hS : va_S A0 H0 H locs) (hA : ∀ q, q < H.size → A1 q → A0 q) (hf : ∀ q, free q → A0 q) (hAX : ∀ q, q < H.size → AX q → A0 q)
    (kx : ∀ (E : String) (ce : Cell) (q9 : Addr) (u : SX) (t : State) (H1 : Heap) (locs1 : List Loc), t.heap = H1 → s.vm.Alike t.vm → px u → BX E u t → H.size ≤ H1.size → (∀ q : Nat, q < H.size → ¬ AX q → H1[q]? = H[q]?) → va_S A0 H0 H1 locs1 → H1[q9]? = some ce → ce.vm = .none → s.vm.findClass E = some ce.cls → vx_W p l e R s m args below meth c H1 locs1 (cells + mc) (slots + ms) Q (F0 m pc ls rest) q9)
    (kk : ∀ (u : S) (t : State) (H1 : Heap) (locs1 : List Loc), t.heap = H1 → s.vm.Alike t.vm → post u → B u t → H.size ≤ H1.size → (∀ q : Nat, q < H.size → ¬ A1 q → H1[q]? = H[q]?) → va_S A0 H0 H1 locs1 → W p l e R s m args below meth c H1 locs1 (cells + mc) (slots + ms) Q (F0 m (pc + 3) ls (rest))) : W p l e R s m args below meth c H locs cells slots Q (F0 m pc ls st0) := by
  intro T hT X
  rcases hr T hT X with ⟨v, st₀, t, T', L, h0, X', hL, e1, e2, ⟨⟨u, hv, hp, hb⟩, hF⟩, st⟩ | ⟨q, st₀, t, T', L, E, ce, h0, X', hL, e1, e2, ⟨u, hp, hb, hF⟩, hce, hcv, hcl, st⟩
  · cases hv
    obtain ⟨k1, k2, k3⟩ := vx_keep h0 e1 hS hA hf hL hF
    obtain ⟨t2, a1, b1⟩ := kk u t T'.heap (locs ++ L) e1.symm (by rw [← e2]; exact X'.warmed.alike) hp hb k1 k2 k3 T' rfl X'
    exact ⟨t2, st t2 a1, b1⟩
  · obtain ⟨k1, k2, k3⟩ := vx_keep h0 e1 hS hAX hf hL hF
    obtain ⟨t2, a1, b1⟩ := kx E ce q u t T'.heap (locs ++ L) e1.symm (by rw [← e2]; exact X'.warmed.alike) hp hb k1 k2 k3 (by rw [e1]; exact hce) hcv hcl T' rfl X'
    exact ⟨t2, st.trans a1, b1⟩
/-- caught by the row x of this method's table; the rows ahead don't take it -/
theorem vx_catch {own name : String} {E : String} {ce : Cell} {q : Addr} (hown : s.vm.findClass own = some m.cls) (pre : List ExceptionTableEntry) (x : ExceptionTableEntry) (suf : List ExceptionTableEntry) (hsplit : c.exceptionTable.toList = pre ++ x :: suf)
    (hpass : ∀ z ∈ pre, covers z pc = false ∨ (z.catchType ≠ 0 ∧ ∃ nm : String, (Cond.classLink own z.catchType nm).before args s = true ∧ va_Nc E nm s)) (hx : covers x pc = true) (h0 : x.catchType ≠ 0)
    (hlink : (Cond.classLink own x.catchType name).before args s = true) (hcast : (Cond.castable E name).before args s = true) (hcell : H[q]? = some ce) (hv : ce.vm = .none) (hcl : s.vm.findClass E = some ce.cls)
    (kk : W p l e R s m args below meth c H locs cells slots Q (F0 m x.handlerPc ls [.ref q])) : vx_W p l e R s m args below meth c H locs cells slots Q (F0 m pc ls rest) q := by
  intro T hT X
  have hpl : e.platform.magicAccessors = ({} : Platform).magicAccessors := by rw [X.admits.platform]
  obtain ⟨c3, c4, hc3, hc4, hasg⟩ := Cond.castable_spec hcast
  cases Option.some.inj (hc3.symm.trans hcl)
  obtain ⟨c5, hc5, hcl5⟩ := Cond.classLink_spec hown hlink e.platform hpl
  cases Option.some.inj (hc4.symm.trans hc5)
  obtain ⟨vm', X', st⟩ := X.thenCaughtThrough q (g := F0 m pc ls rest) rfl (Steps.refl _) (by rw [hT]; exact hcell) (by rw [hv]; rfl) (by obtain ⟨k9, h9, -⟩ := Vm.findClass_spec hcl; exact ⟨k9, h9⟩) pre x suf hsplit
    (fun z hz => by
      rcases hpass z hz with h | ⟨hz0, nm, hl1, hn1⟩
      · exact Or.inl h
      · obtain ⟨c6, hc6, hcl6⟩ := Cond.classLink_spec hown hl1 e.platform hpl
        obtain ⟨a8, b8, h1, h2, h3⟩ := hn1
        cases Option.some.inj (h1.symm.trans hcl)
        cases Option.some.inj (h2.symm.trans hc6)
        exact Or.inr ⟨hz0, _, hcl6, h3⟩) hx (Or.inr ⟨h0, c4, hcl5, hasg⟩)
  obtain ⟨t, a1, b1⟩ := kk (T.setVm vm') hT X'
  exact ⟨t, st.trans a1, b1⟩
end Rows
section Ends
variable {p : Program} {l : Launch} {e : Env} {R : Room} {s : State} {m : MethodId} {args : Array Value} {below : List Frame} {meth : Method} {c : Code} {H : Heap} {locs : List Loc} {cells slots : Nat} {Q : State → Prop}
variable {mc ms : Nat} {free : Addr → Prop} {A0 A1 : Nat → Prop} {H0 : Heap} {a : Array Value} {ls : Array Slot} {st0 rest : List Value}
variable {Qc : Array Value → State → Outcome → State → Prop} {XC : String → State → State → Prop}
/-- what a body that may throw owes at its end -/
def vx_MQ (below : List Frame) (Qc : Array Value → State → Outcome → State → Prop) (XC : String → State → State → Prop) (a : Array Value) (s : State) (mc ms : Nat) (free : Addr → Prop) : State → Prop := fun t =>
  ∃ o, t.status = .running ∧ Ended t below o ∧ vx_Q Qc XC mc ms free a s o t
theorem vx_ret {g : JFrame} {mc ms : Nat} (k : W p l e R s m args below meth c H locs cells slots (MQ below Qc args s mc ms free) g) : W p l e R s m args below meth c H locs cells slots (vx_MQ below Qc XC args s mc ms free) g := by
  intro T hT X
  obtain ⟨t, a1, o, b1, b2, b3, b4⟩ := k T hT X
  exact ⟨t, a1, o, b1, b2, Or.inl ⟨b3, b4⟩⟩
/-- not caught here: it goes on to the caller -/
theorem vx_widen {g : JFrame} {q : Addr} {k n : Nat} (h1 : cells ≤ k) (h2 : slots ≤ n) (kk : vx_W p l e R s m args below meth c H locs k n Q g q) : vx_W p l e R s m args below meth c H locs cells slots Q g q := fun T hT X => kk T hT (stand_widen X h1 h2)
theorem vx_out {pc : Nat} {E : String} {ce : Cell} {q : Addr} {mc ms : Nat} (hout : ∀ x ∈ c.exceptionTable.toList, covers x pc = false) (hlocks : meth.locks = false) (hcell : H[q]? = some ce) (hv : ce.vm = .none) (hcl : s.vm.findClass E = some ce.cls)
    (hx : ∀ t : State, t.heap = H → s.vm.Alike t.vm → XC E s t) (hf : ∀ z ∈ locs, free z.base) (hc : cells ≤ mc) (hs : slots ≤ ms) :
    vx_W p l e R s m args below meth c H locs cells slots (vx_MQ below Qc XC args s mc ms free) (F0 m pc ls rest) q := by
  intro T hT X
  obtain ⟨st1, hrun, hend, hW, hsm⟩ := X.leaveThrown q (g := F0 m pc ls rest) rfl rfl rfl hout hlocks
  have hcell9 : (T.setFrames (.throwing q :: below)).heap[q]? = some ce := by
    show T.heap[q]? = some ce
    rw [hT]; exact hcell
  exact ⟨_, st1, .threw q, hrun, hend, Or.inr ⟨q, rfl, E, ce, locs, hx _ hT hW.alike, hcell9, hv, hcl, hW, hsm.mono hc hs, hf⟩⟩
theorem vx_frame {U : State} {k n : Nat} (h : s.sameButNew ({ U with vm := s.vm } : State) locs k n) : s.heap.size ≤ U.heap.size ∧ ∀ q : Nat, q < s.heap.size → (∀ z ∈ locs, z.base ≠ q) → U.heap[q]? = s.heap[q]? := by
  obtain ⟨-, h2, -, -, -, h6⟩ := h
  refine ⟨h2, fun q hq hz => ?_⟩
  obtain ⟨c9, e1, e2, e3, e4⟩ := h6 q _ (Array.getElem?_eq_getElem hq)
  have hs : c9.slots = (s.heap[q]).slots := Array.ext_getElem? fun i => e4 i fun hm => hz _ hm rfl
  have h9 : c9 = s.heap[q] := by
    rw [hs] at e2
    exact e2
  have e5 : U.heap[q]? = some c9 := e1
  rw [e5, h9, Array.getElem?_eq_getElem hq]
/-- the words of a throw but the four that speak of the heap -/
def vx_no (w : Cond) : Bool := decide (w ≠ .isRef (.static Bundle.tN "UNASSIGNED_STACK" Bundle.steD)) && decide (w ≠ .isRef (.static Bundle.tN "SUPPRESSED_SENTINEL" Bundle.listD)) && decide (w ≠ .laysStatic Bundle.tN "UNASSIGNED_STACK" Bundle.steD) && decide (w ≠ .laysStatic Bundle.tN "SUPPRESSED_SENTINEL" Bundle.listD)
def vx_at0 (own : String) (ic : Nat) (X : String) (names : List String) : List Cond := (Bundle.ownAtoms0 own ic X names).filter vx_no
def vx_atS (own : String) (ic : Nat) (X : String) (names : List String) : List Cond := (Bundle.ownAtoms own ic X names).filter vx_no
/-- a word that the tables alone decide, or a good one -/
def vx_ot (w : Cond) : Bool := w.onTables || goodWord w
theorem vx_ot_at {args a' : Array Value} {s U : State} {w : Cond} (hW : s.WarmedH U.vm) (hvm : s.vm = U.vm) (hg : vx_ot w = true) (h : w.before args s = true) : w.before a' U = true := by
  simp only [vx_ot, Bool.or_eq_true] at hg
  rcases hg with hg | hg
  · exact va_tabs hg hvm h
  · exact word_at hW (good_of_word hg) h
/-- a list's words: the good ones out of the method's own list, the others by premises of their own -/
theorem vx_hat {args : Array Value} {s : State} {L B : List Cond} (h1 : ∀ w ∈ L.filter goodWord, w.before args s = true) (h2 : ∀ w ∈ L.filter (fun w => !goodWord w), w ∈ B) (h3 : ∀ w ∈ B, w.before args s = true) : ∀ w ∈ L, w.before args s = true := by
  intro w hw
  by_cases g : goodWord w = true
  · exact h1 w (List.mem_filter.mpr ⟨hw, g⟩)
  · refine h3 w (h2 w (List.mem_filter.mpr ⟨hw, ?_⟩))
    show (!goodWord w) = true
    cases hgw : goodWord w
    · rfl
    · exact absurd hgw g
theorem vx_c {args : Array Value} {s : State} {w : Cond} {B : List Cond} (h : w.before args s = true) (t : ∀ w ∈ B, w.before args s = true) : ∀ w' ∈ w :: B, w'.before args s = true := fun w' h' => (List.mem_cons.mp h').elim (fun e => by rw [e]; exact h) (t w')
theorem vx_n {args : Array Value} {s : State} : ∀ w ∈ ([] : List Cond), w.before args s = true := fun _ h => nomatch h
theorem vx_own {args : Array Value} {s : State} {L : List Cond} (h1 : ∀ w ∈ L.filter vx_no, w.before args s = true)
    (hU : (Cond.isRef (.static Bundle.tN "UNASSIGNED_STACK" Bundle.steD)).before args s = true) (hN : (Cond.isRef (.static Bundle.tN "SUPPRESSED_SENTINEL" Bundle.listD)).before args s = true)
    (lU : (Cond.laysStatic Bundle.tN "UNASSIGNED_STACK" Bundle.steD).before args s = true) (lN : (Cond.laysStatic Bundle.tN "SUPPRESSED_SENTINEL" Bundle.listD).before args s = true) : ∀ w ∈ L, w.before args s = true := by
  intro w hw
  by_cases e1 : w = .isRef (.static Bundle.tN "UNASSIGNED_STACK" Bundle.steD)
  · rw [e1]; exact hU
  · by_cases e2 : w = .isRef (.static Bundle.tN "SUPPRESSED_SENTINEL" Bundle.listD)
    · rw [e2]; exact hN
    · by_cases e3 : w = .laysStatic Bundle.tN "UNASSIGNED_STACK" Bundle.steD
      · rw [e3]; exact lU
      · by_cases e4 : w = .laysStatic Bundle.tN "SUPPRESSED_SENTINEL" Bundle.listD
        · rw [e4]; exact lN
        · exact h1 w (List.mem_filter.mpr ⟨hw, by unfold vx_no; rw [decide_eq_true e1, decide_eq_true e2, decide_eq_true e3, decide_eq_true e4]; rfl⟩)
/-- where a static field lies, its class's statics cell in H -/
def vx_L (C n d : String) (A : Nat → Prop) (U : State) (H : Heap) : Prop := ∃ (c : ClassId) (k : Class) (i : Nat) (f : Field) (a : Nat) (cell : Cell), U.vm.findClass C = some c ∧ U.fieldFound? C n d = some (c, k, i, f) ∧ f.isStatic = true ∧ k.statics = some a ∧ H[a]? = some cell ∧ cell.vm.isStatics = true ∧ cell.cls = c ∧ f.slot < cell.slots.size ∧ k.staticTypes[f.slot]? = some f.type ∧ ¬ A a
theorem vx_L.moved {C n d : String} {A : Nat → Prop} {u U : State} {H : Heap} (hvm : u.vm.Alike U.vm) (h : vx_L C n d A u H) : vx_L C n d A U H := by
  obtain ⟨c, k, i, f, a, cell, h1, h2, h3, h4, h5, h6, h7, h8, h9, h10⟩ := h
  obtain ⟨k', hi', he⟩ := State.fieldFound?_setVm hvm h2
  exact ⟨c, k', i, f, a, cell, by rw [hvm.findClass]; exact h1, hi', h3, by rw [he]; exact h4, h5, h6, h7, h8, by rw [he]; exact h9, h10⟩
theorem vx_L.kept {C n d : String} {A : Nat → Prop} {U : State} {H H1 : Heap} (h : vx_L C n d A U H) (hq : ∀ a : Nat, a < H.size → ¬ A a → H1[a]? = H[a]?) : vx_L C n d A U H1 := by
  obtain ⟨c, k, i, f, a, cell, h1, h2, h3, h4, h5, h6, h7, h8, h9, h10⟩ := h
  exact ⟨c, k, i, f, a, cell, h1, h2, h3, h4, by rw [hq a (Array.getElem?_eq_some_iff.mp h5).1 h10]; exact h5, h6, h7, h8, h9, h10⟩
theorem vx_L.narrow {C n d : String} {A B : Nat → Prop} {U : State} {H : Heap} (h : vx_L C n d A U H) (hAB : ∀ q, B q → A q) : vx_L C n d B U H := by
  obtain ⟨c, k, i, f, a, cell, h1, h2, h3, h4, h5, h6, h7, h8, h9, h10⟩ := h
  exact ⟨c, k, i, f, a, cell, h1, h2, h3, h4, h5, h6, h7, h8, h9, fun z => h10 (hAB _ z)⟩
theorem vx_L.word {C n d : String} {A : Nat → Prop} {s : State} {args : Array Value} (h : vx_L C n d A s s.heap) : (Cond.laysStatic C n d).before args s = true := by
  obtain ⟨c, k, i, f, a, cell, h1, h2, h3, h4, h5, h6, h7, h8, h9, -⟩ := h
  show (Cond.laysStatic C n d).holds args s none s [] = true
  exact Cond.laysStatic_of h1 h2 h3 h4 h5 h6 h7 h8 h9
/-- .. and what it holds: null or some reference -/
def vx_Zq (C n d : String) (A : Nat → Prop) (U : State) (H : Heap) : Prop := va_Zq C n d A U H ∧ vx_L C n d A U H
theorem vx_Zq.moved {C n d : String} {A : Nat → Prop} {u U : State} {H : Heap} (hvm : u.vm.Alike U.vm) (h : vx_Zq C n d A u H) : vx_Zq C n d A U H := ⟨va_Zq.moved hvm h.1, vx_L.moved hvm h.2⟩
theorem vx_Zq.kept {C n d : String} {A : Nat → Prop} {U : State} {H H1 : Heap} (h : vx_Zq C n d A U H) (hq : ∀ a : Nat, a < H.size → ¬ A a → H1[a]? = H[a]?) : vx_Zq C n d A U H1 := ⟨va_Zq.kept h.1 hq, vx_L.kept h.2 hq⟩
theorem vx_Zq.narrow {C n d : String} {A B : Nat → Prop} {U : State} {H : Heap} (h : vx_Zq C n d A U H) (hAB : ∀ q, B q → A q) : vx_Zq C n d B U H := ⟨va_Zq.narrow h.1 hAB, vx_L.narrow h.2 hAB⟩
theorem vx_Zqof {args : Array Value} {s : State} {C n d : String} {A : Nat → Prop} (hl : (Cond.laysStatic C n d).before args s = true) (hini : (Cond.initialized C).before args s = true) (h : (Cond.isRef (.static C n d)).before args s = true) (hA : ∀ a : Nat, a < s.heap.size → ¬ A a) : vx_Zq C n d A s s.heap := by
  refine ⟨va_Zqof hl hini h hA, ?_⟩
  obtain ⟨c, k, i, f, a, cell, h1, h2, h3, h4, h5, h6, h7, h8, h9⟩ := Cond.laysStatic_spec hl
  exact ⟨c, k, i, f, a, cell, h1, h2, h3, h4, h5, h6, h7, h8, h9, hA a (Array.getElem?_eq_some_iff.mp h5).1⟩
theorem vx_isRef {C n d : String} {v : Value} {A : Nat → Prop} {s : State} {args : Array Value} (h : va_Z C n d v A s s.heap) (hv : v.isRef = true) : (Cond.isRef (.static C n d)).before args s = true := by
  obtain ⟨cf, kf, fi, f, a, cell, h1, h2, h3, h4, h5, h6, h7, -⟩ := h
  have he : (Term.static C n d).eval args s none [] s = some v := by
    simp [Term.eval, State.fieldNamed?, h1, h2, h4, h5, h6, h7]
  simp only [Cond.before, Cond.holds, Cond.value, he]
  cases v <;> simp_all [Value.isRef]
theorem vx_isRefq {C n d : String} {A : Nat → Prop} {s : State} {args : Array Value} (h : va_Zq C n d A s s.heap) : (Cond.isRef (.static C n d)).before args s = true := by
  rcases h with h | ⟨t, h⟩
  · exact vx_isRef h rfl
  · exact vx_isRef h rfl
/-- the same frame, seen from here: as if the method were called anew in this heap -/
theorem vx_rebase {T : State} (X : Stand p l e R s m args below meth c T locs cells slots) {R' : Room} (hf : R'.frames ≤ R.frames) (hl : R'.locals ≤ R.locals) (hc : cells + R'.cells ≤ R.cells) (hs : slots + R'.slots ≤ R.slots) :
    Stand p l e R' ((T.setVm s.vm).setFrames (.invoking m args :: below)) m args below meth c T [] 0 0 := by
  have htop : (T.setVm s.vm).topJava?.isSome := X.here.top
  have hF : ((T.setVm s.vm).setFrames (.invoking m args :: below)).frames = .invoking m args :: below := State.frames_setFrames _ (State.cur_lt_of_top htop)
  obtain ⟨g₀, hg0⟩ := Option.isSome_iff_exists.mp htop
  obtain ⟨r, hr⟩ := State.topJava?_eq_some.mp hg0
  have hl9 : e.platform.stackLimits (T.setVm s.vm).me = e.platform.stackLimits s.me := X.limits
  have hb9 : (T.setVm s.vm).me.stackBytes = s.me.stackBytes := X.bytes
  refine ⟨X.admits, X.cas, X.clock, hF, ?_, X.hears, X.method, X.code, X.here, X.tail, X.warmed, ?_, ?_, ?_⟩
  · have h := X.room
    have hU : ((T.setVm s.vm).setFrames (.invoking m args :: below)).localsInUse = s.localsInUse := by
      rw [State.localsInUse_invoking hF (meth := meth) (c := c) X.method X.code, State.localsInUse_invoking X.frames X.method X.code]
    simp only [State.hasRoom, Bool.and_eq_true, decide_eq_true_eq] at h ⊢
    obtain ⟨⟨⟨⟨h1, h2, h3, h4, h5, h6⟩, h7⟩, h8⟩, h9⟩ := h
    rw [X.frames, List.length_cons] at h2 h3
    have q1 := X.heapSize
    have q2 := X.used
    simp only [hF, hU, List.length_cons, State.stackLimits_setFrames, State.stackBytes_setFrames, hl9, hb9]
    refine ⟨⟨⟨⟨by omega, by omega, by omega, by omega, by omega, h6⟩, ?_⟩, ?_⟩, X.book⟩
    · show T.heap.size + R'.cells ≤ e.platform.maxCells
      omega
    · show T.slotsUsed + R'.slots ≤ e.platform.maxSlots
      omega
  · rw [State.stackLimits_setFrames]; rfl
  · rw [State.stackBytes_setFrames]; rfl
  · refine ⟨?_, Nat.le_refl _, Nat.le_refl _, ?_, ?_, fun a c9 h9 => ⟨c9, h9, rfl, rfl, fun _ _ => rfl⟩⟩
    · obtain ⟨t, ht, -⟩ := State.frames_cons hr
      show T.setVm s.vm = { ((T.setVm s.vm).setFrames (.invoking m args :: below)).setFrames (T.setVm s.vm).frames with heap := T.heap, slotsUsed := T.slotsUsed }
      rw [State.setFrames_setFrames, State.setFrames_self ht]
      rfl
    · show T.slotsUsed = T.slotsUsed + ((T.heap.toList.drop T.heap.size).map (·.slots.size)).sum
      rw [List.drop_eq_nil_of_le (Nat.le_of_eq Array.length_toList)]
      rfl
    · show ((T.heap.toList.drop T.heap.size).map (·.slots.size)).sum ≤ 0
      rw [List.drop_eq_nil_of_le (Nat.le_of_eq Array.length_toList)]
      exact Nat.le_refl _
/-- 'throw new E()': new; dup; invokespecial; athrow -/
theorem vx_throw0 {cc : ByteArray} {pc : Nat} (hexec : p.tables.exec = Jvm.exec) (hb : c.code = cc) (hl : l.stackTraces = false) {own cls : String} {names : List String} {ik ic mc ms : Nat} {A : Nat → Prop}
    (hown : s.vm.findClass own = some m.cls) (hcls : Bundle.fit cls = true) (hnames : ∀ n ∈ names, Bundle.fit n = true)
    (hk : (Cond.classLink own ik cls).before args s = true) (hini : (Cond.initialized cls).before args s = true) (hat : ∀ w ∈ vx_at0 own ic cls names, w.before args s = true)
    (hgood : ∀ w ∈ Cond.classLink own ik cls :: Cond.initialized cls :: vx_at0 own ic cls names, vx_ot w = true)
    (hU : vx_Zq Bundle.tN "UNASSIGNED_STACK" Bundle.steD A s s.heap) (hN : vx_Zq Bundle.tN "SUPPRESSED_SENTINEL" Bundle.listD A s s.heap) (hS : va_S A s.heap H locs) (hsize : ls.size = c.maxLocals)
    (d0 : decode cc pc = .ok (.new ik, 3)) (d3 : decode cc (pc + 3) = .ok (.dup, 1)) (d4 : decode cc (pc + 4) = .ok (.invokespecial ic, 3)) (d7 : decode cc (pc + 7) = .ok (.athrow, 1))
    (hout : ∀ x ∈ c.exceptionTable.toList, covers x (pc + 7) = false)
    (hRframes : names.length + 3 < R.frames) (hRlocals : (rest.map fun v => v.category).sum + (13 * (names.length + 1) + 42) ≤ R.locals) (hRcells : cells + 1 ≤ R.cells) (hRslots : slots + 6 ≤ R.slots) (hlocks : meth.locks = false)
    (hx : ∀ t : State, s.vm.Alike t.vm → H.size ≤ t.heap.size → (∀ q : Nat, q < H.size → t.heap[q]? = H[q]?) → XC cls s t)
    (hf : ∀ z ∈ locs, free z.base) (hc : cells + 1 ≤ mc) (hs : slots + 6 ≤ ms) :
    W p l e R s m args below meth c H locs cells slots (vx_MQ below Qc XC args s mc ms free) (F0 m pc ls rest) := by
  intro T hT X
  have htr : e.platform.stackTraces = false := (show e.platform.stackTraces = l.stackTraces by rw [X.admits.platform]).trans hl
  have Y := vx_rebase X (R' := { frames := R.frames, locals := R.locals, cells := 1, slots := 6 }) (Nat.le_refl _) (Nat.le_refl _) hRcells hRslots
  obtain ⟨s', hA⟩ : ∃ z, z = (T.setVm s.vm).setFrames (.invoking m args :: below) := ⟨_, rfl⟩
  rw [← hA] at Y
  have hvm : s'.vm = s.vm := by rw [hA]; rfl
  have hhp : s'.heap = H := by rw [hA]; exact hT
  have hW0 : s.WarmedH s'.vm := by rw [hvm]; exact State.WarmedH.refl s
  have hat' : ∀ w ∈ vx_at0 own ic cls names, w.before args s' = true := fun w hw => vx_ot_at hW0 hvm.symm (hgood w (List.mem_cons_of_mem _ (List.mem_cons_of_mem _ hw))) (hat w hw)
  have hk' : (Cond.classLink own ik cls).before args s' = true := vx_ot_at hW0 hvm.symm (hgood _ List.mem_cons_self) hk
  have hini' : (Cond.initialized cls).before args s' = true := vx_ot_at hW0 hvm.symm (hgood _ (List.mem_cons_of_mem _ List.mem_cons_self)) hini
  have hU' : vx_Zq Bundle.tN "UNASSIGNED_STACK" Bundle.steD A s' s'.heap := by rw [hhp]; exact vx_Zq.moved hW0.alike (hU.kept hS.2.1)
  have hN' : vx_Zq Bundle.tN "SUPPRESSED_SENTINEL" Bundle.listD A s' s'.heap := by rw [hhp]; exact vx_Zq.moved hW0.alike (hN.kept hS.2.1)
  have h : ∀ w ∈ Bundle.ownAtoms0 own ic cls names, w.before args s' = true := vx_own hat' (vx_isRefq hU'.1) (vx_isRefq hN'.1) hU'.2.word hN'.2.word
  have hown' : s'.vm.findClass own = some m.cls := by rw [hvm]; exact hown
  have hins : (Cond.instantiable cls 6).before args s' = true := h _ (by simp [Bundle.ownAtoms0])
  obtain ⟨vm₁, cX, kX, hfX, hkX, -, -, X₁, st1⟩ := Y.newCold hexec (own := own) (C := cls) (index := ik) (n := 6) hown' hk' hins hini'
    (g := F0 m pc ls rest) rfl (by rw [hb]; exact d0) (Nat.le_refl _) (Nat.le_refl _)
  generalize hT1 : (T.setVm vm₁).pushCell { cls := cX, slots := kX.instanceTypes.map defaultValue, vm := .none } = T1 at X₁ st1
  have hcat : (Value.ref T.heap.size).category = 1 := rfl
  have hcellA : T1.heap[T.heap.size]? = some (freshCell cX kX) := by rw [← hT1]; exact State.heap_pushCell_size _ _
  have d3' : decode c.code (pc + 3) = .ok (.dup, 1) := by rw [hb]; exact d3
  obtain ⟨U, hsteps, hrun, hend, hW, hsame, ce, hce, hO⟩ := X₁.ctorThrow0 hexec htr (own := own) (cls := cls) (names := names) (ic := ic) hown' hcls hnames h (fun x hx => nomatch hx) hfX hkX hcellA (by rw [hhp, hT]; exact Nat.le_refl _)
    (g := { method := m, pc := pc + 4, locals := ls, stack := .ref T.heap.size :: .ref T.heap.size :: rest, locked := none }) rfl hsize rfl rfl (rest := rest) rfl
    (by rw [hb]; exact d4) (by rw [hb]; exact d7) hout hRframes (by simp only [List.map_cons, List.sum_cons, hcat]; omega) hlocks
  obtain ⟨f1, f2⟩ := vx_frame hsame
  rw [hhp] at f1 f2
  have hWs : s.WarmedH U.vm := State.WarmedH.trans hW0 hW
  have hcl : s.vm.findClass cls = some ce.cls := by
    have h9 := hO.cls
    rw [hvm] at h9
    exact h9
  have hall : s.sameButNew ({ U with vm := s.vm } : State) locs mc ms := by
    subst hA
    obtain ⟨e1, e2⟩ := hsame
    rw [State.setFrames_setFrames] at e1
    have h2 : (T.setVm s.vm).sameButNew ({ U with vm := s.vm } : State) [] (0 + 1) (0 + 6) := ⟨e1, e2⟩
    have h3 := X.same.trans h2
    rw [List.append_nil] at h3
    exact h3.mono hc hs
  refine ⟨U, ?_, .threw T.heap.size, hrun, hend, Or.inr ⟨T.heap.size, rfl, cls, ce, locs, hx U hWs.alike f1 (fun q hq => f2 q hq (fun z hz => nomatch hz)), hce, hO.vm, hcl, hWs, hall, hf⟩⟩
  refine st1 _ ?_
  show Steps p.tables e below (T1.setTop { method := m, pc := pc + 3, locals := ls, stack := .ref T.heap.size :: rest, locked := none }) _
  jvm_step X₁.here [X₁.here.top, hexec, d3', Value.category]
  exact hsteps
/-- 'throw new E("text")': new; dup; ldc; invokespecial; athrow -/
theorem vx_throwS {cc : ByteArray} {pc : Nat} (hexec : p.tables.exec = Jvm.exec) (hb : c.code = cc) (hl : l.stackTraces = false) {own cls text : String} {names : List String} {ik is ic mc ms sa : Nat} {A : Nat → Prop}
    (hown : s.vm.findClass own = some m.cls) (hcls : Bundle.fit cls = true) (hnames : ∀ n ∈ names, Bundle.fit n = true)
    (hk : (Cond.classLink own ik cls).before args s = true) (hini : (Cond.initialized cls).before args s = true) (hstr : vk_R own is text sa s) (hat : ∀ w ∈ vx_atS own ic cls names, w.before args s = true)
    (hgood : ∀ w ∈ Cond.classLink own ik cls :: Cond.initialized cls :: vx_atS own ic cls names, vx_ot w = true)
    (hU : vx_Zq Bundle.tN "UNASSIGNED_STACK" Bundle.steD A s s.heap) (hN : vx_Zq Bundle.tN "SUPPRESSED_SENTINEL" Bundle.listD A s s.heap) (hS : va_S A s.heap H locs) (hsize : ls.size = c.maxLocals)
    (d0 : decode cc pc = .ok (.new ik, 3)) (d3 : decode cc (pc + 3) = .ok (.dup, 1)) (d4 : decode cc (pc + 4) = .ok (.ldc is, 2)) (d6 : decode cc (pc + 6) = .ok (.invokespecial ic, 3)) (d9 : decode cc (pc + 9) = .ok (.athrow, 1))
    (hout : ∀ x ∈ c.exceptionTable.toList, covers x (pc + 9) = false)
    (hRframes : names.length + 3 < R.frames) (hRlocals : (rest.map fun v => v.category).sum + (13 * (names.length + 1) + 43) ≤ R.locals) (hRcells : cells + 1 ≤ R.cells) (hRslots : slots + 6 ≤ R.slots) (hlocks : meth.locks = false)
    (hx : ∀ t : State, s.vm.Alike t.vm → H.size ≤ t.heap.size → (∀ q : Nat, q < H.size → t.heap[q]? = H[q]?) → XC cls s t)
    (hf : ∀ z ∈ locs, free z.base) (hc : cells + 1 ≤ mc) (hs : slots + 6 ≤ ms) :
    W p l e R s m args below meth c H locs cells slots (vx_MQ below Qc XC args s mc ms free) (F0 m pc ls rest) := by
  intro T hT X
  have htr : e.platform.stackTraces = false := (show e.platform.stackTraces = l.stackTraces by rw [X.admits.platform]).trans hl
  have Y := vx_rebase X (R' := { frames := R.frames, locals := R.locals, cells := 1, slots := 6 }) (Nat.le_refl _) (Nat.le_refl _) hRcells hRslots
  obtain ⟨s', hA⟩ : ∃ z, z = (T.setVm s.vm).setFrames (.invoking m args :: below) := ⟨_, rfl⟩
  rw [← hA] at Y
  have hvm : s'.vm = s.vm := by rw [hA]; rfl
  have hhp : s'.heap = H := by rw [hA]; exact hT
  have hW0 : s.WarmedH s'.vm := by rw [hvm]; exact State.WarmedH.refl s
  have hat' : ∀ w ∈ vx_atS own ic cls names, w.before args s' = true := fun w hw => vx_ot_at hW0 hvm.symm (hgood w (List.mem_cons_of_mem _ (List.mem_cons_of_mem _ hw))) (hat w hw)
  have hk' : (Cond.classLink own ik cls).before args s' = true := vx_ot_at hW0 hvm.symm (hgood _ List.mem_cons_self) hk
  have hini' : (Cond.initialized cls).before args s' = true := vx_ot_at hW0 hvm.symm (hgood _ (List.mem_cons_of_mem _ List.mem_cons_self)) hini
  have hU' : vx_Zq Bundle.tN "UNASSIGNED_STACK" Bundle.steD A s' s'.heap := by rw [hhp]; exact vx_Zq.moved hW0.alike (hU.kept hS.2.1)
  have hN' : vx_Zq Bundle.tN "SUPPRESSED_SENTINEL" Bundle.listD A s' s'.heap := by rw [hhp]; exact vx_Zq.moved hW0.alike (hN.kept hS.2.1)
  have h : ∀ w ∈ Bundle.ownAtoms own ic cls names, w.before args s' = true := vx_own hat' (vx_isRefq hU'.1) (vx_isRefq hN'.1) hU'.2.word hN'.2.word
  have hown' : s'.vm.findClass own = some m.cls := by rw [hvm]; exact hown
  have hins : (Cond.instantiable cls 6).before args s' = true := h _ (by simp [Bundle.ownAtoms])
  obtain ⟨vm₁, cX, kX, hfX, hkX, -, -, X₁, st1⟩ := Y.newCold hexec (own := own) (C := cls) (index := ik) (n := 6) hown' hk' hins hini'
    (g := F0 m pc ls rest) rfl (by rw [hb]; exact d0) (Nat.le_refl _) (Nat.le_refl _)
  generalize hT1 : (T.setVm vm₁).pushCell { cls := cX, slots := kX.instanceTypes.map defaultValue, vm := .none } = T1 at X₁ st1
  have hcat : (Value.ref T.heap.size).category = 1 := rfl
  have hcellA : T1.heap[T.heap.size]? = some (freshCell cX kX) := by rw [← hT1]; exact State.heap_pushCell_size _ _
  have d3' : decode c.code (pc + 3) = .ok (.dup, 1) := by rw [hb]; exact d3
  have d4' : decode c.code (pc + 4) = .ok (.ldc is, 2) := by rw [hb]; exact d4
  have hstr' : vk_R own is text sa s' := vk_R.warm hW0 hstr
  obtain ⟨U, hsteps, hrun, hend, hW, hsame, ce, hce, hO⟩ := X₁.ctorThrowS hexec htr (own := own) (cls := cls) (names := names) (ic := ic) hown' hcls hnames h (fun x hx => nomatch hx) hfX hkX hcellA (by rw [hhp, hT]; exact Nat.le_refl _) (msg := .ref sa) rfl
    (g := { method := m, pc := pc + 6, locals := ls, stack := .ref sa :: .ref T.heap.size :: .ref T.heap.size :: rest, locked := none }) rfl hsize rfl rfl (rest := rest) rfl
    (by rw [hb]; exact d6) (by rw [hb]; exact d9) hout hRframes (by simp only [List.map_cons, List.sum_cons, hcat]; omega) hlocks
  obtain ⟨f1, f2⟩ := vx_frame hsame
  rw [hhp] at f1 f2
  have hWs : s.WarmedH U.vm := State.WarmedH.trans hW0 hW
  have hcl : s.vm.findClass cls = some ce.cls := by
    have h9 := hO.cls
    rw [hvm] at h9
    exact h9
  have hall : s.sameButNew ({ U with vm := s.vm } : State) locs mc ms := by
    subst hA
    obtain ⟨e1, e2⟩ := hsame
    rw [State.setFrames_setFrames] at e1
    have h2 : (T.setVm s.vm).sameButNew ({ U with vm := s.vm } : State) [] (0 + 1) (0 + 6) := ⟨e1, e2⟩
    have h3 := X.same.trans h2
    rw [List.append_nil] at h3
    exact h3.mono hc hs
  refine ⟨U, ?_, .threw T.heap.size, hrun, hend, Or.inr ⟨T.heap.size, rfl, cls, ce, locs, hx U hWs.alike f1 (fun q hq => f2 q hq (fun z hz => nomatch hz)), hce, hO.vm, hcl, hWs, hall, hf⟩⟩
  refine st1 _ ?_
  show Steps p.tables e below (T1.setTop { method := m, pc := pc + 3, locals := ls, stack := .ref T.heap.size :: rest, locked := none }) _
  jvm_step X₁.here [X₁.here.top, hexec, d3', Value.category]
  exact X₁.ldcString hexec (own := own) (text := text) (index := is) (a := sa) hown' hstr'.1 hstr'.2
    (g := { method := m, pc := pc + 4, locals := ls, stack := .ref T.heap.size :: .ref T.heap.size :: rest, locked := none }) rfl d4' _ hsteps
/-- 'throw new E("text")', the text by a wide index -/
theorem vx_throwSW {cc : ByteArray} {pc : Nat} (hexec : p.tables.exec = Jvm.exec) (hb : c.code = cc) (hl : l.stackTraces = false) {own cls text : String} {names : List String} {ik is ic mc ms sa : Nat} {A : Nat → Prop}
    (hown : s.vm.findClass own = some m.cls) (hcls : Bundle.fit cls = true) (hnames : ∀ n ∈ names, Bundle.fit n = true)
    (hk : (Cond.classLink own ik cls).before args s = true) (hini : (Cond.initialized cls).before args s = true) (hstr : vk_R own is text sa s) (hat : ∀ w ∈ vx_atS own ic cls names, w.before args s = true)
    (hgood : ∀ w ∈ Cond.classLink own ik cls :: Cond.initialized cls :: vx_atS own ic cls names, vx_ot w = true)
    (hU : vx_Zq Bundle.tN "UNASSIGNED_STACK" Bundle.steD A s s.heap) (hN : vx_Zq Bundle.tN "SUPPRESSED_SENTINEL" Bundle.listD A s s.heap) (hS : va_S A s.heap H locs) (hsize : ls.size = c.maxLocals)
    (d0 : decode cc pc = .ok (.new ik, 3)) (d3 : decode cc (pc + 3) = .ok (.dup, 1)) (d4 : decode cc (pc + 4) = .ok (.ldc_w is, 3)) (d7 : decode cc (pc + 7) = .ok (.invokespecial ic, 3)) (d10 : decode cc (pc + 10) = .ok (.athrow, 1))
    (hout : ∀ x ∈ c.exceptionTable.toList, covers x (pc + 10) = false)
    (hRframes : names.length + 3 < R.frames) (hRlocals : (rest.map fun v => v.category).sum + (13 * (names.length + 1) + 43) ≤ R.locals) (hRcells : cells + 1 ≤ R.cells) (hRslots : slots + 6 ≤ R.slots) (hlocks : meth.locks = false)
    (hx : ∀ t : State, s.vm.Alike t.vm → H.size ≤ t.heap.size → (∀ q : Nat, q < H.size → t.heap[q]? = H[q]?) → XC cls s t)
    (hf : ∀ z ∈ locs, free z.base) (hc : cells + 1 ≤ mc) (hs : slots + 6 ≤ ms) :
    W p l e R s m args below meth c H locs cells slots (vx_MQ below Qc XC args s mc ms free) (F0 m pc ls rest) := by
  intro T hT X
  have htr : e.platform.stackTraces = false := (show e.platform.stackTraces = l.stackTraces by rw [X.admits.platform]).trans hl
  have Y := vx_rebase X (R' := { frames := R.frames, locals := R.locals, cells := 1, slots := 6 }) (Nat.le_refl _) (Nat.le_refl _) hRcells hRslots
  obtain ⟨s', hA⟩ : ∃ z, z = (T.setVm s.vm).setFrames (.invoking m args :: below) := ⟨_, rfl⟩
  rw [← hA] at Y
  have hvm : s'.vm = s.vm := by rw [hA]; rfl
  have hhp : s'.heap = H := by rw [hA]; exact hT
  have hW0 : s.WarmedH s'.vm := by rw [hvm]; exact State.WarmedH.refl s
  have hat' : ∀ w ∈ vx_atS own ic cls names, w.before args s' = true := fun w hw => vx_ot_at hW0 hvm.symm (hgood w (List.mem_cons_of_mem _ (List.mem_cons_of_mem _ hw))) (hat w hw)
  have hk' : (Cond.classLink own ik cls).before args s' = true := vx_ot_at hW0 hvm.symm (hgood _ List.mem_cons_self) hk
  have hini' : (Cond.initialized cls).before args s' = true := vx_ot_at hW0 hvm.symm (hgood _ (List.mem_cons_of_mem _ List.mem_cons_self)) hini
  have hU' : vx_Zq Bundle.tN "UNASSIGNED_STACK" Bundle.steD A s' s'.heap := by rw [hhp]; exact vx_Zq.moved hW0.alike (hU.kept hS.2.1)
  have hN' : vx_Zq Bundle.tN "SUPPRESSED_SENTINEL" Bundle.listD A s' s'.heap := by rw [hhp]; exact vx_Zq.moved hW0.alike (hN.kept hS.2.1)
  have h : ∀ w ∈ Bundle.ownAtoms own ic cls names, w.before args s' = true := vx_own hat' (vx_isRefq hU'.1) (vx_isRefq hN'.1) hU'.2.word hN'.2.word
  have hown' : s'.vm.findClass own = some m.cls := by rw [hvm]; exact hown
  have hins : (Cond.instantiable cls 6).before args s' = true := h _ (by simp [Bundle.ownAtoms])
  obtain ⟨vm₁, cX, kX, hfX, hkX, -, -, X₁, st1⟩ := Y.newCold hexec (own := own) (C := cls) (index := ik) (n := 6) hown' hk' hins hini'
    (g := F0 m pc ls rest) rfl (by rw [hb]; exact d0) (Nat.le_refl _) (Nat.le_refl _)
  generalize hT1 : (T.setVm vm₁).pushCell { cls := cX, slots := kX.instanceTypes.map defaultValue, vm := .none } = T1 at X₁ st1
  have hcat : (Value.ref T.heap.size).category = 1 := rfl
  have hcellA : T1.heap[T.heap.size]? = some (freshCell cX kX) := by rw [← hT1]; exact State.heap_pushCell_size _ _
  have d3' : decode c.code (pc + 3) = .ok (.dup, 1) := by rw [hb]; exact d3
  have d4' : decode c.code (pc + 4) = .ok (.ldc_w is, 3) := by rw [hb]; exact d4
  have hstr' : vk_R own is text sa s' := vk_R.warm hW0 hstr
  obtain ⟨U, hsteps, hrun, hend, hW, hsame, ce, hce, hO⟩ := X₁.ctorThrowS hexec htr (own := own) (cls := cls) (names := names) (ic := ic) hown' hcls hnames h (fun x hx => nomatch hx) hfX hkX hcellA (by rw [hhp, hT]; exact Nat.le_refl _) (msg := .ref sa) rfl
    (g := { method := m, pc := pc + 7, locals := ls, stack := .ref sa :: .ref T.heap.size :: .ref T.heap.size :: rest, locked := none }) rfl hsize rfl rfl (rest := rest) rfl
    (by rw [hb]; exact d7) (by rw [hb]; exact d10) hout hRframes (by simp only [List.map_cons, List.sum_cons, hcat]; omega) hlocks
  obtain ⟨f1, f2⟩ := vx_frame hsame
  rw [hhp] at f1 f2
  have hWs : s.WarmedH U.vm := State.WarmedH.trans hW0 hW
  have hcl : s.vm.findClass cls = some ce.cls := by
    have h9 := hO.cls
    rw [hvm] at h9
    exact h9
  have hall : s.sameButNew ({ U with vm := s.vm } : State) locs mc ms := by
    subst hA
    obtain ⟨e1, e2⟩ := hsame
    rw [State.setFrames_setFrames] at e1
    have h2 : (T.setVm s.vm).sameButNew ({ U with vm := s.vm } : State) [] (0 + 1) (0 + 6) := ⟨e1, e2⟩
    have h3 := X.same.trans h2
    rw [List.append_nil] at h3
    exact h3.mono hc hs
  refine ⟨U, ?_, .threw T.heap.size, hrun, hend, Or.inr ⟨T.heap.size, rfl, cls, ce, locs, hx U hWs.alike f1 (fun q hq => f2 q hq (fun z hz => nomatch hz)), hce, hO.vm, hcl, hWs, hall, hf⟩⟩
  refine st1 _ ?_
  show Steps p.tables e below (T1.setTop { method := m, pc := pc + 3, locals := ls, stack := .ref T.heap.size :: rest, locked := none }) _
  jvm_step X₁.here [X₁.here.top, hexec, d3', Value.category]
  exact X₁.ldcStringW hexec (own := own) (text := text) (index := is) (a := sa) hown' hstr'.1 hstr'.2
    (g := { method := m, pc := pc + 4, locals := ls, stack := .ref T.heap.size :: .ref T.heap.size :: rest, locked := none }) rfl d4' _ hsteps
end Ends
section Bodies
variable {l : Launch}
theorem vx_ofW {y : MethodName} {ws ws' : List Cond} {rm : Room} {Pc : Array Value → State → Prop} {Qc : Array Value → State → Outcome → State → Prop} {XC : String → State → State → Prop} {mc ms : Nat} {free : Addr → Prop} {cc : ByteArray} {maxL : Nat} {ret : Option FieldType}
    (hy : plainName y.cls = true) (hw : ws = Cond.code y cc maxL ret :: ws')
    (body : ∀ p e s m args below meth c s₁, BodyLoose p l y (headSpec ws rm) cc maxL ret e s m args below meth c s₁ → c.maxLocals = maxL → (∀ x ∈ c.exceptionTable.toList, False) → Pc args s →
      W p l e (headSpec ws rm).room s m args below meth c s.heap [] 0 0 (vx_MQ below Qc XC args s mc ms free) (entryFrame m args maxL)) : vx_Met l y ws rm Pc Qc XC mc ms free := by
  refine MetFree.of_bodyS (code := cc) (maxLocals := maxL) (ret := ret) hy ?_ ?_
  · intro args s m h hn
    obtain ⟨meth, c, h1, h2, h3, h4, h5, h6, -, -⟩ := Cond.code_spec hn (atoms_spec (ws := ws) h _ (by rw [hw]; exact List.mem_cons_self))
    exact ⟨meth, c, h1, h2, h3, h4, h5, h6⟩
  · intro p e s m args below meth c s₁ B hml hP _
    have hh0 : s₁.heap = s.heap := by rw [B.state]; rfl
    have ht : ∀ x ∈ c.exceptionTable.toList, False := by
      obtain ⟨meth9, c9, h1, h2, -, -, -, -, h7, -⟩ := Cond.code_spec B.named (atoms_spec (ws := ws) B.pre _ (by rw [hw]; exact List.mem_cons_self))
      cases Option.some.inj (h1.symm.trans B.method)
      cases Option.some.inj (h2.symm.trans (Stand.of_body B).code)
      intro x hx
      rw [Array.isEmpty_iff.mp h7] at hx
      cases hx
    obtain ⟨t, a1, o, b1, b2, b3⟩ := body p e s m args below meth c s₁ B hml ht hP s₁ hh0 (Stand.of_body B)
    exact ⟨t, o, a1, b1, b2, b3⟩
/-- the table of a body with handlers -/
theorem vx_table {p : Program} {x y : MethodName} {S : Spec} {cc bytes : ByteArray} {maxL maxL' : Nat} {ret ret' : Option FieldType} {e : Env} {s s₁ : State} {m : MethodId} {args : Array Value} {below : List Frame} {meth : Method} {c : Code} {hh : List (Nat × Nat × Nat × Nat)}
    (B : BodyLoose p l y S cc maxL ret e s m args below meth c s₁) (h : (Cond.codeWith y bytes maxL' ret' hh).before args s = true) : c.exceptionTable.toList = tableOf hh := by
  obtain ⟨m9, meth9, c9, hn9, h1, h2, -, -, h6, -⟩ := Cond.codeWith_spec h
  cases Option.some.inj (hn9.symm.trans B.named)
  cases Option.some.inj (h1.symm.trans B.method)
  cases Option.some.inj (h2.symm.trans (Stand.of_body B).code)
  rw [← h6, table_eq]
end Bodies
end VXA
/-! ===== END ===== -/
/-! ===== BEGIN a static call of a method with an exception table ===== -/
section VXS
variable {p : Program} {l : Launch} {e : Env} {R : Room} {s : State} {m : MethodId} {args : Array Value} {below : List Frame} {meth : Method} {c : Code} {T : State} {H : Heap} {locs : List Loc} {cells slots : Nat}
abbrev vx_CSW (R : Room) (s : State) (args : Array Value) (own : String) (index : Nat) (y : MethodName) (bytes : ByteArray) (maxL : Nat) (ret : Option FieldType) (hh : List (Nat × Nat × Nat × Nat)) (ws : List Cond) (rm : Room) (mc ms n : Nat) : Prop :=
  (rm.cells = mc ∧ rm.slots = ms ∧ rm.frames + 1 ≤ R.frames ∧ 8 + (maxL + 11) + rm.locals ≤ R.locals ∧ (∀ w ∈ ws, ∀ (a' : Array Value) (U : State), s.WarmedH U.vm → w.before a' U = true) ∧ Cond.codeWith y bytes maxL ret hh ∈ ws) ∧
  (Cond.codeWith y bytes maxL ret hh).before args s = true ∧ (Cond.initialized y.cls).before args s = true ∧ (y.cls ≠ "java/lang/invoke/MethodHandle" ∧ y.cls ≠ "java/lang/invoke/VarHandle") ∧
  (∀ sig, parseMethodDescriptor y.desc = some sig → n = sig.parameters.length) ∧ (Cond.methodLink own index y).before args s = true ∧ (Cond.static y).before args s = true
theorem vx_cwSW {own : String} {index maxL mc ms : Nat} {y : MethodName} {bytes : ByteArray} {ret : Option FieldType} {hh : List (Nat × Nat × Nat × Nat)} {Ts ws ws' : List Cond} {rm : Room} (n : Nat) (ht : ∀ w ∈ Ts, w.before args s = true) (hT : GoodIn Ts (va_wsS own index y ws)) (hw : ws = Cond.codeWith y bytes maxL ret hh :: ws') (hrc : rm.cells = mc) (hrs : rm.slots = ms)
    (hd : y.cls ≠ "java/lang/invoke/MethodHandle" ∧ y.cls ≠ "java/lang/invoke/VarHandle" ∧ (parseMethodDescriptor y.desc).map (fun d => d.parameters.length) = some n) (hR : rm.frames + 1 ≤ R.frames ∧ 8 + (maxL + 11) + rm.locals ≤ R.locals) :
    vx_CSW R s args own index y bytes maxL ret hh ws rm mc ms n := by
  have ok : ∀ w ∈ va_wsS own index y ws, w.before args s = true := fun w h => ht w (hT w h).1
  have hG : GoodIn Ts ws := fun w h => hT w (by unfold va_wsS; exact List.mem_append_right _ h)
  have hc : Cond.codeWith y bytes maxL ret hh ∈ ws := by rw [hw]; exact List.mem_cons_self
  refine ⟨⟨hrc, hrs, hR.1, hR.2, pay_in ht hG, hc⟩, ht _ (hG _ hc).1, ok _ (by simp [va_wsS]), ⟨hd.1, hd.2.1⟩, fun sig h => ?_, ok _ (by simp [va_wsS]), ok _ (by simp [va_wsS])⟩
  have h2 := hd.2.2
  rw [h] at h2
  exact (Option.some.inj h2).symm
theorem vx_callSW (X : Stand p l e R s m args below meth c T locs cells slots) (hexec : p.tables.exec = Jvm.exec) {own : String} {index : Nat} {y : MethodName} {bytes : ByteArray} {maxL : Nat} {ret : Option FieldType} {hh : List (Nat × Nat × Nat × Nat)}
    (hown : s.vm.findClass own = some m.cls) (hlink : (Cond.methodLink own index y).before args s = true) (hstat : (Cond.static y).before args s = true) (hinit : (Cond.initialized y.cls).before args s = true)
    (hcode : (Cond.codeWith y bytes maxL ret hh).before args s = true) (hy : y.cls ≠ "java/lang/invoke/MethodHandle" ∧ y.cls ≠ "java/lang/invoke/VarHandle")
    {W9 : Nat} {Pre : Pt → Array Value → Prop} {Post : Pt → Array Value → Option Value → Pt → Prop} (hK : Back l R p e below s args y 3 W9 Pre Post)
    {g : JFrame} (hg : g.method = m) (hsize : g.locals.size = c.maxLocals) {argsL rest : List Value} (hlen : ∀ sig, parseMethodDescriptor y.desc = some sig → argsL.length = sig.parameters.length)
    (hstack : g.stack = argsL.reverse ++ rest) (hW : 2 * g.monitorRoom + (rest.map fun v => v.category).sum ≤ W9) (hdg : decode c.code g.pc = .ok (.invokestatic index, 3))
    (hpre : ∀ vm₁, s.WarmedH vm₁ → Pre ⟨T.setVm vm₁, locs, cells, slots⟩ argsL.toArray) :
    ∃ (v : Option Value) (vm₁ : Vm) (B : Pt), s.WarmedH vm₁ ∧ Stand p l e R s m args below meth c B.U B.locs B.cells B.slots ∧ Post ⟨T.setVm vm₁, locs, cells, slots⟩ argsL.toArray v B ∧
      ∀ target, Steps p.tables e below (B.U.setTop { g with pc := g.pc + 3, stack := v.toList ++ rest }) target → Steps p.tables e below (T.setTop g) target := by
  obtain ⟨mk, methM, cM, hnamed, hmethM, -, -, -, -, -, -, hsigM⟩ := Cond.codeWith_spec hcode
  have hstatic : methM.isStatic = true := Cond.static_spec hnamed hmethM hstat
  obtain ⟨kP, hkP, -⟩ := className_of_methodNamed hnamed
  have hinitP : kP.init = .initialized := Cond.initialized_spec (findClass_of_methodNamed hnamed) hkP hinit
  obtain ⟨vm₁, X₁, hstep₁⟩ := X.invokestatic hexec hown hlink hnamed hmethM hstatic hkP hinitP hy (g := g) hg (argsL := argsL) (rest := rest) (hlen _ hsigM) hstack hdg
  obtain ⟨v, B, X', hpost, hsteps⟩ := hK m meth c ⟨T.setVm vm₁, locs, cells, slots⟩ { g with stack := rest } (.invokestatic index) mk argsL.toArray X₁ hg hsize hdg hW (X₁.named hnamed) (hpre vm₁ X₁.warmed)
  exact ⟨v, vm₁, B, X₁.warmed, X', hpost, fun target h => hstep₁ _ fun acts => by rw [doInvoke_state]; exact hsteps.trans h⟩
theorem vx_runSW {y : MethodName} {bytes cc : ByteArray} {maxL nL mc ms n index : Nat} {ret : Option FieldType} {hh : List (Nat × Nat × Nat × Nat)} {ws : List Cond} {rm : Room} {Pc : Array Value → State → Prop} {Qc : Array Value → State → Outcome → State → Prop} {free : Addr → Prop} {Ts : List Cond} {own : String} {As rest : List Value} {g : JFrame}
    (S : CallFix p m c cc nL s args Ts own) (hM : Met l y ws rm Pc Qc mc ms free) (cw : vx_CSW R s args own index y bytes maxL ret hh ws rm mc ms n) (hp : PreS s H Pc As)
    (hg : g.method = m) (hn : As.length = n) (hsize : g.locals.size = nL) (hstack : g.stack = As.reverse ++ rest) (hW : 2 * g.monitorRoom + (rest.map fun v => v.category).sum ≤ 8) (hdg : decode cc g.pc = .ok (.invokestatic index, 3)) (hf : cells + mc ≤ R.cells ∧ slots + ms ≤ R.slots) :
    va_Run p l e R s m args below meth c H locs cells slots mc ms g rest (Qc As.toArray) (free) := by
  obtain ⟨⟨hrc, hrs, hfr, hlo, hws, hcw⟩, hcode, hini, hy, hlen, hl, hstt⟩ := cw
  have hK : Back l R p e below s args y 3 8 (PreOf R mc ms Pc) (PostOf Qc mc ms free) := va_backW (hh := hh) (bytes := bytes) (maxL := maxL) (ret := ret) hM hp.1 hrc hrs hfr hlo hws hcw (fun a' U hW => word_at hW (Or.inl (by first | rfl | simp [Cond.onTables, Cond.keeps, Cond.steady])) hini)
  obtain ⟨hx, hb, hml, ho, -⟩ := S
  intro T hT X
  obtain ⟨v, vm₁, ⟨U', l2, c2, s2⟩, hW₁, X', ⟨g', mk, t, L, e1, e2, hq, h1, hL, h2, h3⟩, st⟩ := vx_callSW X hx (hh := hh) (bytes := bytes) (maxL := maxL) (ret := ret) ho hl hstt hini hcode hy hK hg (hsize.trans hml.symm) (argsL := As) (rest := rest) (fun sig h => hn.trans (hlen sig h)) hstack hW (by rw [hb]; exact hdg)
    (fun vm₁ hW₁ => ⟨hf.1, hf.2, hp.2 (T.setVm vm₁) hT hW₁⟩)
  dsimp only [Pt.U, Pt.locs, Pt.cells, Pt.slots] at X' e1 e2 h1 h2 h3 st
  subst h1; subst h2; subst h3
  exact ⟨v, (T.setVm vm₁).calling g' mk As.toArray, t, U', L, hT, X', hL, e1, e2, hq, st⟩
/-- not caught here, past rows that name other classes: it goes on to the caller -/
theorem vx_outP {p : Program} {l : Launch} {e : Env} {R : Room} {s : State} {m : MethodId} {args : Array Value} {below : List Frame} {meth : Method} {c : Code} {H : Heap} {locs : List Loc} {cells slots : Nat} {free : Addr → Prop} {ls : Array Slot} {rest : List Value} {Qc : Array Value → State → Outcome → State → Prop} {XC : String → State → State → Prop}
    {pc : Nat} {own E : String} {ce : Cell} {q : Addr} {mc ms : Nat} (hown : s.vm.findClass own = some m.cls) (hlocks : meth.locks = false)
    (hpass : ∀ z ∈ c.exceptionTable.toList, covers z pc = false ∨ (z.catchType ≠ 0 ∧ ∃ nm : String, (Cond.classLink own z.catchType nm).before args s = true ∧ va_Nc E nm s)) (hcell : H[q]? = some ce) (hv : ce.vm = .none) (hcl : s.vm.findClass E = some ce.cls)
    (hx : ∀ t : State, t.heap = H → s.vm.Alike t.vm → XC E s t) (hf : ∀ z ∈ locs, free z.base) (hc : cells ≤ mc) (hs : slots ≤ ms) :
    vx_W p l e R s m args below meth c H locs cells slots (vx_MQ below Qc XC args s mc ms free) (F0 m pc ls rest) q := by
  intro T hT X
  have hpl : e.platform.magicAccessors = ({} : Platform).magicAccessors := by rw [X.admits.platform]
  obtain ⟨vm', hW', X', st⟩ := X.outThrough hlocks q (g := F0 m pc ls rest) rfl rfl rfl (cell := ce) (by rw [hT]; exact hcell) (by rw [hv]; rfl)
    (by obtain ⟨k9, h9, -⟩ := Vm.findClass_spec hcl; exact ⟨k9, h9⟩) (fun z hz => by
      rcases hpass z hz with h | ⟨hz0, nm, hl1, hn1⟩
      · exact Or.inl h
      · obtain ⟨c6, hc6, hcl6⟩ := Cond.classLink_spec hown hl1 e.platform hpl
        obtain ⟨a8, b8, h1, h2, h3⟩ := hn1
        cases Option.some.inj (h1.symm.trans hcl)
        cases Option.some.inj (h2.symm.trans hc6)
        exact Or.inr ⟨hz0, _, hcl6, h3⟩)
  obtain ⟨g₀, hfr⟩ := X'.frames_eq
  have hcell9 : ((T.setVm vm').setFrames (.throwing q :: below)).heap[q]? = some ce := by
    show T.heap[q]? = some ce
    rw [hT]; exact hcell
  have hend : Ended ((T.setVm vm').setFrames (.throwing q :: below)) below (.threw q) := State.frames_setFrames _ (State.cur_lt_of_frames hfr)
  refine ⟨(T.setVm vm').setFrames (.throwing q :: below), ?_, .threw q, X'.here.running, hend, Or.inr ⟨q, rfl, E, ce, locs, hx _ hT (X'.ends _).1.alike, hcell9, hv, hcl, (X'.ends _).1, (X'.ends _).2.mono hc hs, hf⟩⟩
  rw [X.pushThrowing_eq]
  exact st
/-- a thing of a world lies in the heap -/
theorem vx_lt {D : va_G} {cl : List vw_C} {ws : va_W} {H1 : Heap} (h : va_P D cl ws H1) {k : Nat} {q : Nat × va_E} (hk : ws[k]? = some q) : q.1 < H1.size := (h k q hk).lt
end VXS
/-! ===== END ===== -/
/-! ===== BEGIN methods with a table of their own: called by a name, returning or throwing ===== -/
section VXH
/-! vx_backW, vx_callVX, vx_callSX, vx_callVW, vx_runVW, vx_runVX, vx_runSX, vx_ofWH follow the same proofs as their sisters above (Free/Laws.lean, Shelf42/LK1.lean); vx_outP calls Shelf42/NT130.lean (outThrough). -/
section
variable {l : Launch} {R : Room} {p : Program} {e : Env} {below : List Frame} {s : State} {sargs : Array Value} {y : MethodName} {len W9 : Nat}
theorem vx_backW {ws : List Cond} {rm : Room} {Pc : Array Value → State → Prop} {Qc : Array Value → State → Outcome → State → Prop} {XC : String → State → State → Prop} {mc ms : Nat} {free : Addr → Prop} {bytes : ByteArray} {maxL : Nat} {ret : Option FieldType} {hh : List (Nat × Nat × Nat × Nat)}
    (hM : vx_Met l y ws rm Pc Qc XC mc ms free) (hblind : FrameBlind Pc) (hrc : rm.cells = mc) (hrs : rm.slots = ms)
    (hframes : rm.frames + 1 ≤ R.frames) (hlocals : W9 + (maxL + 11) + rm.locals ≤ R.locals)
    (hws : ∀ w ∈ ws, ∀ a' U, s.WarmedH U.vm → w.before a' U = true) (hcode : Cond.codeWith y bytes maxL ret hh ∈ ws) (hinit : ∀ a' U, s.WarmedH U.vm → (Cond.initialized y.cls).before a' U = true) :
    vx_Back l R p e below s sargs y len W9 (PreOf R mc ms Pc) (PostOf Qc mc ms free) (vx_Post XC mc ms free) := by
  intro m meth c A g ig mk a X hg hsize hdg hW hn hp
  have h1 : (headSpec ws rm).pre.before a A.U = true := atoms_intro fun w hw => hws w hw _ _ X.warmed
  have h2 : (Cond.codeWith y bytes maxL ret hh).before a A.U = true := hws _ hcode _ _ X.warmed
  have h3 : (Cond.initialized y.cls).before a A.U = true := hinit _ _ X.warmed
  have h4 : A.cells + (headSpec ws rm).room.cells ≤ R.cells := by rw [show (headSpec ws rm).room.cells = mc from hrc]; exact hp.1
  have h5 : A.slots + (headSpec ws rm).room.slots ≤ R.slots := by rw [show (headSpec ws rm).room.slots = ms from hrs]; exact hp.2.1
  have hPc : Pc a (A.U.calling g mk a) := hblind _ _ _ _ hp.2.2
  obtain ⟨U, Ls, c0, s0⟩ := A
  dsimp only [Pt.U, Pt.locs, Pt.cells, Pt.slots] at h1 h2 h3 h4 h5 X hn hPc ⊢
  obtain ⟨m9, methY, cY, hn9, hmY, hcY, -, hlY, -⟩ := Cond.codeWith_spec h2
  cases Option.some.inj (hn9.symm.trans hn)
  obtain ⟨kY, hkY, -⟩ := className_of_methodNamed hn
  have hinitY : kY.init = .initialized := Cond.initialized_spec (findClass_of_methodNamed hn) hkY h3
  have h : At U g.method c below := by rw [hg]; exact X.here
  have hlocals9 : W9 + (maxL + 11) + (headSpec ws rm).room.locals ≤ R.locals := hlocals
  have happ : (headSpec ws rm).appliesLoose y e.platform (U.calling g mk a) = true :=
    Spec.appliesLoose_calling (g := g) h hdg hn hkY hinitY
      (X.room_calling (g := g) (R' := (headSpec ws rm).room) hsize hmY hcY hframes (by rw [hlY]; omega) h4 h5) h1
  obtain ⟨mid, hmid⟩ := h.above
  have hfr : (U.setTop g).frames = (.java g :: mid) ++ below := by rw [State.frames_setTop' g h.top, hmid]; rfl
  obtain ⟨o, s₂, hsteps, -, hend, hq⟩ := Steps.callFree hM p X.admits X.cas X.clock (acts := []) hfr happ hPc trivial
  have hq' : vx_Q Qc XC mc ms free a (U.calling g mk a) o s₂ := hq
  rw [State.frames_setTop' g h.top] at hend
  obtain ⟨g₀, hg0⟩ := Option.isSome_iff_exists.mp h.top
  obtain ⟨r, hr⟩ := State.topJava?_eq_some.mp hg0
  have hr' : (({ U with heap := s₂.heap, slotsUsed := s₂.slotsUsed } : State).setVm s₂.vm).frames = .java g₀ :: r := hr
  rcases hq' with ⟨hqc, L, hfe, hL⟩ | ⟨q, rfl, E, ce, L, hx, hce, hcv, hcl, hW₂, hsm, hL⟩
  · obtain ⟨⟨v, rfl⟩, hW₂, e2, q2, q3, q4, q5, q6⟩ := id hfe
    have e3 : s₂ = ({ (U.calling g mk a).setFrames s₂.frames with heap := s₂.heap, slotsUsed := s₂.slotsUsed } : State).setVm s₂.vm := by
      have : s₂ = ({ s₂ with vm := (U.calling g mk a).vm } : State).setVm s₂.vm := rfl
      rw [e2] at this
      exact this
    obtain ⟨c₂, i₂, len₂, hc₂, hd₂, hf₂⟩ := hend
    have hW' : U.WarmedH s₂.vm := hW₂
    have hcc : c₂ = c := by
      have h1 : s₂.code? g.method = U.code? g.method := by
        rw [State.code?_eq, State.code?_eq, hW'.alike.method?]
      exact Option.some.inj (hc₂.symm.trans (h1.trans h.code))
    subst hcc
    have hlen : len₂ = len := by rw [hdg] at hd₂; cases hd₂; rfl
    subst hlen
    have hs₂ : s₂ = (({ U with heap := s₂.heap, slotsUsed := s₂.slotsUsed } : State).setVm s₂.vm).setTop { g with pc := g.pc + len₂, stack := v.toList ++ g.stack } := by
      refine e3.trans ?_
      rw [hf₂, State.calling_eq h.top, State.setFrames_setFrames, State.setTop_of_frames _ hr', hr]
      rfl
    have hsame : U.sameButNew ({ U with heap := s₂.heap, slotsUsed := s₂.slotsUsed } : State) L mc ms := by
      refine ⟨?_, q2, q3, q4, q5, q6⟩
      obtain ⟨t, ht, -⟩ := State.frames_cons hr
      show ({ U with heap := s₂.heap, slotsUsed := s₂.slotsUsed } : State) = { U.setFrames U.frames with heap := s₂.heap, slotsUsed := s₂.slotsUsed }
      rw [State.setFrames_self ht]
    subst hg
    refine Or.inl ⟨v, ⟨(({ U with heap := s₂.heap, slotsUsed := s₂.slotsUsed } : State).setVm s₂.vm), Ls ++ L, c0 + mc, s0 + ms⟩,
      ⟨X.admits, X.cas, X.clock, X.frames, X.room, X.hears, X.method, X.code, (X.here.setHeapUsed s₂.heap s₂.slotsUsed).setVm hW'.alike, X.tail, State.WarmedH.trans X.warmed hW', X.limits, X.bytes, X.same.trans (hsame.setVm s.vm)⟩,
      ⟨g, mk, s₂, L, rfl, rfl, hqc, rfl, hL, rfl, rfl⟩, ?_⟩
    show Steps p.tables e below _ ((({ U with heap := s₂.heap, slotsUsed := s₂.slotsUsed } : State).setVm s₂.vm).setTop { g with pc := g.pc + len₂, stack := v.toList ++ g.stack })
    rw [← hs₂]
    exact hsteps
  · obtain ⟨e2, q2, q3, q4, q5, q6⟩ := id hsm
    have e3 : s₂ = ({ (U.calling g mk a).setFrames s₂.frames with heap := s₂.heap, slotsUsed := s₂.slotsUsed } : State).setVm s₂.vm := by
      have : s₂ = ({ s₂ with vm := (U.calling g mk a).vm } : State).setVm s₂.vm := rfl
      rw [e2] at this
      exact this
    have hf₂ : s₂.frames = .throwing q :: .java g :: U.frames.tail := hend
    have hW' : U.WarmedH s₂.vm := hW₂
    have hs₂ : s₂ = ((({ U with heap := s₂.heap, slotsUsed := s₂.slotsUsed } : State).setVm s₂.vm).setTop g).pushFrame (.throwing q) := by
      refine e3.trans ?_
      rw [hf₂, State.calling_eq h.top, State.setFrames_setFrames, State.pushFrame, State.frames_setTop _ hr', State.setTop_of_frames _ hr', State.setFrames_setFrames, hr]
      rfl
    have hsame : U.sameButNew ({ U with heap := s₂.heap, slotsUsed := s₂.slotsUsed } : State) L mc ms := by
      refine ⟨?_, q2, q3, q4, q5, q6⟩
      obtain ⟨t, ht, -⟩ := State.frames_cons hr
      show ({ U with heap := s₂.heap, slotsUsed := s₂.slotsUsed } : State) = { U.setFrames U.frames with heap := s₂.heap, slotsUsed := s₂.slotsUsed }
      rw [State.setFrames_self ht]
    subst hg
    refine Or.inr ⟨q, ⟨(({ U with heap := s₂.heap, slotsUsed := s₂.slotsUsed } : State).setVm s₂.vm), Ls ++ L, c0 + mc, s0 + ms⟩,
      ⟨X.admits, X.cas, X.clock, X.frames, X.room, X.hears, X.method, X.code, (X.here.setHeapUsed s₂.heap s₂.slotsUsed).setVm hW'.alike, X.tail, State.WarmedH.trans X.warmed hW', X.limits, X.bytes, X.same.trans (hsame.setVm s.vm)⟩,
      ⟨g, mk, s₂, L, E, ce, rfl, rfl, hx, hce, hcv, hcl, rfl, hL, rfl, rfl⟩, ?_⟩
    show Steps p.tables e below _ (((({ U with heap := s₂.heap, slotsUsed := s₂.slotsUsed } : State).setVm s₂.vm).setTop g).pushFrame (.throwing q))
    rw [← hs₂]
    exact hsteps
end
variable {p : Program} {l : Launch} {e : Env} {R : Room} {s : State} {m : MethodId} {args : Array Value} {below : List Frame} {meth : Method} {c : Code} {T : State} {H : Heap} {locs : List Loc} {cells slots : Nat}
theorem vx_callVX (X : Stand p l e R s m args below meth c T locs cells slots) (hexec : p.tables.exec = Jvm.exec) {own C : String} {index : Nat} {y : MethodName} {bytes : ByteArray} {maxL : Nat} {ret : Option FieldType} {hh : List (Nat × Nat × Nat × Nat)}
    (hown : s.vm.findClass own = some m.cls) (hlink : (Cond.methodLink own index y).before args s = true) (hinst : (Cond.instanceMethod y).before args s = true) (hsel : (Cond.selects C y y).before args s = true)
    (hcode : (Cond.codeWith y bytes maxL ret hh).before args s = true) (hy : y.cls ≠ "java/lang/invoke/MethodHandle" ∧ y.cls ≠ "java/lang/invoke/VarHandle")
    {W9 : Nat} {Pre : Pt → Array Value → Prop} {Post : Pt → Array Value → Option Value → Pt → Prop} {PostX : Pt → Array Value → Addr → Pt → Prop} (hK : vx_Back l R p e below s args y 3 W9 Pre Post PostX)
    {b : Addr} {cellB : Cell} (hcell : T.heap[b]? = some cellB) (hobj : cellB.vm.isStatics = false) (hcls : s.vm.findClass C = some cellB.cls)
    {g : JFrame} (hg : g.method = m) (hsize : g.locals.size = c.maxLocals) {argsL rest : List Value} (hlen : ∀ sig, parseMethodDescriptor y.desc = some sig → argsL.length = sig.parameters.length)
    (hstack : g.stack = argsL.reverse ++ .ref b :: rest) (hW : 2 * g.monitorRoom + (rest.map fun v => v.category).sum ≤ W9) (hdg : decode c.code g.pc = .ok (.invokevirtual index, 3))
    (hpre : ∀ vm₁, s.WarmedH vm₁ → Pre ⟨T.setVm vm₁, locs, cells, slots⟩ (Value.ref b :: argsL).toArray) :
    (∃ (v : Option Value) (vm₁ : Vm) (B : Pt), s.WarmedH vm₁ ∧ Stand p l e R s m args below meth c B.U B.locs B.cells B.slots ∧ Post ⟨T.setVm vm₁, locs, cells, slots⟩ (Value.ref b :: argsL).toArray v B ∧
      ∀ target, Steps p.tables e below (B.U.setTop { g with pc := g.pc + 3, stack := v.toList ++ rest }) target → Steps p.tables e below (T.setTop g) target) ∨
    (∃ (q : Addr) (vm₁ : Vm) (B : Pt), s.WarmedH vm₁ ∧ Stand p l e R s m args below meth c B.U B.locs B.cells B.slots ∧ PostX ⟨T.setVm vm₁, locs, cells, slots⟩ (Value.ref b :: argsL).toArray q B ∧
      Steps p.tables e below (T.setTop g) ((B.U.setTop { g with stack := rest }).pushFrame (.throwing q))) := by
  obtain ⟨mk, methM, hnamed, hmethM, hstM, habM⟩ := Cond.instanceMethod_spec hinst
  obtain ⟨m8, methM', cM, hn8, hmethM', -, -, -, -, -, -, hsigM⟩ := Cond.codeWith_spec hcode
  cases Option.some.inj (hn8.symm.trans hnamed)
  cases hmethM.symm.trans hmethM'
  obtain ⟨c2, r2, m2, q1, q2, q3, q4, kP, hkP, hkPi⟩ := Cond.selects_spec hsel
  cases hcls.symm.trans q1
  cases (State.methodFound?_of_named hnamed hy).symm.trans q2
  cases hnamed.symm.trans q3
  have hselP : selectMethod e.platform s.vm cellB.cls mk = .method mk := by rw [Launch.admits_selectMethod X.admits]; exact q4
  obtain ⟨vm₁, X₁, hstep₁⟩ := X.invokevirtual hexec hown hlink hnamed hmethM hstM hkP hkPi hy (a := b) (cell := cellB) hcell
    (fun z h => by rw [h] at hobj; cases hobj) hselP hmethM habM hkP hkPi (g := g) hg (argsL := argsL) (rest := rest) (hlen _ hsigM) hstack hdg
  rcases hK m meth c ⟨T.setVm vm₁, locs, cells, slots⟩ { g with stack := rest } (.invokevirtual index) mk (Value.ref b :: argsL).toArray X₁ hg hsize hdg hW (X₁.named hnamed) (hpre vm₁ X₁.warmed) with ⟨v, B, X', hpost, hsteps⟩ | ⟨q, B, X', hpost, hsteps⟩
  · exact Or.inl ⟨v, vm₁, B, X₁.warmed, X', hpost, fun target h => hstep₁ _ fun acts => by rw [doInvoke_state]; exact hsteps.trans h⟩
  · exact Or.inr ⟨q, vm₁, B, X₁.warmed, X', hpost, hstep₁ _ fun acts => by rw [doInvoke_state]; exact hsteps⟩
theorem vx_callSX (X : Stand p l e R s m args below meth c T locs cells slots) (hexec : p.tables.exec = Jvm.exec) {own : String} {index : Nat} {y : MethodName} {bytes : ByteArray} {maxL : Nat} {ret : Option FieldType} {hh : List (Nat × Nat × Nat × Nat)}
    (hown : s.vm.findClass own = some m.cls) (hlink : (Cond.methodLink own index y).before args s = true) (hstat : (Cond.static y).before args s = true) (hinit : (Cond.initialized y.cls).before args s = true)
    (hcode : (Cond.codeWith y bytes maxL ret hh).before args s = true) (hy : y.cls ≠ "java/lang/invoke/MethodHandle" ∧ y.cls ≠ "java/lang/invoke/VarHandle")
    {W9 : Nat} {Pre : Pt → Array Value → Prop} {Post : Pt → Array Value → Option Value → Pt → Prop} {PostX : Pt → Array Value → Addr → Pt → Prop} (hK : vx_Back l R p e below s args y 3 W9 Pre Post PostX)
    {g : JFrame} (hg : g.method = m) (hsize : g.locals.size = c.maxLocals) {argsL rest : List Value} (hlen : ∀ sig, parseMethodDescriptor y.desc = some sig → argsL.length = sig.parameters.length)
    (hstack : g.stack = argsL.reverse ++ rest) (hW : 2 * g.monitorRoom + (rest.map fun v => v.category).sum ≤ W9) (hdg : decode c.code g.pc = .ok (.invokestatic index, 3))
    (hpre : ∀ vm₁, s.WarmedH vm₁ → Pre ⟨T.setVm vm₁, locs, cells, slots⟩ argsL.toArray) :
    (∃ (v : Option Value) (vm₁ : Vm) (B : Pt), s.WarmedH vm₁ ∧ Stand p l e R s m args below meth c B.U B.locs B.cells B.slots ∧ Post ⟨T.setVm vm₁, locs, cells, slots⟩ argsL.toArray v B ∧
      ∀ target, Steps p.tables e below (B.U.setTop { g with pc := g.pc + 3, stack := v.toList ++ rest }) target → Steps p.tables e below (T.setTop g) target) ∨
    (∃ (q : Addr) (vm₁ : Vm) (B : Pt), s.WarmedH vm₁ ∧ Stand p l e R s m args below meth c B.U B.locs B.cells B.slots ∧ PostX ⟨T.setVm vm₁, locs, cells, slots⟩ argsL.toArray q B ∧
      Steps p.tables e below (T.setTop g) ((B.U.setTop { g with stack := rest }).pushFrame (.throwing q))) := by
  obtain ⟨mk, methM, cM, hnamed, hmethM, -, -, -, -, -, -, hsigM⟩ := Cond.codeWith_spec hcode
  have hstatic : methM.isStatic = true := Cond.static_spec hnamed hmethM hstat
  obtain ⟨kP, hkP, -⟩ := className_of_methodNamed hnamed
  have hinitP : kP.init = .initialized := Cond.initialized_spec (findClass_of_methodNamed hnamed) hkP hinit
  obtain ⟨vm₁, X₁, hstep₁⟩ := X.invokestatic hexec hown hlink hnamed hmethM hstatic hkP hinitP hy (g := g) hg (argsL := argsL) (rest := rest) (hlen _ hsigM) hstack hdg
  rcases hK m meth c ⟨T.setVm vm₁, locs, cells, slots⟩ { g with stack := rest } (.invokestatic index) mk argsL.toArray X₁ hg hsize hdg hW (X₁.named hnamed) (hpre vm₁ X₁.warmed) with ⟨v, B, X', hpost, hsteps⟩ | ⟨q, B, X', hpost, hsteps⟩
  · exact Or.inl ⟨v, vm₁, B, X₁.warmed, X', hpost, fun target h => hstep₁ _ fun acts => by rw [doInvoke_state]; exact hsteps.trans h⟩
  · exact Or.inr ⟨q, vm₁, B, X₁.warmed, X', hpost, hstep₁ _ fun acts => by rw [doInvoke_state]; exact hsteps⟩
theorem vx_callVW (X : Stand p l e R s m args below meth c T locs cells slots) (hexec : p.tables.exec = Jvm.exec) {own C : String} {index : Nat} {y : MethodName} {bytes : ByteArray} {maxL : Nat} {ret : Option FieldType} {hh : List (Nat × Nat × Nat × Nat)}
    (hown : s.vm.findClass own = some m.cls) (hlink : (Cond.methodLink own index y).before args s = true) (hinst : (Cond.instanceMethod y).before args s = true) (hsel : (Cond.selects C y y).before args s = true)
    (hcode : (Cond.codeWith y bytes maxL ret hh).before args s = true) (hy : y.cls ≠ "java/lang/invoke/MethodHandle" ∧ y.cls ≠ "java/lang/invoke/VarHandle")
    {W9 : Nat} {Pre : Pt → Array Value → Prop} {Post : Pt → Array Value → Option Value → Pt → Prop} (hK : Back l R p e below s args y 3 W9 Pre Post)
    {b : Addr} {cellB : Cell} (hcell : T.heap[b]? = some cellB) (hobj : cellB.vm.isStatics = false) (hcls : s.vm.findClass C = some cellB.cls)
    {g : JFrame} (hg : g.method = m) (hsize : g.locals.size = c.maxLocals) {argsL rest : List Value} (hlen : ∀ sig, parseMethodDescriptor y.desc = some sig → argsL.length = sig.parameters.length)
    (hstack : g.stack = argsL.reverse ++ .ref b :: rest) (hW : 2 * g.monitorRoom + (rest.map fun v => v.category).sum ≤ W9) (hdg : decode c.code g.pc = .ok (.invokevirtual index, 3))
    (hpre : ∀ vm₁, s.WarmedH vm₁ → Pre ⟨T.setVm vm₁, locs, cells, slots⟩ (Value.ref b :: argsL).toArray) :
    ∃ (v : Option Value) (vm₁ : Vm) (B : Pt), s.WarmedH vm₁ ∧ Stand p l e R s m args below meth c B.U B.locs B.cells B.slots ∧ Post ⟨T.setVm vm₁, locs, cells, slots⟩ (Value.ref b :: argsL).toArray v B ∧
      ∀ target, Steps p.tables e below (B.U.setTop { g with pc := g.pc + 3, stack := v.toList ++ rest }) target → Steps p.tables e below (T.setTop g) target := by
  obtain ⟨mk, methM, hnamed, hmethM, hstM, habM⟩ := Cond.instanceMethod_spec hinst
  obtain ⟨m8, methM', cM, hn8, hmethM', -, -, -, -, -, -, hsigM⟩ := Cond.codeWith_spec hcode
  cases Option.some.inj (hn8.symm.trans hnamed)
  cases hmethM.symm.trans hmethM'
  obtain ⟨c2, r2, m2, q1, q2, q3, q4, kP, hkP, hkPi⟩ := Cond.selects_spec hsel
  cases hcls.symm.trans q1
  cases (State.methodFound?_of_named hnamed hy).symm.trans q2
  cases hnamed.symm.trans q3
  have hselP : selectMethod e.platform s.vm cellB.cls mk = .method mk := by rw [Launch.admits_selectMethod X.admits]; exact q4
  obtain ⟨vm₁, X₁, hstep₁⟩ := X.invokevirtual hexec hown hlink hnamed hmethM hstM hkP hkPi hy (a := b) (cell := cellB) hcell
    (fun z h => by rw [h] at hobj; cases hobj) hselP hmethM habM hkP hkPi (g := g) hg (argsL := argsL) (rest := rest) (hlen _ hsigM) hstack hdg
  obtain ⟨v, B, X', hpost, hsteps⟩ := hK m meth c ⟨T.setVm vm₁, locs, cells, slots⟩ { g with stack := rest } (.invokevirtual index) mk (Value.ref b :: argsL).toArray X₁ hg hsize hdg hW (X₁.named hnamed) (hpre vm₁ X₁.warmed)
  exact ⟨v, vm₁, B, X₁.warmed, X', hpost, fun target h => hstep₁ _ fun acts => by rw [doInvoke_state]; exact hsteps.trans h⟩
abbrev vx_CVW (R : Room) (s : State) (args : Array Value) (own C : String) (index : Nat) (y : MethodName) (bytes : ByteArray) (maxL : Nat) (ret : Option FieldType) (hh : List (Nat × Nat × Nat × Nat)) (ws : List Cond) (rm : Room) (mc ms n : Nat) : Prop :=
  (rm.cells = mc ∧ rm.slots = ms ∧ rm.frames + 1 ≤ R.frames ∧ 8 + (maxL + 11) + rm.locals ≤ R.locals ∧ (∀ w ∈ ws, ∀ (a' : Array Value) (U : State), s.WarmedH U.vm → w.before a' U = true) ∧ Cond.codeWith y bytes maxL ret hh ∈ ws) ∧
  (Cond.codeWith y bytes maxL ret hh).before args s = true ∧ (Cond.initialized y.cls).before args s = true ∧ (y.cls ≠ "java/lang/invoke/MethodHandle" ∧ y.cls ≠ "java/lang/invoke/VarHandle") ∧
  (∀ sig, parseMethodDescriptor y.desc = some sig → n = sig.parameters.length) ∧ (Cond.methodLink own index y).before args s = true ∧ (Cond.instanceMethod y).before args s = true ∧ (Cond.selects C y y).before args s = true
theorem vx_cwVW {own C : String} {index maxL mc ms : Nat} {y : MethodName} {bytes : ByteArray} {ret : Option FieldType} {hh : List (Nat × Nat × Nat × Nat)} {Ts ws ws' : List Cond} {rm : Room} (n : Nat) (ht : ∀ w ∈ Ts, w.before args s = true) (hT : GoodIn Ts (wsV own index C y ws)) (hw : ws = Cond.codeWith y bytes maxL ret hh :: ws') (hrc : rm.cells = mc) (hrs : rm.slots = ms)
    (hd : y.cls = C ∧ y.cls ≠ "java/lang/invoke/MethodHandle" ∧ y.cls ≠ "java/lang/invoke/VarHandle" ∧ (parseMethodDescriptor y.desc).map (fun d => d.parameters.length) = some n) (hR : rm.frames + 1 ≤ R.frames ∧ 8 + (maxL + 11) + rm.locals ≤ R.locals) :
    vx_CVW R s args own C index y bytes maxL ret hh ws rm mc ms n := by
  obtain ⟨hC, hd⟩ := hd
  subst hC
  have ok : ∀ w ∈ wsV own index y.cls y ws, w.before args s = true := fun w h => ht w (hT w h).1
  have hG : GoodIn Ts ws := fun w h => hT w (by unfold wsV; exact List.mem_append_right _ h)
  have hc : Cond.codeWith y bytes maxL ret hh ∈ ws := by rw [hw]; exact List.mem_cons_self
  refine ⟨⟨hrc, hrs, hR.1, hR.2, pay_in ht hG, hc⟩, ht _ (hG _ hc).1, ok _ (by simp [wsV]), ⟨hd.1, hd.2.1⟩, fun sig h => ?_, ok _ (by simp [wsV]), ok _ (by simp [wsV]), ok _ (by simp [wsV])⟩
  have h2 := hd.2.2
  rw [h] at h2
  exact (Option.some.inj h2).symm
theorem vx_runVW {y : MethodName} {bytes cc : ByteArray} {maxL nL mc ms n index : Nat} {ret : Option FieldType} {hh : List (Nat × Nat × Nat × Nat)} {ws : List Cond} {rm : Room} {Pc : Array Value → State → Prop} {Qc : Array Value → State → Outcome → State → Prop} {free : Addr → Prop} {Ts : List Cond} {own C : String} {b : Addr} {As rest : List Value} {g : JFrame}
    (S : CallFix p m c cc nL s args Ts own) (hM : Met l y ws rm Pc Qc mc ms free) (cw : vx_CVW R s args own C index y bytes maxL ret hh ws rm mc ms n) (hp : PreV s H C b Pc As)
    (hg : g.method = m) (hn : As.length = n) (hsize : g.locals.size = nL) (hstack : g.stack = As.reverse ++ .ref b :: rest) (hW : 2 * g.monitorRoom + (rest.map fun v => v.category).sum ≤ 8) (hdg : decode cc g.pc = .ok (.invokevirtual index, 3)) (hf : cells + mc ≤ R.cells ∧ slots + ms ≤ R.slots) :
    va_Run p l e R s m args below meth c H locs cells slots mc ms g rest (Qc (Value.ref b :: As).toArray) free := by
  obtain ⟨⟨hrc, hrs, hfr, hlo, hws, hcw⟩, hcode, hini, hy, hlen, hl, hin, hse⟩ := cw
  have hK : Back l R p e below s args y 3 8 (PreOf R mc ms Pc) (PostOf Qc mc ms free) := va_backW (hh := hh) (bytes := bytes) (maxL := maxL) (ret := ret) hM hp.1 hrc hrs hfr hlo hws hcw (fun a' U hW => word_at hW (Or.inl (by first | rfl | simp [Cond.onTables, Cond.keeps, Cond.steady])) hini)
  obtain ⟨hx, hb, hml, ho, -⟩ := S
  obtain ⟨-, ⟨cellB, hcB, hoB, hclB⟩, hPc⟩ := hp
  intro T hT X
  obtain ⟨v, vm₁, ⟨U', l2, c2, s2⟩, hW₁, X', ⟨g', mk, t, L, e1, e2, hq, h1, hL, h2, h3⟩, st⟩ := vx_callVW X hx (C := C) (hh := hh) (bytes := bytes) (maxL := maxL) (ret := ret) ho hl hin hse hcode hy hK (by rw [hT]; exact hcB) hoB hclB hg (hsize.trans hml.symm) (argsL := As) (rest := rest) (fun sig h => hn.trans (hlen sig h)) hstack hW (by rw [hb]; exact hdg)
    (fun vm₁ hW₁ => ⟨hf.1, hf.2, hPc (T.setVm vm₁) hT hW₁⟩)
  dsimp only [Pt.U, Pt.locs, Pt.cells, Pt.slots] at X' e1 e2 h1 h2 h3 st
  subst h1; subst h2; subst h3
  exact ⟨v, (T.setVm vm₁).calling g' mk (Value.ref b :: As).toArray, t, U', L, hT, X', hL, e1, e2, hq, st⟩
section
variable {y : MethodName} {bytes cc : ByteArray} {maxL nL mc ms n index : Nat} {ret : Option FieldType} {ws : List Cond} {rm : Room} {Pc : Array Value → State → Prop} {Qc : Array Value → State → Outcome → State → Prop} {XC : String → State → State → Prop} {free : Addr → Prop} {Ts : List Cond} {own C : String} {b : Addr} {As rest : List Value} {g : JFrame}
theorem vx_runVX {hh : List (Nat × Nat × Nat × Nat)} (S : CallFix p m c cc nL s args Ts own) (hM : vx_Met l y ws rm Pc Qc XC mc ms free) (cw : vx_CVW R s args own C index y bytes maxL ret hh ws rm mc ms n) (hp : PreV s H C b Pc As)
    (hg : g.method = m) (hn : As.length = n) (hsize : g.locals.size = nL) (hstack : g.stack = As.reverse ++ .ref b :: rest) (hW : 2 * g.monitorRoom + (rest.map fun v => v.category).sum ≤ 8) (hdg : decode cc g.pc = .ok (.invokevirtual index, 3)) (hf : cells + mc ≤ R.cells ∧ slots + ms ≤ R.slots) :
    vx_Run p l e R s m args below meth c H locs cells slots mc ms g rest (Qc (Value.ref b :: As).toArray) XC free := by
  obtain ⟨⟨hrc, hrs, hfr, hlo, hws, hcw⟩, hcode, hini, hy, hlen, hl, hin, hse⟩ := cw
  have hK : vx_Back l R p e below s args y 3 8 (PreOf R mc ms Pc) (PostOf Qc mc ms free) (vx_Post XC mc ms free) := vx_backW (hh := hh) (bytes := bytes) (maxL := maxL) (ret := ret) hM hp.1 hrc hrs hfr hlo hws hcw (fun a' U hW => word_at hW (Or.inl (by first | rfl | simp [Cond.onTables, Cond.keeps, Cond.steady])) hini)
  obtain ⟨hx, hb, hml, ho, -⟩ := S
  obtain ⟨-, ⟨cellB, hcB, hoB, hclB⟩, hPc⟩ := hp
  intro T hT X
  rcases vx_callVX X hx (C := C) (hh := hh) (bytes := bytes) (maxL := maxL) (ret := ret) ho hl hin hse hcode hy hK (by rw [hT]; exact hcB) hoB hclB hg (hsize.trans hml.symm) (argsL := As) (rest := rest) (fun sig h => hn.trans (hlen sig h)) hstack hW (by rw [hb]; exact hdg)
    (fun vm₁ hW₁ => ⟨hf.1, hf.2, hPc (T.setVm vm₁) hT hW₁⟩) with ⟨v, vm₁, ⟨U', l2, c2, s2⟩, hW₁, X', ⟨g', mk, t, L, e1, e2, hq, h1, hL, h2, h3⟩, st⟩ | ⟨q, vm₁, ⟨U', l2, c2, s2⟩, hW₁, X', ⟨g', mk, t, L, E, ce, e1, e2, hq, hce, hcv, hcl, h1, hL, h2, h3⟩, st⟩
  · dsimp only [Pt.U, Pt.locs, Pt.cells, Pt.slots] at X' e1 e2 h1 h2 h3 st
    subst h1; subst h2; subst h3
    exact Or.inl ⟨v, (T.setVm vm₁).calling g' mk (Value.ref b :: As).toArray, t, U', L, hT, X', hL, e1, e2, hq, st⟩
  · dsimp only [Pt.U, Pt.locs, Pt.cells, Pt.slots] at X' e1 e2 h1 h2 h3 st hcl
    subst h1; subst h2; subst h3
    exact Or.inr ⟨q, (T.setVm vm₁).calling g' mk (Value.ref b :: As).toArray, t, U', L, E, ce, hT, X', hL, e1, e2, hq, hce, hcv, vx_cls hW₁ hcl, st⟩
theorem vx_runSX {hh : List (Nat × Nat × Nat × Nat)} (S : CallFix p m c cc nL s args Ts own) (hM : vx_Met l y ws rm Pc Qc XC mc ms free) (cw : vx_CSW R s args own index y bytes maxL ret hh ws rm mc ms n) (hp : PreS s H Pc As)
    (hg : g.method = m) (hn : As.length = n) (hsize : g.locals.size = nL) (hstack : g.stack = As.reverse ++ rest) (hW : 2 * g.monitorRoom + (rest.map fun v => v.category).sum ≤ 8) (hdg : decode cc g.pc = .ok (.invokestatic index, 3)) (hf : cells + mc ≤ R.cells ∧ slots + ms ≤ R.slots) :
    vx_Run p l e R s m args below meth c H locs cells slots mc ms g rest (Qc As.toArray) XC free := by
  obtain ⟨⟨hrc, hrs, hfr, hlo, hws, hcw⟩, hcode, hini, hy, hlen, hl, hstt⟩ := cw
  have hK : vx_Back l R p e below s args y 3 8 (PreOf R mc ms Pc) (PostOf Qc mc ms free) (vx_Post XC mc ms free) := vx_backW (hh := hh) (bytes := bytes) (maxL := maxL) (ret := ret) hM hp.1 hrc hrs hfr hlo hws hcw (fun a' U hW => word_at hW (Or.inl (by first | rfl | simp [Cond.onTables, Cond.keeps, Cond.steady])) hini)
  obtain ⟨hx, hb, hml, ho, -⟩ := S
  intro T hT X
  rcases vx_callSX X hx (hh := hh) (bytes := bytes) (maxL := maxL) (ret := ret) ho hl hstt hini hcode hy hK hg (hsize.trans hml.symm) (argsL := As) (rest := rest) (fun sig h => hn.trans (hlen sig h)) hstack hW (by rw [hb]; exact hdg)
    (fun vm₁ hW₁ => ⟨hf.1, hf.2, hp.2 (T.setVm vm₁) hT hW₁⟩) with ⟨v, vm₁, ⟨U', l2, c2, s2⟩, hW₁, X', ⟨g', mk, t, L, e1, e2, hq, h1, hL, h2, h3⟩, st⟩ | ⟨q, vm₁, ⟨U', l2, c2, s2⟩, hW₁, X', ⟨g', mk, t, L, E, ce, e1, e2, hq, hce, hcv, hcl, h1, hL, h2, h3⟩, st⟩
  · dsimp only [Pt.U, Pt.locs, Pt.cells, Pt.slots] at X' e1 e2 h1 h2 h3 st
    subst h1; subst h2; subst h3
    exact Or.inl ⟨v, (T.setVm vm₁).calling g' mk As.toArray, t, U', L, hT, X', hL, e1, e2, hq, st⟩
  · dsimp only [Pt.U, Pt.locs, Pt.cells, Pt.slots] at X' e1 e2 h1 h2 h3 st hcl
    subst h1; subst h2; subst h3
    exact Or.inr ⟨q, (T.setVm vm₁).calling g' mk As.toArray, t, U', L, E, ce, hT, X', hL, e1, e2, hq, hce, hcv, vx_cls hW₁ hcl, st⟩
end
end VXH
theorem vx_ofWH {l : Launch} {y : MethodName} {ws ws' : List Cond} {rm : Room} {Pc : Array Value → State → Prop} {Qc : Array Value → State → Outcome → State → Prop} {XC : String → State → State → Prop} {mc ms : Nat} {free : Addr → Prop} {cc : ByteArray} {maxL : Nat} {ret : Option FieldType} {hh : List (Nat × Nat × Nat × Nat)}
    (hy : plainName y.cls = true) (hw : ws = Cond.codeWith y cc maxL ret hh :: ws')
    (body : ∀ p e s m args below meth c s₁, BodyLoose p l y (headSpec ws rm) cc maxL ret e s m args below meth c s₁ → c.maxLocals = maxL → Pc args s →
      W p l e (headSpec ws rm).room s m args below meth c s.heap [] 0 0 (vx_MQ below Qc XC args s mc ms free) (entryFrame m args maxL)) : vx_Met l y ws rm Pc Qc XC mc ms free := by
  refine MetFree.of_bodyS (code := cc) (maxLocals := maxL) (ret := ret) hy ?_ ?_
  · intro args s m h hn
    obtain ⟨m9, meth, c, hn9, h1, h2, h3, h4, -, h5, h6, -⟩ := Cond.codeWith_spec (atoms_spec (ws := ws) h _ (by rw [hw]; exact List.mem_cons_self))
    cases hn.symm.trans hn9
    exact ⟨meth, c, h1, h2, h3, h4, h5, h6⟩
  · intro p e s m args below meth c s₁ B hml hP _
    have hh0 : s₁.heap = s.heap := by rw [B.state]; rfl
    obtain ⟨t, a1, o, b1, b2, b3⟩ := body p e s m args below meth c s₁ B hml hP s₁ hh0 (Stand.of_body B)
    exact ⟨t, o, a1, b1, b2, b3⟩
/-! ===== END ===== -/
end
section
def RX0 : String := "ColourDuel$Board"
def TX0 : u_T := fun k => match k with
  | 0 => ("ColourDuel$Board", "number", "I", false)
  | 1 => ("ColourDuel$Board", "colours", "I", false)
  | 2 => ("ColourDuel$Board", "vertices", "I", false)
  | 3 => ("ColourDuel$Board", "passes", "I", false)
  | 4 => ("ColourDuel$Board", "free", "I", false)
  | 5 => ("ColourDuel$Board", "made", "I", false)
  | 6 => ("ColourDuel$Board", "latest", "LColourDuel$Move;", false)
  | 7 => ("ColourDuel$Board", "near", "[I", true)
  | 8 => ("ColourDuel$Board", "listed", "[I", true)
  | 9 => ("ColourDuel$Board", "painted", "[I", true)
  | _ => ("ColourDuel$Board", "banned", "[I", true)
def tyX0 : Nat → FieldType := fun k => match k with
  | 0 => .int
  | 1 => .int
  | 2 => .int
  | 3 => .int
  | 4 => .int
  | 5 => .int
  | 6 => .object "ColourDuel$Move"
  | 7 => .array .int
  | 8 => .array .int
  | 9 => .array .int
  | _ => .array .int
theorem nmX0 : ∀ a, a < 11 → ∀ b, b < 11 → a ≠ b → (TX0 a).2.1 ≠ (TX0 b).2.1 := by decide +kernel
theorem tyX0_ok : ∀ k, k < 11 → parseFieldDescriptor (TX0 k).2.2.1 = some (tyX0 k) := by decide +kernel
abbrev cX0_init : ByteArray := prog_2_method_1_code
def yX0_init : MethodName := ⟨RX0, "<init>", "()V"⟩
abbrev cX0_takeFrom : ByteArray := prog_2_method_2_code
def yX0_takeFrom : MethodName := ⟨RX0, "takeFrom", "(LColourDuel$Board;)V"⟩
abbrev cX0_startEmpty : ByteArray := prog_2_method_3_code
def yX0_startEmpty : MethodName := ⟨RX0, "startEmpty", "(I)V"⟩
abbrev cX0_isFull : ByteArray := prog_2_method_4_code
def yX0_isFull : MethodName := ⟨RX0, "isFull", "()Z"⟩
abbrev cX0_addVertex : ByteArray := prog_2_method_5_code
def yX0_addVertex : MethodName := ⟨RX0, "addVertex", "(I)V"⟩
abbrev cX0_addEdge : ByteArray := prog_2_method_6_code
def yX0_addEdge : MethodName := ⟨RX0, "addEdge", "(II)V"⟩
abbrev cX0_hasVertex : ByteArray := prog_2_method_7_code
def yX0_hasVertex : MethodName := ⟨RX0, "hasVertex", "(I)Z"⟩
abbrev cX0_hasPair : ByteArray := prog_2_method_8_code
def yX0_hasPair : MethodName := ⟨RX0, "hasPair", "(II)Z"⟩
abbrev cX0_everyVertex : ByteArray := prog_2_method_9_code
def yX0_everyVertex : MethodName := ⟨RX0, "everyVertex", "()I"⟩
abbrev cX0_everyColour : ByteArray := prog_2_method_10_code
def yX0_everyColour : MethodName := ⟨RX0, "everyColour", "()I"⟩
abbrev cX0_neighbours : ByteArray := prog_2_method_11_code
def yX0_neighbours : MethodName := ⟨RX0, "neighbours", "(I)I"⟩
abbrev cX0_edgesIn : ByteArray := prog_2_method_12_code
def yX0_edgesIn : MethodName := ⟨RX0, "edgesIn", "(I)I"⟩
abbrev cX0_listOf : ByteArray := prog_2_method_13_code
def yX0_listOf : MethodName := ⟨RX0, "listOf", "(I)I"⟩
abbrev cX0_coloursAt : ByteArray := prog_2_method_14_code
def yX0_coloursAt : MethodName := ⟨RX0, "coloursAt", "([II)I"⟩
abbrev cX0_isFree : ByteArray := prog_2_method_15_code
def yX0_isFree : MethodName := ⟨RX0, "isFree", "(I)Z"⟩
abbrev cX0_reachable : ByteArray := prog_2_method_16_code
def yX0_reachable : MethodName := ⟨RX0, "reachable", "(II)I"⟩
abbrev cX0_partWith : ByteArray := prog_2_method_17_code
def yX0_partWith : MethodName := ⟨RX0, "partWith", "(I)I"⟩
abbrev cX0_partsIn : ByteArray := prog_2_method_18_code
def yX0_partsIn : MethodName := ⟨RX0, "partsIn", "(I)I"⟩
abbrev cX0_partAt : ByteArray := prog_2_method_19_code
def yX0_partAt : MethodName := ⟨RX0, "partAt", "(I)I"⟩
abbrev cX0_partNumberOf : ByteArray := prog_2_method_20_code
def yX0_partNumberOf : MethodName := ⟨RX0, "partNumberOf", "(I)I"⟩
abbrev cX0_banOf : ByteArray := prog_2_method_21_code
def yX0_banOf : MethodName := ⟨RX0, "banOf", "(I)I"⟩
abbrev cX0_colourOf : ByteArray := prog_2_method_22_code
def yX0_colourOf : MethodName := ⟨RX0, "colourOf", "(I)I"⟩
abbrev cX0_whyNot : ByteArray := prog_2_method_23_code
def yX0_whyNot : MethodName := ⟨RX0, "whyNot", "(II)I"⟩
abbrev cX0_choicesOn : ByteArray := prog_2_method_24_code
def yX0_choicesOn : MethodName := ⟨RX0, "choicesOn", "(I)I"⟩
abbrev cX0_choicesIn : ByteArray := prog_2_method_25_code
def yX0_choicesIn : MethodName := ⟨RX0, "choicesIn", "(I)I"⟩
abbrev cX0_stuckVertices : ByteArray := prog_2_method_26_code
def yX0_stuckVertices : MethodName := ⟨RX0, "stuckVertices", "()I"⟩
abbrev cX0_openTo : ByteArray := prog_2_method_27_code
def yX0_openTo : MethodName := ⟨RX0, "openTo", "(I)I"⟩
abbrev cX0_turn : ByteArray := prog_2_method_28_code
def yX0_turn : MethodName := ⟨RX0, "turn", "()I"⟩
abbrev cX0_isOver : ByteArray := prog_2_method_29_code
def yX0_isOver : MethodName := ⟨RX0, "isOver", "()Z"⟩
abbrev cX0_passValue : ByteArray := prog_2_method_30_code
def yX0_passValue : MethodName := ⟨RX0, "passValue", "()I"⟩
abbrev cX0_paint : ByteArray := prog_2_method_31_code
def yX0_paint : MethodName := ⟨RX0, "paint", "(II)V"⟩
abbrev cX0_spendPass : ByteArray := prog_2_method_32_code
def yX0_spendPass : MethodName := ⟨RX0, "spendPass", "()V"⟩
abbrev cX0_moveAt : ByteArray := prog_2_method_33_code
def yX0_moveAt : MethodName := ⟨RX0, "moveAt", "(I)LColourDuel$Move;"⟩
abbrev cX0_movesBy : ByteArray := prog_2_method_34_code
def yX0_movesBy : MethodName := ⟨RX0, "movesBy", "(II)I"⟩
abbrev cX0_coloursLaidBy : ByteArray := prog_2_method_35_code
def yX0_coloursLaidBy : MethodName := ⟨RX0, "coloursLaidBy", "(I)I"⟩
def RX1 : String := "ColourDuel$History"
def TX1 : u_T := fun k => match k with
  | 0 => ("ColourDuel$History", "held", "I", false)
  | 1 => ("ColourDuel$History", "next", "I", false)
  | _ => ("ColourDuel$History", "kept", "[LColourDuel$Board;", true)
def tyX1 : Nat → FieldType := fun k => match k with
  | 0 => .int
  | 1 => .int
  | _ => .array (.object "ColourDuel$Board")
theorem nmX1 : ∀ a, a < 3 → ∀ b, b < 3 → a ≠ b → (TX1 a).2.1 ≠ (TX1 b).2.1 := by decide +kernel
theorem tyX1_ok : ∀ k, k < 3 → parseFieldDescriptor (TX1 k).2.2.1 = some (tyX1 k) := by decide +kernel
abbrev cX1_init : ByteArray := prog_3_method_1_code
def yX1_init : MethodName := ⟨RX1, "<init>", "()V"⟩
abbrev cX1_keep : ByteArray := prog_3_method_2_code
def yX1_keep : MethodName := ⟨RX1, "keep", "(LColourDuel$Board;)V"⟩
abbrev cX1_bringBack : ByteArray := prog_3_method_3_code
def yX1_bringBack : MethodName := ⟨RX1, "bringBack", "(LColourDuel$Board;)V"⟩
def RX2 : String := "ColourDuel$Move"
def TX2 : u_T := fun k => match k with
  | 0 => ("ColourDuel$Move", "before", "LColourDuel$Move;", true)
  | 1 => ("ColourDuel$Move", "vertex", "I", true)
  | 2 => ("ColourDuel$Move", "colour", "I", true)
  | 3 => ("ColourDuel$Move", "partsBehind", "I", true)
  | _ => ("ColourDuel$Move", "pieces", "I", true)
def tyX2 : Nat → FieldType := fun k => match k with
  | 0 => .object "ColourDuel$Move"
  | 1 => .int
  | 2 => .int
  | 3 => .int
  | _ => .int
theorem nmX2 : ∀ a, a < 5 → ∀ b, b < 5 → a ≠ b → (TX2 a).2.1 ≠ (TX2 b).2.1 := by decide +kernel
theorem tyX2_ok : ∀ k, k < 5 → parseFieldDescriptor (TX2 k).2.2.1 = some (tyX2 k) := by decide +kernel
abbrev cX2_init : ByteArray := prog_4_method_1_code
def yX2_init : MethodName := ⟨RX2, "<init>", "(LColourDuel$Move;IIII)V"⟩
abbrev cX2_countsAs : ByteArray := prog_4_method_2_code
def yX2_countsAs : MethodName := ⟨RX2, "countsAs", "(I)Z"⟩
def RX3 : String := "ColourDuel$Reader"
def TX3 : u_T := fun k => match k with
  | 0 => ("ColourDuel$Reader", "draft", "LColourDuel$Board;", true)
  | 1 => ("ColourDuel$Reader", "filled", "I", false)
  | 2 => ("ColourDuel$Reader", "errorAt", "I", false)
  | 3 => ("ColourDuel$Reader", "bytes", "[B", true)
  | 4 => ("ColourDuel$Reader", "length", "I", false)
  | 5 => ("ColourDuel$Reader", "error", "I", false)
  | 6 => ("ColourDuel$Reader", "kind", "I", false)
  | 7 => ("ColourDuel$Reader", "start", "I", false)
  | 8 => ("ColourDuel$Reader", "end", "I", false)
  | _ => ("ColourDuel$Reader", "number", "I", false)
def tyX3 : Nat → FieldType := fun k => match k with
  | 0 => .object "ColourDuel$Board"
  | 1 => .int
  | 2 => .int
  | 3 => .array .byte
  | 4 => .int
  | 5 => .int
  | 6 => .int
  | 7 => .int
  | 8 => .int
  | _ => .int
theorem nmX3 : ∀ a, a < 10 → ∀ b, b < 10 → a ≠ b → (TX3 a).2.1 ≠ (TX3 b).2.1 := by decide +kernel
theorem tyX3_ok : ∀ k, k < 10 → parseFieldDescriptor (TX3 k).2.2.1 = some (tyX3 k) := by decide +kernel
abbrev cX3_init : ByteArray := prog_5_method_1_code
def yX3_init : MethodName := ⟨RX3, "<init>", "(LColourDuel$Board;)V"⟩
abbrev cX3_addFour : ByteArray := prog_5_method_2_code
def yX3_addFour : MethodName := ⟨RX3, "addFour", "(I)V"⟩
abbrev cX3_readText : ByteArray := prog_5_method_3_code
def yX3_readText : MethodName := ⟨RX3, "readText", "(I)I"⟩
abbrev cX3_readHead : ByteArray := prog_5_method_4_code
def yX3_readHead : MethodName := ⟨RX3, "readHead", "()Z"⟩
abbrev cX3_readVertices : ByteArray := prog_5_method_5_code
def yX3_readVertices : MethodName := ⟨RX3, "readVertices", "()Z"⟩
abbrev cX3_readVertex : ByteArray := prog_5_method_6_code
def yX3_readVertex : MethodName := ⟨RX3, "readVertex", "()Z"⟩
abbrev cX3_readEdges : ByteArray := prog_5_method_7_code
def yX3_readEdges : MethodName := ⟨RX3, "readEdges", "()Z"⟩
abbrev cX3_readEdge : ByteArray := prog_5_method_8_code
def yX3_readEdge : MethodName := ⟨RX3, "readEdge", "()Z"⟩
abbrev cX3_readMoves : ByteArray := prog_5_method_9_code
def yX3_readMoves : MethodName := ⟨RX3, "readMoves", "()Z"⟩
abbrev cX3_readLay : ByteArray := prog_5_method_10_code
def yX3_readLay : MethodName := ⟨RX3, "readLay", "()Z"⟩
abbrev cX3_readPass : ByteArray := prog_5_method_11_code
def yX3_readPass : MethodName := ⟨RX3, "readPass", "()Z"⟩
abbrev cX3_readEnd : ByteArray := prog_5_method_12_code
def yX3_readEnd : MethodName := ⟨RX3, "readEnd", "()Z"⟩
abbrev cX3_readWord : ByteArray := prog_5_method_13_code
def yX3_readWord : MethodName := ⟨RX3, "readWord", "(Ljava/lang/String;)Z"⟩
abbrev cX3_readNumber : ByteArray := prog_5_method_14_code
def yX3_readNumber : MethodName := ⟨RX3, "readNumber", "(II)I"⟩
abbrev cX3_readSemicolon : ByteArray := prog_5_method_15_code
def yX3_readSemicolon : MethodName := ⟨RX3, "readSemicolon", "()Z"⟩
abbrev cX3_atWord : ByteArray := prog_5_method_16_code
def yX3_atWord : MethodName := ⟨RX3, "atWord", "(Ljava/lang/String;)Z"⟩
abbrev cX3_listHere : ByteArray := prog_5_method_17_code
def yX3_listHere : MethodName := ⟨RX3, "listHere", "()I"⟩
abbrev cX3_advance : ByteArray := prog_5_method_18_code
def yX3_advance : MethodName := ⟨RX3, "advance", "()V"⟩
abbrev cX3_byteAt : ByteArray := prog_5_method_19_code
def yX3_byteAt : MethodName := ⟨RX3, "byteAt", "(I)I"⟩
abbrev cX3_isLetter : ByteArray := prog_5_method_20_code
def yX3_isLetter : MethodName := ⟨RX3, "isLetter", "(I)Z"⟩
abbrev cX3_isDigit : ByteArray := prog_5_method_21_code
def yX3_isDigit : MethodName := ⟨RX3, "isDigit", "(I)Z"⟩
abbrev cX3_fail : ByteArray := prog_5_method_22_code
def yX3_fail : MethodName := ⟨RX3, "fail", "(I)Z"⟩
def RX4 : String := "ColourDuel$Solver"
def TX4 : u_T := fun k => match k with
  | 0 => ("ColourDuel$Solver", "board", "LColourDuel$Board;", true)
  | 1 => ("ColourDuel$Solver", "places", "[J", true)
  | _ => ("ColourDuel$Solver", "answers", "[I", true)
def tyX4 : Nat → FieldType := fun k => match k with
  | 0 => .object "ColourDuel$Board"
  | 1 => .array .long
  | _ => .array .int
theorem nmX4 : ∀ a, a < 3 → ∀ b, b < 3 → a ≠ b → (TX4 a).2.1 ≠ (TX4 b).2.1 := by decide +kernel
theorem tyX4_ok : ∀ k, k < 3 → parseFieldDescriptor (TX4 k).2.2.1 = some (tyX4 k) := by decide +kernel
abbrev cX4_init : ByteArray := prog_6_method_1_code
def yX4_init : MethodName := ⟨RX4, "<init>", "(LColourDuel$Board;)V"⟩
abbrev cX4_ofPartsIn : ByteArray := prog_6_method_2_code
def yX4_ofPartsIn : MethodName := ⟨RX4, "ofPartsIn", "(I)I"⟩
abbrev cX4_behindLay : ByteArray := prog_6_method_3_code
def yX4_behindLay : MethodName := ⟨RX4, "behindLay", "(II)I"⟩
abbrev cX4_without : ByteArray := prog_6_method_4_code
def yX4_without : MethodName := ⟨RX4, "without", "(I)I"⟩
abbrev cX4_placeOf : ByteArray := prog_6_method_5_code
def yX4_placeOf : MethodName := ⟨RX4, "placeOf", "(I)J"⟩
abbrev cX4_setShift : ByteArray := prog_6_method_6_code
def yX4_setShift : MethodName := ⟨RX4, "setShift", "(I)I"⟩
abbrev cX4_behind : ByteArray := prog_6_method_7_code
def yX4_behind : MethodName := ⟨RX4, "behind", "(JII)J"⟩
abbrev cX4_ofPieces : ByteArray := prog_6_method_8_code
def yX4_ofPieces : MethodName := ⟨RX4, "ofPieces", "(JI)I"⟩
abbrev cX4_ofPlace : ByteArray := prog_6_method_9_code
def yX4_ofPlace : MethodName := ⟨RX4, "ofPlace", "(JI)I"⟩
abbrev cX4_workOut : ByteArray := prog_6_method_10_code
def yX4_workOut : MethodName := ⟨RX4, "workOut", "(JI)I"⟩
def RX5 : String := "ColourDuel"
def TX5 : u_T := fun k => match k with
  | 0 => ("ColourDuel", "board", "LColourDuel$Board;", true)
  | 1 => ("ColourDuel", "solver", "LColourDuel$Solver;", true)
  | 2 => ("ColourDuel", "reader", "LColourDuel$Reader;", true)
  | 3 => ("ColourDuel", "history", "LColourDuel$History;", true)
  | 4 => ("ColourDuel", "slots", "[LColourDuel$Board;", true)
  | 5 => ("ColourDuel", "written", "[B", true)
  | 6 => ("ColourDuel", "writtenLength", "I", false)
  | _ => ("ColourDuel", "loads", "I", false)
def tyX5 : Nat → FieldType := fun k => match k with
  | 0 => .object "ColourDuel$Board"
  | 1 => .object "ColourDuel$Solver"
  | 2 => .object "ColourDuel$Reader"
  | 3 => .object "ColourDuel$History"
  | 4 => .array (.object "ColourDuel$Board")
  | 5 => .array .byte
  | 6 => .int
  | _ => .int
theorem nmX5 : ∀ a, a < 8 → ∀ b, b < 8 → a ≠ b → (TX5 a).2.1 ≠ (TX5 b).2.1 := by decide +kernel
theorem tyX5_ok : ∀ k, k < 8 → parseFieldDescriptor (TX5 k).2.2.1 = some (tyX5 k) := by decide +kernel
abbrev cX5_init : ByteArray := prog_1_method_1_code
def yX5_init : MethodName := ⟨RX5, "<init>", "()V"⟩
abbrev cX5_append : ByteArray := prog_1_method_2_code
def yX5_append : MethodName := ⟨RX5, "append", "(IIIII)I"⟩
abbrev cX5_load : ByteArray := prog_1_method_3_code
def yX5_load : MethodName := ⟨RX5, "load", "(I)I"⟩
abbrev cX5_errorPosition : ByteArray := prog_1_method_4_code
def yX5_errorPosition : MethodName := ⟨RX5, "errorPosition", "()I"⟩
abbrev cX5_count : ByteArray := prog_1_method_5_code
def yX5_count : MethodName := ⟨RX5, "count", "(I)I"⟩
abbrev cX5_vertex : ByteArray := prog_1_method_6_code
def yX5_vertex : MethodName := ⟨RX5, "vertex", "(II)I"⟩
abbrev cX5_reason : ByteArray := prog_1_method_7_code
def yX5_reason : MethodName := ⟨RX5, "reason", "(II)I"⟩
abbrev cX5_part : ByteArray := prog_1_method_8_code
def yX5_part : MethodName := ⟨RX5, "part", "(II)I"⟩
abbrev cX5_value : ByteArray := prog_1_method_9_code
def yX5_value : MethodName := ⟨RX5, "value", "()I"⟩
abbrev cX5_valueIf : ByteArray := prog_1_method_10_code
def yX5_valueIf : MethodName := ⟨RX5, "valueIf", "(II)I"⟩
abbrev cX5_winningMoves : ByteArray := prog_1_method_11_code
def yX5_winningMoves : MethodName := ⟨RX5, "winningMoves", "()I"⟩
abbrev cX5_bestMove : ByteArray := prog_1_method_12_code
def yX5_bestMove : MethodName := ⟨RX5, "bestMove", "()I"⟩
abbrev cX5_longest : ByteArray := prog_1_method_13_code
def yX5_longest : MethodName := ⟨RX5, "longest", "()I"⟩
abbrev cX5_shortest : ByteArray := prog_1_method_14_code
def yX5_shortest : MethodName := ⟨RX5, "shortest", "()I"⟩
abbrev cX5_meanValue : ByteArray := prog_1_method_15_code
def yX5_meanValue : MethodName := ⟨RX5, "meanValue", "()F"⟩
abbrev cX5_winningColours : ByteArray := prog_1_method_16_code
def yX5_winningColours : MethodName := ⟨RX5, "winningColours", "(I)I"⟩
abbrev cX5_falls : ByteArray := prog_1_method_17_code
def yX5_falls : MethodName := ⟨RX5, "falls", "(I)I"⟩
abbrev cX5_valueWithout : ByteArray := prog_1_method_18_code
def yX5_valueWithout : MethodName := ⟨RX5, "valueWithout", "(I)I"⟩
abbrev cX5_lay : ByteArray := prog_1_method_19_code
def yX5_lay : MethodName := ⟨RX5, "lay", "(II)I"⟩
abbrev cX5_pass : ByteArray := prog_1_method_20_code
def yX5_pass : MethodName := ⟨RX5, "pass", "()I"⟩
abbrev cX5_playOut : ByteArray := prog_1_method_21_code
def yX5_playOut : MethodName := ⟨RX5, "playOut", "(I)I"⟩
abbrev cX5_setPasses : ByteArray := prog_1_method_22_code
def yX5_setPasses : MethodName := ⟨RX5, "setPasses", "(I)I"⟩
abbrev cX5_move : ByteArray := prog_1_method_23_code
def yX5_move : MethodName := ⟨RX5, "move", "(II)I"⟩
abbrev cX5_account : ByteArray := prog_1_method_24_code
def yX5_account : MethodName := ⟨RX5, "account", "(II)I"⟩
abbrev cX5_writeBoard : ByteArray := prog_1_method_25_code
def yX5_writeBoard : MethodName := ⟨RX5, "writeBoard", "()I"⟩
abbrev cX5_writtenByte : ByteArray := prog_1_method_26_code
def yX5_writtenByte : MethodName := ⟨RX5, "writtenByte", "(I)I"⟩
abbrev cX5_undo : ByteArray := prog_1_method_27_code
def yX5_undo : MethodName := ⟨RX5, "undo", "()I"⟩
abbrev cX5_save : ByteArray := prog_1_method_28_code
def yX5_save : MethodName := ⟨RX5, "save", "(I)I"⟩
abbrev cX5_restore : ByteArray := prog_1_method_29_code
def yX5_restore : MethodName := ⟨RX5, "restore", "(I)I"⟩
abbrev cX5_winnersOn : ByteArray := prog_1_method_30_code
def yX5_winnersOn : MethodName := ⟨RX5, "winnersOn", "(I)I"⟩
abbrev cX5_passWins : ByteArray := prog_1_method_31_code
def yX5_passWins : MethodName := ⟨RX5, "passWins", "()Z"⟩
abbrev cX5_chosenMove : ByteArray := prog_1_method_32_code
def yX5_chosenMove : MethodName := ⟨RX5, "chosenMove", "()I"⟩
abbrev cX5_write : ByteArray := prog_1_method_33_code
def yX5_write : MethodName := ⟨RX5, "write", "(I)V"⟩
abbrev cX5_has : ByteArray := prog_1_method_34_code
def yX5_has : MethodName := ⟨RX5, "has", "(II)Z"⟩
abbrev cX5_least : ByteArray := prog_1_method_35_code
def yX5_least : MethodName := ⟨RX5, "least", "(I)I"⟩
abbrev cX5_at : ByteArray := prog_1_method_36_code
def yX5_at : MethodName := ⟨RX5, "at", "([II)I"⟩
abbrev cX5_add : ByteArray := prog_1_method_37_code
def yX5_add : MethodName := ⟨RX5, "add", "([III)V"⟩
abbrev cX5_copyRow : ByteArray := prog_1_method_38_code
def yX5_copyRow : MethodName := ⟨RX5, "copyRow", "([I[I)V"⟩
abbrev cX5_clearRow : ByteArray := prog_1_method_39_code
def yX5_clearRow : MethodName := ⟨RX5, "clearRow", "([I)V"⟩
abbrev cX5_keepCopy : ByteArray := prog_1_method_40_code
def yX5_keepCopy : MethodName := ⟨RX5, "keepCopy", "([LColourDuel$Board;ILColourDuel$Board;)V"⟩
abbrev cX5_answerOf : ByteArray := prog_1_method_41_code
def yX5_answerOf : MethodName := ⟨RX5, "answerOf", "(III)I"⟩
abbrev cX5_valueIn : ByteArray := prog_1_method_42_code
def yX5_valueIn : MethodName := ⟨RX5, "valueIn", "(I)I"⟩
abbrev cX5_longestIn : ByteArray := prog_1_method_43_code
def yX5_longestIn : MethodName := ⟨RX5, "longestIn", "(I)I"⟩
abbrev cX5_shortestIn : ByteArray := prog_1_method_44_code
def yX5_shortestIn : MethodName := ⟨RX5, "shortestIn", "(I)I"⟩
abbrev cX5_together : ByteArray := prog_1_method_45_code
def yX5_together : MethodName := ⟨RX5, "together", "(II)I"⟩
def RX6 : String := "ColourDuelModel"
def TX6 : u_T := fun k => match k with
  | 0 => ("ColourDuelModel", "a", "[I", true)
  | 1 => ("ColourDuelModel", "aside", "[I", true)
  | 2 => ("ColourDuelModel", "fresh", "[I", true)
  | 3 => ("ColourDuelModel", "kept", "[I", true)
  | 4 => ("ColourDuelModel", "slots", "[I", true)
  | 5 => ("ColourDuelModel", "isSaved", "[Z", true)
  | 6 => ("ColourDuelModel", "keptMany", "I", false)
  | 7 => ("ColourDuelModel", "thrown", "I", false)
  | 8 => ("ColourDuelModel", "buffer", "[I", true)
  | 9 => ("ColourDuelModel", "buffered", "I", false)
  | 10 => ("ColourDuelModel", "size", "I", false)
  | 11 => ("ColourDuelModel", "at", "I", false)
  | 12 => ("ColourDuelModel", "behind", "I", false)
  | 13 => ("ColourDuelModel", "kind", "I", false)
  | 14 => ("ColourDuelModel", "number", "I", false)
  | 15 => ("ColourDuelModel", "wrong", "I", false)
  | 16 => ("ColourDuelModel", "wrongAt", "I", false)
  | 17 => ("ColourDuelModel", "errorAt", "I", false)
  | 18 => ("ColourDuelModel", "known", "[I", true)
  | 19 => ("ColourDuelModel", "bansWere", "[I", true)
  | 20 => ("ColourDuelModel", "written", "[I", true)
  | _ => ("ColourDuelModel", "writtenMany", "I", false)
def tyX6 : Nat → FieldType := fun k => match k with
  | 0 => .array .int
  | 1 => .array .int
  | 2 => .array .int
  | 3 => .array .int
  | 4 => .array .int
  | 5 => .array .boolean
  | 6 => .int
  | 7 => .int
  | 8 => .array .int
  | 9 => .int
  | 10 => .int
  | 11 => .int
  | 12 => .int
  | 13 => .int
  | 14 => .int
  | 15 => .int
  | 16 => .int
  | 17 => .int
  | 18 => .array .int
  | 19 => .array .int
  | 20 => .array .int
  | _ => .int
theorem nmX6 : ∀ a, a < 22 → ∀ b, b < 22 → a ≠ b → (TX6 a).2.1 ≠ (TX6 b).2.1 := by decide +kernel
theorem tyX6_ok : ∀ k, k < 22 → parseFieldDescriptor (TX6 k).2.2.1 = some (tyX6 k) := by decide +kernel
abbrev cX6_init : ByteArray := prog_8_method_1_code
def yX6_init : MethodName := ⟨RX6, "<init>", "()V"⟩
abbrev cX6_thrown : ByteArray := prog_8_method_2_code
def yX6_thrown : MethodName := ⟨RX6, "thrown", "()I"⟩
abbrev cX6_isIn : ByteArray := prog_8_method_3_code
def yX6_isIn : MethodName := ⟨RX6, "isIn", "(III)Z"⟩
abbrev cX6_sets : ByteArray := prog_8_method_4_code
def yX6_sets : MethodName := ⟨RX6, "sets", "([II[II)V"⟩
abbrev cX6_keeps : ByteArray := prog_8_method_5_code
def yX6_keeps : MethodName := ⟨RX6, "keeps", "()V"⟩
abbrev cX6_undo : ByteArray := prog_8_method_6_code
def yX6_undo : MethodName := ⟨RX6, "undo", "()I"⟩
abbrev cX6_append : ByteArray := prog_8_method_7_code
def yX6_append : MethodName := ⟨RX6, "append", "(IIIII)I"⟩
abbrev cX6_see : ByteArray := prog_8_method_8_code
def yX6_see : MethodName := ⟨RX6, "see", "(I)I"⟩
abbrev cX6_next : ByteArray := prog_8_method_9_code
def yX6_next : MethodName := ⟨RX6, "next", "()V"⟩
abbrev cX6_isWord : ByteArray := prog_8_method_10_code
def yX6_isWord : MethodName := ⟨RX6, "isWord", "(Ljava/lang/String;)Z"⟩
abbrev cX6_fails : ByteArray := prog_8_method_11_code
def yX6_fails : MethodName := ⟨RX6, "fails", "(I)V"⟩
abbrev cX6_must : ByteArray := prog_8_method_12_code
def yX6_must : MethodName := ⟨RX6, "must", "(Z)V"⟩
abbrev cX6_takes : ByteArray := prog_8_method_13_code
def yX6_takes : MethodName := ⟨RX6, "takes", "(II)I"⟩
abbrev cX6_mustEnd : ByteArray := prog_8_method_14_code
def yX6_mustEnd : MethodName := ⟨RX6, "mustEnd", "()V"⟩
abbrev cX6_lettersHere : ByteArray := prog_8_method_15_code
def yX6_lettersHere : MethodName := ⟨RX6, "lettersHere", "()I"⟩
abbrev cX6_colouringsNext : ByteArray := prog_8_method_16_code
def yX6_colouringsNext : MethodName := ⟨RX6, "colouringsNext", "()I"⟩
abbrev cX6_readsVertex : ByteArray := prog_8_method_17_code
def yX6_readsVertex : MethodName := ⟨RX6, "readsVertex", "()V"⟩
abbrev cX6_readsEdge : ByteArray := prog_8_method_18_code
def yX6_readsEdge : MethodName := ⟨RX6, "readsEdge", "()V"⟩
abbrev cX6_readsLay : ByteArray := prog_8_method_19_code
def yX6_readsLay : MethodName := ⟨RX6, "readsLay", "()V"⟩
abbrev cX6_readsPass : ByteArray := prog_8_method_20_code
def yX6_readsPass : MethodName := ⟨RX6, "readsPass", "()V"⟩
abbrev cX6_reads : ByteArray := prog_8_method_21_code
def yX6_reads : MethodName := ⟨RX6, "reads", "()V"⟩
abbrev cX6_load : ByteArray := prog_8_method_22_code
def yX6_load : MethodName := ⟨RX6, "load", "(I)I"⟩
abbrev cX6_errorPosition : ByteArray := prog_8_method_23_code
def yX6_errorPosition : MethodName := ⟨RX6, "errorPosition", "()I"⟩
abbrev cX6_areNext : ByteArray := prog_8_method_24_code
def yX6_areNext : MethodName := ⟨RX6, "areNext", "(II)Z"⟩
abbrev cX6_colourOf : ByteArray := prog_8_method_25_code
def yX6_colourOf : MethodName := ⟨RX6, "colourOf", "(I)I"⟩
abbrev cX6_isFree : ByteArray := prog_8_method_26_code
def yX6_isFree : MethodName := ⟨RX6, "isFree", "(I)Z"⟩
abbrev cX6_freeSet : ByteArray := prog_8_method_27_code
def yX6_freeSet : MethodName := ⟨RX6, "freeSet", "()I"⟩
abbrev cX6_bits : ByteArray := prog_8_method_28_code
def yX6_bits : MethodName := ⟨RX6, "bits", "(I)I"⟩
abbrev cX6_lowest : ByteArray := prog_8_method_29_code
def yX6_lowest : MethodName := ⟨RX6, "lowest", "(I)I"⟩
abbrev cX6_reached : ByteArray := prog_8_method_30_code
def yX6_reached : MethodName := ⟨RX6, "reached", "(II)I"⟩
abbrev cX6_partsIn : ByteArray := prog_8_method_31_code
def yX6_partsIn : MethodName := ⟨RX6, "partsIn", "(I)I"⟩
abbrev cX6_partSet : ByteArray := prog_8_method_32_code
def yX6_partSet : MethodName := ⟨RX6, "partSet", "(I)I"⟩
abbrev cX6_partOf : ByteArray := prog_8_method_33_code
def yX6_partOf : MethodName := ⟨RX6, "partOf", "(I)I"⟩
abbrev cX6_around : ByteArray := prog_8_method_34_code
def yX6_around : MethodName := ⟨RX6, "around", "(I)I"⟩
abbrev cX6_canLay : ByteArray := prog_8_method_35_code
def yX6_canLay : MethodName := ⟨RX6, "canLay", "(III)I"⟩
abbrev cX6_banOf : ByteArray := prog_8_method_36_code
def yX6_banOf : MethodName := ⟨RX6, "banOf", "(I)I"⟩
abbrev cX6_colours : ByteArray := prog_8_method_37_code
def yX6_colours : MethodName := ⟨RX6, "colours", "(I)I"⟩
abbrev cX6_whyNot : ByteArray := prog_8_method_38_code
def yX6_whyNot : MethodName := ⟨RX6, "whyNot", "(II)I"⟩
abbrev cX6_pairs : ByteArray := prog_8_method_39_code
def yX6_pairs : MethodName := ⟨RX6, "pairs", "()I"⟩
abbrev cX6_isOver : ByteArray := prog_8_method_40_code
def yX6_isOver : MethodName := ⟨RX6, "isOver", "()Z"⟩
abbrev cX6_turn : ByteArray := prog_8_method_41_code
def yX6_turn : MethodName := ⟨RX6, "turn", "()I"⟩
abbrev cX6_stuck : ByteArray := prog_8_method_42_code
def yX6_stuck : MethodName := ⟨RX6, "stuck", "()I"⟩
abbrev cX6_edgesIn : ByteArray := prog_8_method_43_code
def yX6_edgesIn : MethodName := ⟨RX6, "edgesIn", "(I)I"⟩
abbrev cX6_count : ByteArray := prog_8_method_44_code
def yX6_count : MethodName := ⟨RX6, "count", "(I)I"⟩
abbrev cX6_isVertex : ByteArray := prog_8_method_45_code
def yX6_isVertex : MethodName := ⟨RX6, "isVertex", "(I)Z"⟩
abbrev cX6_isColour : ByteArray := prog_8_method_46_code
def yX6_isColour : MethodName := ⟨RX6, "isColour", "(I)Z"⟩
abbrev cX6_vertex : ByteArray := prog_8_method_47_code
def yX6_vertex : MethodName := ⟨RX6, "vertex", "(II)I"⟩
abbrev cX6_reason : ByteArray := prog_8_method_48_code
def yX6_reason : MethodName := ⟨RX6, "reason", "(II)I"⟩
abbrev cX6_forgets : ByteArray := prog_8_method_49_code
def yX6_forgets : MethodName := ⟨RX6, "forgets", "()V"⟩
abbrev cX6_placeOf : ByteArray := prog_8_method_50_code
def yX6_placeOf : MethodName := ⟨RX6, "placeOf", "(II)I"⟩
abbrev cX6_together : ByteArray := prog_8_method_51_code
def yX6_together : MethodName := ⟨RX6, "together", "(II)I"⟩
abbrev cX6_knownOf : ByteArray := prog_8_method_52_code
def yX6_knownOf : MethodName := ⟨RX6, "knownOf", "(II)I"⟩
abbrev cX6_board : ByteArray := prog_8_method_53_code
def yX6_board : MethodName := ⟨RX6, "board", "()I"⟩
abbrev cX6_valueNow : ByteArray := prog_8_method_54_code
def yX6_valueNow : MethodName := ⟨RX6, "valueNow", "()I"⟩
abbrev cX6_boardIf : ByteArray := prog_8_method_55_code
def yX6_boardIf : MethodName := ⟨RX6, "boardIf", "(II)I"⟩
abbrev cX6_winningOn : ByteArray := prog_8_method_56_code
def yX6_winningOn : MethodName := ⟨RX6, "winningOn", "(I)I"⟩
abbrev cX6_passWins : ByteArray := prog_8_method_57_code
def yX6_passWins : MethodName := ⟨RX6, "passWins", "()Z"⟩
abbrev cX6_part : ByteArray := prog_8_method_58_code
def yX6_part : MethodName := ⟨RX6, "part", "(II)I"⟩
abbrev cX6_pairsIn : ByteArray := prog_8_method_59_code
def yX6_pairsIn : MethodName := ⟨RX6, "pairsIn", "(I)I"⟩
abbrev cX6_ofPart : ByteArray := prog_8_method_60_code
def yX6_ofPart : MethodName := ⟨RX6, "ofPart", "(III)I"⟩
abbrev cX6_value : ByteArray := prog_8_method_61_code
def yX6_value : MethodName := ⟨RX6, "value", "()I"⟩
abbrev cX6_valueIf : ByteArray := prog_8_method_62_code
def yX6_valueIf : MethodName := ⟨RX6, "valueIf", "(II)I"⟩
abbrev cX6_winningMoves : ByteArray := prog_8_method_63_code
def yX6_winningMoves : MethodName := ⟨RX6, "winningMoves", "()I"⟩
abbrev cX6_winningColours : ByteArray := prog_8_method_64_code
def yX6_winningColours : MethodName := ⟨RX6, "winningColours", "(I)I"⟩
abbrev cX6_best : ByteArray := prog_8_method_65_code
def yX6_best : MethodName := ⟨RX6, "best", "()I"⟩
abbrev cX6_bestMove : ByteArray := prog_8_method_66_code
def yX6_bestMove : MethodName := ⟨RX6, "bestMove", "()I"⟩
abbrev cX6_longest : ByteArray := prog_8_method_67_code
def yX6_longest : MethodName := ⟨RX6, "longest", "()I"⟩
abbrev cX6_shortest : ByteArray := prog_8_method_68_code
def yX6_shortest : MethodName := ⟨RX6, "shortest", "()I"⟩
abbrev cX6_meanValue : ByteArray := prog_8_method_69_code
def yX6_meanValue : MethodName := ⟨RX6, "meanValue", "()F"⟩
abbrev cX6_falls : ByteArray := prog_8_method_70_code
def yX6_falls : MethodName := ⟨RX6, "falls", "(I)I"⟩
abbrev cX6_valueWithout : ByteArray := prog_8_method_71_code
def yX6_valueWithout : MethodName := ⟨RX6, "valueWithout", "(I)I"⟩
abbrev cX6_notes : ByteArray := prog_8_method_72_code
def yX6_notes : MethodName := ⟨RX6, "notes", "(III)V"⟩
abbrev cX6_lays : ByteArray := prog_8_method_73_code
def yX6_lays : MethodName := ⟨RX6, "lays", "(II)V"⟩
abbrev cX6_passes : ByteArray := prog_8_method_74_code
def yX6_passes : MethodName := ⟨RX6, "passes", "()V"⟩
abbrev cX6_lay : ByteArray := prog_8_method_75_code
def yX6_lay : MethodName := ⟨RX6, "lay", "(II)I"⟩
abbrev cX6_pass : ByteArray := prog_8_method_76_code
def yX6_pass : MethodName := ⟨RX6, "pass", "()I"⟩
abbrev cX6_playOut : ByteArray := prog_8_method_77_code
def yX6_playOut : MethodName := ⟨RX6, "playOut", "(I)I"⟩
abbrev cX6_setPasses : ByteArray := prog_8_method_78_code
def yX6_setPasses : MethodName := ⟨RX6, "setPasses", "(I)I"⟩
abbrev cX6_moved : ByteArray := prog_8_method_79_code
def yX6_moved : MethodName := ⟨RX6, "moved", "(II)I"⟩
abbrev cX6_move : ByteArray := prog_8_method_80_code
def yX6_move : MethodName := ⟨RX6, "move", "(II)I"⟩
abbrev cX6_counts : ByteArray := prog_8_method_81_code
def yX6_counts : MethodName := ⟨RX6, "counts", "(II)Z"⟩
abbrev cX6_account : ByteArray := prog_8_method_82_code
def yX6_account : MethodName := ⟨RX6, "account", "(II)I"⟩
abbrev cX6_says : ByteArray := prog_8_method_83_code
def yX6_says : MethodName := ⟨RX6, "says", "(I)V"⟩
abbrev cX6_writeBoard : ByteArray := prog_8_method_84_code
def yX6_writeBoard : MethodName := ⟨RX6, "writeBoard", "()I"⟩
abbrev cX6_writtenByte : ByteArray := prog_8_method_85_code
def yX6_writtenByte : MethodName := ⟨RX6, "writtenByte", "(I)I"⟩
abbrev cX6_save : ByteArray := prog_8_method_86_code
def yX6_save : MethodName := ⟨RX6, "save", "(I)I"⟩
abbrev cX6_restore : ByteArray := prog_8_method_87_code
def yX6_restore : MethodName := ⟨RX6, "restore", "(I)I"⟩
def RJx145de : String := "java/io/Serializable"
def TJx145de : u_T := fun k => match k with
  | _ => ("", "", "", false)
def tyJx145de : Nat → FieldType := fun k => match k with
  | _ => .int
theorem nmJx145de : ∀ a, a < 0 → ∀ b, b < 0 → a ≠ b → (TJx145de a).2.1 ≠ (TJx145de b).2.1 := by decide +kernel
theorem tyJx145de_ok : ∀ k, k < 0 → parseFieldDescriptor (TJx145de k).2.2.1 = some (tyJx145de k) := by decide +kernel
def RJx9f9b0 : String := "java/lang/CharSequence"
def TJx9f9b0 : u_T := fun k => match k with
  | _ => ("", "", "", false)
def tyJx9f9b0 : Nat → FieldType := fun k => match k with
  | _ => .int
theorem nmJx9f9b0 : ∀ a, a < 0 → ∀ b, b < 0 → a ≠ b → (TJx9f9b0 a).2.1 ≠ (TJx9f9b0 b).2.1 := by decide +kernel
theorem tyJx9f9b0_ok : ∀ k, k < 0 → parseFieldDescriptor (TJx9f9b0 k).2.2.1 = some (tyJx9f9b0 k) := by decide +kernel
def RJxb160c : String := "java/lang/Comparable"
def TJxb160c : u_T := fun k => match k with
  | _ => ("", "", "", false)
def tyJxb160c : Nat → FieldType := fun k => match k with
  | _ => .int
theorem nmJxb160c : ∀ a, a < 0 → ∀ b, b < 0 → a ≠ b → (TJxb160c a).2.1 ≠ (TJxb160c b).2.1 := by decide +kernel
theorem tyJxb160c_ok : ∀ k, k < 0 → parseFieldDescriptor (TJxb160c k).2.2.1 = some (tyJxb160c k) := by decide +kernel
def RJ6 : String := "java/lang/Integer"
def TJ6 : u_T := fun k => match k with
  | _ => ("", "", "", false)
def tyJ6 : Nat → FieldType := fun k => match k with
  | _ => .int
theorem nmJ6 : ∀ a, a < 0 → ∀ b, b < 0 → a ≠ b → (TJ6 a).2.1 ≠ (TJ6 b).2.1 := by decide +kernel
theorem tyJ6_ok : ∀ k, k < 0 → parseFieldDescriptor (TJ6 k).2.2.1 = some (tyJ6 k) := by decide +kernel
abbrev cJ6_bitCount_0f7a4 : ByteArray := prog_16_method_49_code
def yJ6_bitCount_0f7a4 : MethodName := ⟨RJ6, "bitCount", "(I)I"⟩
def RJ9 : String := "java/lang/Math"
def TJ9 : u_T := fun k => match k with
  | _ => ("", "", "", false)
def tyJ9 : Nat → FieldType := fun k => match k with
  | _ => .int
theorem nmJ9 : ∀ a, a < 0 → ∀ b, b < 0 → a ≠ b → (TJ9 a).2.1 ≠ (TJ9 b).2.1 := by decide +kernel
theorem tyJ9_ok : ∀ k, k < 0 → parseFieldDescriptor (TJ9 k).2.2.1 = some (tyJ9 k) := by decide +kernel
abbrev cJ9_max_7cf53 : ByteArray := prog_17_method_65_code
def yJ9_max_7cf53 : MethodName := ⟨RJ9, "max", "(II)I"⟩
abbrev cJ9_min_7cf53 : ByteArray := prog_17_method_69_code
def yJ9_min_7cf53 : MethodName := ⟨RJ9, "min", "(II)I"⟩
def RJ0 : String := "java/lang/String"
def TJ0 : u_T := fun k => match k with
  | _ => ("", "", "", false)
def tyJ0 : Nat → FieldType := fun k => match k with
  | _ => .int
theorem nmJ0 : ∀ a, a < 0 → ∀ b, b < 0 → a ≠ b → (TJ0 a).2.1 ≠ (TJ0 b).2.1 := by decide +kernel
theorem tyJ0_ok : ∀ k, k < 0 → parseFieldDescriptor (TJ0 k).2.2.1 = some (tyJ0 k) := by decide +kernel
abbrev cJ0_length_8abf5 : ByteArray := prog_19_method_54_code
def yJ0_length_8abf5 : MethodName := ⟨RJ0, "length", "()I"⟩
abbrev cJ0_charAt_5068e : ByteArray := prog_19_method_56_code
def yJ0_charAt_5068e : MethodName := ⟨RJ0, "charAt", "(I)C"⟩
abbrev cJ0_coder_7d493 : ByteArray := prog_19_method_152_code
def yJ0_coder_7d493 : MethodName := ⟨RJ0, "coder", "()B"⟩
abbrev cJ0_isLatin1_aae02 : ByteArray := prog_19_method_154_code
def yJ0_isLatin1_aae02 : MethodName := ⟨RJ0, "isLatin1", "()Z"⟩
abbrev cJ0_checkIndex_df160 : ByteArray := prog_19_method_155_code
def yJ0_checkIndex_df160 : MethodName := ⟨RJ0, "checkIndex", "(II)V"⟩
def RJ1 : String := "java/lang/StringLatin1"
def TJ1 : u_T := fun k => match k with
  | _ => ("", "", "", false)
def tyJ1 : Nat → FieldType := fun k => match k with
  | _ => .int
theorem nmJ1 : ∀ a, a < 0 → ∀ b, b < 0 → a ≠ b → (TJ1 a).2.1 ≠ (TJ1 b).2.1 := by decide +kernel
theorem tyJ1_ok : ∀ k, k < 0 → parseFieldDescriptor (TJ1 k).2.2.1 = some (tyJ1 k) := by decide +kernel
abbrev cJ1_charAt_3b067 : ByteArray := prog_20_method_2_code
def yJ1_charAt_3b067 : MethodName := ⟨RJ1, "charAt", "([BI)C"⟩
def RJ2 : String := "java/lang/StringUTF16"
def TJ2 : u_T := fun k => match k with
  | _ => ("", "", "", false)
def tyJ2 : Nat → FieldType := fun k => match k with
  | _ => .int
theorem nmJ2 : ∀ a, a < 0 → ∀ b, b < 0 → a ≠ b → (TJ2 a).2.1 ≠ (TJ2 b).2.1 := by decide +kernel
theorem tyJ2_ok : ∀ k, k < 0 → parseFieldDescriptor (TJ2 k).2.2.1 = some (tyJ2 k) := by decide +kernel
abbrev cJ2_getChar_3b067 : ByteArray := prog_21_method_5_code
def yJ2_getChar_3b067 : MethodName := ⟨RJ2, "getChar", "([BI)C"⟩
abbrev cJ2_length_9d52b : ByteArray := prog_21_method_6_code
def yJ2_length_9d52b : MethodName := ⟨RJ2, "length", "([B)I"⟩
abbrev cJ2_charAt_3b067 : ByteArray := prog_21_method_83_code
def yJ2_charAt_3b067 : MethodName := ⟨RJ2, "charAt", "([BI)C"⟩
abbrev cJ2_checkIndex_2214a : ByteArray := prog_21_method_91_code
def yJ2_checkIndex_2214a : MethodName := ⟨RJ2, "checkIndex", "(I[B)V"⟩
def RJxfd54e : String := "java/lang/constant/Constable"
def TJxfd54e : u_T := fun k => match k with
  | _ => ("", "", "", false)
def tyJxfd54e : Nat → FieldType := fun k => match k with
  | _ => .int
theorem nmJxfd54e : ∀ a, a < 0 → ∀ b, b < 0 → a ≠ b → (TJxfd54e a).2.1 ≠ (TJxfd54e b).2.1 := by decide +kernel
theorem tyJxfd54e_ok : ∀ k, k < 0 → parseFieldDescriptor (TJxfd54e k).2.2.1 = some (tyJxfd54e k) := by decide +kernel
def RJx3cf43 : String := "java/lang/constant/ConstantDesc"
def TJx3cf43 : u_T := fun k => match k with
  | _ => ("", "", "", false)
def tyJx3cf43 : Nat → FieldType := fun k => match k with
  | _ => .int
theorem nmJx3cf43 : ∀ a, a < 0 → ∀ b, b < 0 → a ≠ b → (TJx3cf43 a).2.1 ≠ (TJx3cf43 b).2.1 := by decide +kernel
theorem tyJx3cf43_ok : ∀ k, k < 0 → parseFieldDescriptor (TJx3cf43 k).2.2.1 = some (tyJx3cf43 k) := by decide +kernel
def RJ3 : String := "jdk/internal/util/Preconditions"
def TJ3 : u_T := fun k => match k with
  | _ => ("", "", "", false)
def tyJ3 : Nat → FieldType := fun k => match k with
  | _ => .int
theorem nmJ3 : ∀ a, a < 0 → ∀ b, b < 0 → a ≠ b → (TJ3 a).2.1 ≠ (TJ3 b).2.1 := by decide +kernel
theorem tyJ3_ok : ∀ k, k < 0 → parseFieldDescriptor (TJ3 k).2.2.1 = some (tyJ3 k) := by decide +kernel
abbrev cJ3_checkIndex_8e157 : ByteArray := prog_26_method_11_code
def yJ3_checkIndex_8e157 : MethodName := ⟨RJ3, "checkIndex", "(IILjava/util/function/BiFunction;)I"⟩
def RL : String := "ColourDuelLaw"
abbrev cL_append : ByteArray := method_3_code
def yL_append : MethodName := ⟨RL, "append", "(LColourDuel;IIIII[J)I"⟩
abbrev cL_load : ByteArray := method_4_code
def yL_load : MethodName := ⟨RL, "load", "(LColourDuel;I[J)I"⟩
abbrev cL_count : ByteArray := method_5_code
def yL_count : MethodName := ⟨RL, "count", "(LColourDuel;I[J)I"⟩
abbrev cL_vertex : ByteArray := method_6_code
def yL_vertex : MethodName := ⟨RL, "vertex", "(LColourDuel;II[J)I"⟩
abbrev cL_reason : ByteArray := method_7_code
def yL_reason : MethodName := ⟨RL, "reason", "(LColourDuel;II[J)I"⟩
abbrev cL_part : ByteArray := method_8_code
def yL_part : MethodName := ⟨RL, "part", "(LColourDuel;II[J)I"⟩
abbrev cL_valueIf : ByteArray := method_9_code
def yL_valueIf : MethodName := ⟨RL, "valueIf", "(LColourDuel;II[J)I"⟩
abbrev cL_bestMove : ByteArray := method_10_code
def yL_bestMove : MethodName := ⟨RL, "bestMove", "(LColourDuel;[J)I"⟩
abbrev cL_winningColours : ByteArray := method_11_code
def yL_winningColours : MethodName := ⟨RL, "winningColours", "(LColourDuel;I[J)I"⟩
abbrev cL_falls : ByteArray := method_12_code
def yL_falls : MethodName := ⟨RL, "falls", "(LColourDuel;I[J)I"⟩
abbrev cL_valueWithout : ByteArray := method_13_code
def yL_valueWithout : MethodName := ⟨RL, "valueWithout", "(LColourDuel;I[J)I"⟩
abbrev cL_lay : ByteArray := method_14_code
def yL_lay : MethodName := ⟨RL, "lay", "(LColourDuel;II[J)I"⟩
abbrev cL_pass : ByteArray := method_15_code
def yL_pass : MethodName := ⟨RL, "pass", "(LColourDuel;[J)I"⟩
abbrev cL_playOut : ByteArray := method_16_code
def yL_playOut : MethodName := ⟨RL, "playOut", "(LColourDuel;I[J)I"⟩
abbrev cL_setPasses : ByteArray := method_17_code
def yL_setPasses : MethodName := ⟨RL, "setPasses", "(LColourDuel;I[J)I"⟩
abbrev cL_move : ByteArray := method_18_code
def yL_move : MethodName := ⟨RL, "move", "(LColourDuel;II[J)I"⟩
abbrev cL_account : ByteArray := method_19_code
def yL_account : MethodName := ⟨RL, "account", "(LColourDuel;II[J)I"⟩
abbrev cL_writtenByte : ByteArray := method_20_code
def yL_writtenByte : MethodName := ⟨RL, "writtenByte", "(LColourDuel;I[J)I"⟩
abbrev cL_undo : ByteArray := method_21_code
def yL_undo : MethodName := ⟨RL, "undo", "(LColourDuel;[J)I"⟩
abbrev cL_save : ByteArray := method_22_code
def yL_save : MethodName := ⟨RL, "save", "(LColourDuel;I[J)I"⟩
abbrev cL_restore : ByteArray := method_23_code
def yL_restore : MethodName := ⟨RL, "restore", "(LColourDuel;I[J)I"⟩
abbrev cL_law : ByteArray := code
def yL_law : MethodName := ⟨RL, "law", "([I)Z"⟩
abbrev vwCl : List vw_C := [(RX0, TX0, 11), (RX1, TX1, 3), (RX2, TX2, 5), (RX3, TX3, 10), (RX4, TX4, 3), (RX5, TX5, 8), (RX6, TX6, 22)]
end
section
theorem dX0_init_0 : decode cX0_init 0 = .ok (.aload_n 0, 1) := by decide +kernel
theorem dX0_init_1 : decode cX0_init 1 = .ok (.invokespecial 3, 3) := by decide +kernel
theorem dX0_init_4 : decode cX0_init 4 = .ok (.aload_n 0, 1) := by decide +kernel
theorem dX0_init_5 : decode cX0_init 5 = .ok (.bipush 9, 2) := by decide +kernel
theorem dX0_init_7 : decode cX0_init 7 = .ok (.newarray .int, 2) := by decide +kernel
theorem dX0_init_9 : decode cX0_init 9 = .ok (.putfield 9, 3) := by decide +kernel
theorem dX0_init_12 : decode cX0_init 12 = .ok (.aload_n 0, 1) := by decide +kernel
theorem dX0_init_13 : decode cX0_init 13 = .ok (.iconst 3, 1) := by decide +kernel
theorem dX0_init_14 : decode cX0_init 14 = .ok (.newarray .int, 2) := by decide +kernel
theorem dX0_init_16 : decode cX0_init 16 = .ok (.putfield 15, 3) := by decide +kernel
theorem dX0_init_19 : decode cX0_init 19 = .ok (.aload_n 0, 1) := by decide +kernel
theorem dX0_init_20 : decode cX0_init 20 = .ok (.iconst 3, 1) := by decide +kernel
theorem dX0_init_21 : decode cX0_init 21 = .ok (.newarray .int, 2) := by decide +kernel
theorem dX0_init_23 : decode cX0_init 23 = .ok (.putfield 18, 3) := by decide +kernel
theorem dX0_init_26 : decode cX0_init 26 = .ok (.aload_n 0, 1) := by decide +kernel
theorem dX0_init_27 : decode cX0_init 27 = .ok (.iconst 3, 1) := by decide +kernel
theorem dX0_init_28 : decode cX0_init 28 = .ok (.newarray .int, 2) := by decide +kernel
theorem dX0_init_30 : decode cX0_init 30 = .ok (.putfield 21, 3) := by decide +kernel
theorem dX0_init_33 : decode cX0_init 33 = .ok (.aload_n 0, 1) := by decide +kernel
theorem dX0_init_34 : decode cX0_init 34 = .ok (.iconst 1, 1) := by decide +kernel
theorem dX0_init_35 : decode cX0_init 35 = .ok (.putfield 24, 3) := by decide +kernel
theorem dX0_init_38 : decode cX0_init 38 = .ok (.aload_n 0, 1) := by decide +kernel
theorem dX0_init_39 : decode cX0_init 39 = .ok (.iconst 1, 1) := by decide +kernel
theorem dX0_init_40 : decode cX0_init 40 = .ok (.putfield 28, 3) := by decide +kernel
theorem dX0_init_43 : decode cX0_init 43 = .ok (.aload_n 0, 1) := by decide +kernel
theorem dX0_init_44 : decode cX0_init 44 = .ok (.iconst 1, 1) := by decide +kernel
theorem dX0_init_45 : decode cX0_init 45 = .ok (.putfield 31, 3) := by decide +kernel
theorem dX0_init_48 : decode cX0_init 48 = .ok (.aload_n 0, 1) := by decide +kernel
theorem dX0_init_49 : decode cX0_init 49 = .ok (.getfield 15, 3) := by decide +kernel
theorem dX0_init_52 : decode cX0_init 52 = .ok (.iconst 0, 1) := by decide +kernel
theorem dX0_init_53 : decode cX0_init 53 = .ok (.iconst 1, 1) := by decide +kernel
theorem dX0_init_54 : decode cX0_init 54 = .ok (.invokestatic 34, 3) := by decide +kernel
theorem dX0_init_57 : decode cX0_init 57 = .ok (.return_, 1) := by decide +kernel
theorem dX0_takeFrom_0 : decode cX0_takeFrom 0 = .ok (.aload_n 0, 1) := by decide +kernel
theorem dX0_takeFrom_1 : decode cX0_takeFrom 1 = .ok (.aload_n 1, 1) := by decide +kernel
theorem dX0_takeFrom_2 : decode cX0_takeFrom 2 = .ok (.getfield 38, 3) := by decide +kernel
theorem dX0_takeFrom_5 : decode cX0_takeFrom 5 = .ok (.putfield 38, 3) := by decide +kernel
theorem dX0_takeFrom_8 : decode cX0_takeFrom 8 = .ok (.aload_n 0, 1) := by decide +kernel
theorem dX0_takeFrom_9 : decode cX0_takeFrom 9 = .ok (.aload_n 1, 1) := by decide +kernel
theorem dX0_takeFrom_10 : decode cX0_takeFrom 10 = .ok (.getfield 24, 3) := by decide +kernel
theorem dX0_takeFrom_13 : decode cX0_takeFrom 13 = .ok (.putfield 24, 3) := by decide +kernel
theorem dX0_takeFrom_16 : decode cX0_takeFrom 16 = .ok (.aload_n 0, 1) := by decide +kernel
theorem dX0_takeFrom_17 : decode cX0_takeFrom 17 = .ok (.aload_n 1, 1) := by decide +kernel
theorem dX0_takeFrom_18 : decode cX0_takeFrom 18 = .ok (.getfield 28, 3) := by decide +kernel
theorem dX0_takeFrom_21 : decode cX0_takeFrom 21 = .ok (.putfield 28, 3) := by decide +kernel
theorem dX0_takeFrom_24 : decode cX0_takeFrom 24 = .ok (.aload_n 0, 1) := by decide +kernel
theorem dX0_takeFrom_25 : decode cX0_takeFrom 25 = .ok (.aload_n 1, 1) := by decide +kernel
theorem dX0_takeFrom_26 : decode cX0_takeFrom 26 = .ok (.getfield 41, 3) := by decide +kernel
theorem dX0_takeFrom_29 : decode cX0_takeFrom 29 = .ok (.putfield 41, 3) := by decide +kernel
theorem dX0_takeFrom_32 : decode cX0_takeFrom 32 = .ok (.aload_n 0, 1) := by decide +kernel
theorem dX0_takeFrom_33 : decode cX0_takeFrom 33 = .ok (.aload_n 1, 1) := by decide +kernel
theorem dX0_takeFrom_34 : decode cX0_takeFrom 34 = .ok (.getfield 31, 3) := by decide +kernel
theorem dX0_takeFrom_37 : decode cX0_takeFrom 37 = .ok (.putfield 31, 3) := by decide +kernel
theorem dX0_takeFrom_40 : decode cX0_takeFrom 40 = .ok (.aload_n 0, 1) := by decide +kernel
theorem dX0_takeFrom_41 : decode cX0_takeFrom 41 = .ok (.aload_n 1, 1) := by decide +kernel
theorem dX0_takeFrom_42 : decode cX0_takeFrom 42 = .ok (.getfield 44, 3) := by decide +kernel
theorem dX0_takeFrom_45 : decode cX0_takeFrom 45 = .ok (.putfield 44, 3) := by decide +kernel
theorem dX0_takeFrom_48 : decode cX0_takeFrom 48 = .ok (.aload_n 0, 1) := by decide +kernel
theorem dX0_takeFrom_49 : decode cX0_takeFrom 49 = .ok (.aload_n 1, 1) := by decide +kernel
theorem dX0_takeFrom_50 : decode cX0_takeFrom 50 = .ok (.getfield 47, 3) := by decide +kernel
theorem dX0_takeFrom_53 : decode cX0_takeFrom 53 = .ok (.putfield 47, 3) := by decide +kernel
theorem dX0_takeFrom_56 : decode cX0_takeFrom 56 = .ok (.aload_n 1, 1) := by decide +kernel
theorem dX0_takeFrom_57 : decode cX0_takeFrom 57 = .ok (.getfield 9, 3) := by decide +kernel
theorem dX0_takeFrom_60 : decode cX0_takeFrom 60 = .ok (.aload_n 0, 1) := by decide +kernel
theorem dX0_takeFrom_61 : decode cX0_takeFrom 61 = .ok (.getfield 9, 3) := by decide +kernel
theorem dX0_takeFrom_64 : decode cX0_takeFrom 64 = .ok (.invokestatic 51, 3) := by decide +kernel
theorem dX0_takeFrom_67 : decode cX0_takeFrom 67 = .ok (.aload_n 1, 1) := by decide +kernel
theorem dX0_takeFrom_68 : decode cX0_takeFrom 68 = .ok (.getfield 15, 3) := by decide +kernel
theorem dX0_takeFrom_71 : decode cX0_takeFrom 71 = .ok (.aload_n 0, 1) := by decide +kernel
theorem dX0_takeFrom_72 : decode cX0_takeFrom 72 = .ok (.getfield 15, 3) := by decide +kernel
theorem dX0_takeFrom_75 : decode cX0_takeFrom 75 = .ok (.invokestatic 51, 3) := by decide +kernel
theorem dX0_takeFrom_78 : decode cX0_takeFrom 78 = .ok (.aload_n 1, 1) := by decide +kernel
theorem dX0_takeFrom_79 : decode cX0_takeFrom 79 = .ok (.getfield 18, 3) := by decide +kernel
theorem dX0_takeFrom_82 : decode cX0_takeFrom 82 = .ok (.aload_n 0, 1) := by decide +kernel
theorem dX0_takeFrom_83 : decode cX0_takeFrom 83 = .ok (.getfield 18, 3) := by decide +kernel
theorem dX0_takeFrom_86 : decode cX0_takeFrom 86 = .ok (.invokestatic 51, 3) := by decide +kernel
theorem dX0_takeFrom_89 : decode cX0_takeFrom 89 = .ok (.aload_n 1, 1) := by decide +kernel
theorem dX0_takeFrom_90 : decode cX0_takeFrom 90 = .ok (.getfield 21, 3) := by decide +kernel
theorem dX0_takeFrom_93 : decode cX0_takeFrom 93 = .ok (.aload_n 0, 1) := by decide +kernel
theorem dX0_takeFrom_94 : decode cX0_takeFrom 94 = .ok (.getfield 21, 3) := by decide +kernel
theorem dX0_takeFrom_97 : decode cX0_takeFrom 97 = .ok (.invokestatic 51, 3) := by decide +kernel
theorem dX0_takeFrom_100 : decode cX0_takeFrom 100 = .ok (.return_, 1) := by decide +kernel
theorem dX0_startEmpty_0 : decode cX0_startEmpty 0 = .ok (.aload_n 0, 1) := by decide +kernel
theorem dX0_startEmpty_1 : decode cX0_startEmpty 1 = .ok (.iload_n 1, 1) := by decide +kernel
theorem dX0_startEmpty_2 : decode cX0_startEmpty 2 = .ok (.putfield 24, 3) := by decide +kernel
theorem dX0_startEmpty_5 : decode cX0_startEmpty 5 = .ok (.aload_n 0, 1) := by decide +kernel
theorem dX0_startEmpty_6 : decode cX0_startEmpty 6 = .ok (.iconst 0, 1) := by decide +kernel
theorem dX0_startEmpty_7 : decode cX0_startEmpty 7 = .ok (.putfield 28, 3) := by decide +kernel
theorem dX0_startEmpty_10 : decode cX0_startEmpty 10 = .ok (.aload_n 0, 1) := by decide +kernel
theorem dX0_startEmpty_11 : decode cX0_startEmpty 11 = .ok (.iconst 0, 1) := by decide +kernel
theorem dX0_startEmpty_12 : decode cX0_startEmpty 12 = .ok (.putfield 41, 3) := by decide +kernel
theorem dX0_startEmpty_15 : decode cX0_startEmpty 15 = .ok (.aload_n 0, 1) := by decide +kernel
theorem dX0_startEmpty_16 : decode cX0_startEmpty 16 = .ok (.iconst 0, 1) := by decide +kernel
theorem dX0_startEmpty_17 : decode cX0_startEmpty 17 = .ok (.putfield 31, 3) := by decide +kernel
theorem dX0_startEmpty_20 : decode cX0_startEmpty 20 = .ok (.aload_n 0, 1) := by decide +kernel
theorem dX0_startEmpty_21 : decode cX0_startEmpty 21 = .ok (.iconst 0, 1) := by decide +kernel
theorem dX0_startEmpty_22 : decode cX0_startEmpty 22 = .ok (.putfield 44, 3) := by decide +kernel
theorem dX0_startEmpty_25 : decode cX0_startEmpty 25 = .ok (.aload_n 0, 1) := by decide +kernel
theorem dX0_startEmpty_26 : decode cX0_startEmpty 26 = .ok (.aconst_null, 1) := by decide +kernel
theorem dX0_startEmpty_27 : decode cX0_startEmpty 27 = .ok (.putfield 47, 3) := by decide +kernel
theorem dX0_startEmpty_30 : decode cX0_startEmpty 30 = .ok (.aload_n 0, 1) := by decide +kernel
theorem dX0_startEmpty_31 : decode cX0_startEmpty 31 = .ok (.getfield 9, 3) := by decide +kernel
theorem dX0_startEmpty_34 : decode cX0_startEmpty 34 = .ok (.invokestatic 55, 3) := by decide +kernel
theorem dX0_startEmpty_37 : decode cX0_startEmpty 37 = .ok (.aload_n 0, 1) := by decide +kernel
theorem dX0_startEmpty_38 : decode cX0_startEmpty 38 = .ok (.getfield 15, 3) := by decide +kernel
theorem dX0_startEmpty_41 : decode cX0_startEmpty 41 = .ok (.invokestatic 55, 3) := by decide +kernel
theorem dX0_startEmpty_44 : decode cX0_startEmpty 44 = .ok (.aload_n 0, 1) := by decide +kernel
theorem dX0_startEmpty_45 : decode cX0_startEmpty 45 = .ok (.getfield 18, 3) := by decide +kernel
theorem dX0_startEmpty_48 : decode cX0_startEmpty 48 = .ok (.invokestatic 55, 3) := by decide +kernel
theorem dX0_startEmpty_51 : decode cX0_startEmpty 51 = .ok (.aload_n 0, 1) := by decide +kernel
theorem dX0_startEmpty_52 : decode cX0_startEmpty 52 = .ok (.getfield 21, 3) := by decide +kernel
theorem dX0_startEmpty_55 : decode cX0_startEmpty 55 = .ok (.invokestatic 55, 3) := by decide +kernel
theorem dX0_startEmpty_58 : decode cX0_startEmpty 58 = .ok (.return_, 1) := by decide +kernel
theorem dX0_isFull_0 : decode cX0_isFull 0 = .ok (.iconst 1, 1) := by decide +kernel
theorem dX0_isFull_1 : decode cX0_isFull 1 = .ok (.istore_n 1, 1) := by decide +kernel
theorem dX0_isFull_2 : decode cX0_isFull 2 = .ok (.iconst 0, 1) := by decide +kernel
theorem dX0_isFull_3 : decode cX0_isFull 3 = .ok (.istore_n 2, 1) := by decide +kernel
theorem dX0_isFull_4 : decode cX0_isFull 4 = .ok (.iload_n 2, 1) := by decide +kernel
theorem dX0_isFull_5 : decode cX0_isFull 5 = .ok (.aload_n 0, 1) := by decide +kernel
theorem dX0_isFull_6 : decode cX0_isFull 6 = .ok (.getfield 28, 3) := by decide +kernel
theorem dX0_isFull_9 : decode cX0_isFull 9 = .ok (.if_icmp .gt 24, 3) := by decide +kernel
theorem dX0_isFull_12 : decode cX0_isFull 12 = .ok (.iload_n 2, 1) := by decide +kernel
theorem dX0_isFull_13 : decode cX0_isFull 13 = .ok (.bipush 9, 2) := by decide +kernel
theorem dX0_isFull_15 : decode cX0_isFull 15 = .ok (.if_icmp .gt 18, 3) := by decide +kernel
theorem dX0_isFull_18 : decode cX0_isFull 18 = .ok (.iload_n 1, 1) := by decide +kernel
theorem dX0_isFull_19 : decode cX0_isFull 19 = .ok (.aload_n 0, 1) := by decide +kernel
theorem dX0_isFull_20 : decode cX0_isFull 20 = .ok (.getfield 24, 3) := by decide +kernel
theorem dX0_isFull_23 : decode cX0_isFull 23 = .ok (.iconst 1, 1) := by decide +kernel
theorem dX0_isFull_24 : decode cX0_isFull 24 = .ok (.iadd, 1) := by decide +kernel
theorem dX0_isFull_25 : decode cX0_isFull 25 = .ok (.imul, 1) := by decide +kernel
theorem dX0_isFull_26 : decode cX0_isFull 26 = .ok (.istore_n 1, 1) := by decide +kernel
theorem dX0_isFull_27 : decode cX0_isFull 27 = .ok (.iinc 2 1, 3) := by decide +kernel
theorem dX0_isFull_30 : decode cX0_isFull 30 = .ok (.goto (-26), 3) := by decide +kernel
theorem dX0_isFull_33 : decode cX0_isFull 33 = .ok (.aload_n 0, 1) := by decide +kernel
theorem dX0_isFull_34 : decode cX0_isFull 34 = .ok (.getfield 28, 3) := by decide +kernel
theorem dX0_isFull_37 : decode cX0_isFull 37 = .ok (.bipush 9, 2) := by decide +kernel
theorem dX0_isFull_39 : decode cX0_isFull 39 = .ok (.if_icmp .ge 10, 3) := by decide +kernel
theorem dX0_isFull_42 : decode cX0_isFull 42 = .ok (.iload_n 1, 1) := by decide +kernel
theorem dX0_isFull_43 : decode cX0_isFull 43 = .ok (.sipush 20000, 3) := by decide +kernel
theorem dX0_isFull_46 : decode cX0_isFull 46 = .ok (.if_icmp .le 7, 3) := by decide +kernel
theorem dX0_isFull_49 : decode cX0_isFull 49 = .ok (.iconst 1, 1) := by decide +kernel
theorem dX0_isFull_50 : decode cX0_isFull 50 = .ok (.goto 4, 3) := by decide +kernel
theorem dX0_isFull_53 : decode cX0_isFull 53 = .ok (.iconst 0, 1) := by decide +kernel
theorem dX0_isFull_54 : decode cX0_isFull 54 = .ok (.ireturn, 1) := by decide +kernel
theorem dX0_addVertex_0 : decode cX0_addVertex 0 = .ok (.iconst 1, 1) := by decide +kernel
theorem dX0_addVertex_1 : decode cX0_addVertex 1 = .ok (.aload_n 0, 1) := by decide +kernel
theorem dX0_addVertex_2 : decode cX0_addVertex 2 = .ok (.getfield 28, 3) := by decide +kernel
theorem dX0_addVertex_5 : decode cX0_addVertex 5 = .ok (.ishl, 1) := by decide +kernel
theorem dX0_addVertex_6 : decode cX0_addVertex 6 = .ok (.istore_n 2, 1) := by decide +kernel
theorem dX0_addVertex_7 : decode cX0_addVertex 7 = .ok (.iconst 0, 1) := by decide +kernel
theorem dX0_addVertex_8 : decode cX0_addVertex 8 = .ok (.istore_n 3, 1) := by decide +kernel
theorem dX0_addVertex_9 : decode cX0_addVertex 9 = .ok (.iload_n 3, 1) := by decide +kernel
theorem dX0_addVertex_10 : decode cX0_addVertex 10 = .ok (.aload_n 0, 1) := by decide +kernel
theorem dX0_addVertex_11 : decode cX0_addVertex 11 = .ok (.getfield 15, 3) := by decide +kernel
theorem dX0_addVertex_14 : decode cX0_addVertex 14 = .ok (.arraylength, 1) := by decide +kernel
theorem dX0_addVertex_15 : decode cX0_addVertex 15 = .ok (.if_icmp .ge 27, 3) := by decide +kernel
theorem dX0_addVertex_18 : decode cX0_addVertex 18 = .ok (.iload_n 1, 1) := by decide +kernel
theorem dX0_addVertex_19 : decode cX0_addVertex 19 = .ok (.iload_n 3, 1) := by decide +kernel
theorem dX0_addVertex_20 : decode cX0_addVertex 20 = .ok (.invokestatic 59, 3) := by decide +kernel
theorem dX0_addVertex_23 : decode cX0_addVertex 23 = .ok (.ifCond .eq 13, 3) := by decide +kernel
theorem dX0_addVertex_26 : decode cX0_addVertex 26 = .ok (.aload_n 0, 1) := by decide +kernel
theorem dX0_addVertex_27 : decode cX0_addVertex 27 = .ok (.getfield 15, 3) := by decide +kernel
theorem dX0_addVertex_30 : decode cX0_addVertex 30 = .ok (.iload_n 3, 1) := by decide +kernel
theorem dX0_addVertex_31 : decode cX0_addVertex 31 = .ok (.dup2, 1) := by decide +kernel
theorem dX0_addVertex_32 : decode cX0_addVertex 32 = .ok (.iaload, 1) := by decide +kernel
theorem dX0_addVertex_33 : decode cX0_addVertex 33 = .ok (.iload_n 2, 1) := by decide +kernel
theorem dX0_addVertex_34 : decode cX0_addVertex 34 = .ok (.ior, 1) := by decide +kernel
theorem dX0_addVertex_35 : decode cX0_addVertex 35 = .ok (.iastore, 1) := by decide +kernel
theorem dX0_addVertex_36 : decode cX0_addVertex 36 = .ok (.iinc 3 1, 3) := by decide +kernel
theorem dX0_addVertex_39 : decode cX0_addVertex 39 = .ok (.goto (-30), 3) := by decide +kernel
theorem dX0_addVertex_42 : decode cX0_addVertex 42 = .ok (.aload_n 0, 1) := by decide +kernel
theorem dX0_addVertex_43 : decode cX0_addVertex 43 = .ok (.dup, 1) := by decide +kernel
theorem dX0_addVertex_44 : decode cX0_addVertex 44 = .ok (.getfield 31, 3) := by decide +kernel
theorem dX0_addVertex_47 : decode cX0_addVertex 47 = .ok (.iload_n 2, 1) := by decide +kernel
theorem dX0_addVertex_48 : decode cX0_addVertex 48 = .ok (.ior, 1) := by decide +kernel
theorem dX0_addVertex_49 : decode cX0_addVertex 49 = .ok (.putfield 31, 3) := by decide +kernel
theorem dX0_addVertex_52 : decode cX0_addVertex 52 = .ok (.aload_n 0, 1) := by decide +kernel
theorem dX0_addVertex_53 : decode cX0_addVertex 53 = .ok (.dup, 1) := by decide +kernel
theorem dX0_addVertex_54 : decode cX0_addVertex 54 = .ok (.getfield 28, 3) := by decide +kernel
theorem dX0_addVertex_57 : decode cX0_addVertex 57 = .ok (.iconst 1, 1) := by decide +kernel
theorem dX0_addVertex_58 : decode cX0_addVertex 58 = .ok (.iadd, 1) := by decide +kernel
theorem dX0_addVertex_59 : decode cX0_addVertex 59 = .ok (.putfield 28, 3) := by decide +kernel
theorem dX0_addVertex_62 : decode cX0_addVertex 62 = .ok (.return_, 1) := by decide +kernel
theorem dX0_addEdge_0 : decode cX0_addEdge 0 = .ok (.aload_n 0, 1) := by decide +kernel
theorem dX0_addEdge_1 : decode cX0_addEdge 1 = .ok (.getfield 9, 3) := by decide +kernel
theorem dX0_addEdge_4 : decode cX0_addEdge 4 = .ok (.iload_n 1, 1) := by decide +kernel
theorem dX0_addEdge_5 : decode cX0_addEdge 5 = .ok (.iconst 1, 1) := by decide +kernel
theorem dX0_addEdge_6 : decode cX0_addEdge 6 = .ok (.iload_n 2, 1) := by decide +kernel
theorem dX0_addEdge_7 : decode cX0_addEdge 7 = .ok (.ishl, 1) := by decide +kernel
theorem dX0_addEdge_8 : decode cX0_addEdge 8 = .ok (.invokestatic 34, 3) := by decide +kernel
theorem dX0_addEdge_11 : decode cX0_addEdge 11 = .ok (.aload_n 0, 1) := by decide +kernel
theorem dX0_addEdge_12 : decode cX0_addEdge 12 = .ok (.getfield 9, 3) := by decide +kernel
theorem dX0_addEdge_15 : decode cX0_addEdge 15 = .ok (.iload_n 2, 1) := by decide +kernel
theorem dX0_addEdge_16 : decode cX0_addEdge 16 = .ok (.iconst 1, 1) := by decide +kernel
theorem dX0_addEdge_17 : decode cX0_addEdge 17 = .ok (.iload_n 1, 1) := by decide +kernel
theorem dX0_addEdge_18 : decode cX0_addEdge 18 = .ok (.ishl, 1) := by decide +kernel
theorem dX0_addEdge_19 : decode cX0_addEdge 19 = .ok (.invokestatic 34, 3) := by decide +kernel
theorem dX0_addEdge_22 : decode cX0_addEdge 22 = .ok (.return_, 1) := by decide +kernel
theorem dX0_hasVertex_0 : decode cX0_hasVertex 0 = .ok (.iload_n 1, 1) := by decide +kernel
theorem dX0_hasVertex_1 : decode cX0_hasVertex 1 = .ok (.ifCond .lt 15, 3) := by decide +kernel
theorem dX0_hasVertex_4 : decode cX0_hasVertex 4 = .ok (.iload_n 1, 1) := by decide +kernel
theorem dX0_hasVertex_5 : decode cX0_hasVertex 5 = .ok (.aload_n 0, 1) := by decide +kernel
theorem dX0_hasVertex_6 : decode cX0_hasVertex 6 = .ok (.getfield 28, 3) := by decide +kernel
theorem dX0_hasVertex_9 : decode cX0_hasVertex 9 = .ok (.if_icmp .ge 7, 3) := by decide +kernel
theorem dX0_hasVertex_12 : decode cX0_hasVertex 12 = .ok (.iconst 1, 1) := by decide +kernel
theorem dX0_hasVertex_13 : decode cX0_hasVertex 13 = .ok (.goto 4, 3) := by decide +kernel
theorem dX0_hasVertex_16 : decode cX0_hasVertex 16 = .ok (.iconst 0, 1) := by decide +kernel
theorem dX0_hasVertex_17 : decode cX0_hasVertex 17 = .ok (.ireturn, 1) := by decide +kernel
theorem dX0_hasPair_0 : decode cX0_hasPair 0 = .ok (.aload_n 0, 1) := by decide +kernel
theorem dX0_hasPair_1 : decode cX0_hasPair 1 = .ok (.iload_n 1, 1) := by decide +kernel
theorem dX0_hasPair_2 : decode cX0_hasPair 2 = .ok (.invokevirtual 63, 3) := by decide +kernel
theorem dX0_hasPair_5 : decode cX0_hasPair 5 = .ok (.ifCond .eq 19, 3) := by decide +kernel
theorem dX0_hasPair_8 : decode cX0_hasPair 8 = .ok (.iload_n 2, 1) := by decide +kernel
theorem dX0_hasPair_9 : decode cX0_hasPair 9 = .ok (.ifCond .lt 15, 3) := by decide +kernel
theorem dX0_hasPair_12 : decode cX0_hasPair 12 = .ok (.iload_n 2, 1) := by decide +kernel
theorem dX0_hasPair_13 : decode cX0_hasPair 13 = .ok (.aload_n 0, 1) := by decide +kernel
theorem dX0_hasPair_14 : decode cX0_hasPair 14 = .ok (.getfield 24, 3) := by decide +kernel
theorem dX0_hasPair_17 : decode cX0_hasPair 17 = .ok (.if_icmp .ge 7, 3) := by decide +kernel
theorem dX0_hasPair_20 : decode cX0_hasPair 20 = .ok (.iconst 1, 1) := by decide +kernel
theorem dX0_hasPair_21 : decode cX0_hasPair 21 = .ok (.goto 4, 3) := by decide +kernel
theorem dX0_hasPair_24 : decode cX0_hasPair 24 = .ok (.iconst 0, 1) := by decide +kernel
theorem dX0_hasPair_25 : decode cX0_hasPair 25 = .ok (.ireturn, 1) := by decide +kernel
theorem dX0_everyVertex_0 : decode cX0_everyVertex 0 = .ok (.iconst 1, 1) := by decide +kernel
theorem dX0_everyVertex_1 : decode cX0_everyVertex 1 = .ok (.aload_n 0, 1) := by decide +kernel
theorem dX0_everyVertex_2 : decode cX0_everyVertex 2 = .ok (.getfield 28, 3) := by decide +kernel
theorem dX0_everyVertex_5 : decode cX0_everyVertex 5 = .ok (.ishl, 1) := by decide +kernel
theorem dX0_everyVertex_6 : decode cX0_everyVertex 6 = .ok (.iconst 1, 1) := by decide +kernel
theorem dX0_everyVertex_7 : decode cX0_everyVertex 7 = .ok (.isub, 1) := by decide +kernel
theorem dX0_everyVertex_8 : decode cX0_everyVertex 8 = .ok (.ireturn, 1) := by decide +kernel
theorem dX0_everyColour_0 : decode cX0_everyColour 0 = .ok (.iconst 1, 1) := by decide +kernel
theorem dX0_everyColour_1 : decode cX0_everyColour 1 = .ok (.aload_n 0, 1) := by decide +kernel
theorem dX0_everyColour_2 : decode cX0_everyColour 2 = .ok (.getfield 24, 3) := by decide +kernel
theorem dX0_everyColour_5 : decode cX0_everyColour 5 = .ok (.ishl, 1) := by decide +kernel
theorem dX0_everyColour_6 : decode cX0_everyColour 6 = .ok (.iconst 1, 1) := by decide +kernel
theorem dX0_everyColour_7 : decode cX0_everyColour 7 = .ok (.isub, 1) := by decide +kernel
theorem dX0_everyColour_8 : decode cX0_everyColour 8 = .ok (.ireturn, 1) := by decide +kernel
theorem dX0_neighbours_0 : decode cX0_neighbours 0 = .ok (.iload_n 1, 1) := by decide +kernel
theorem dX0_neighbours_1 : decode cX0_neighbours 1 = .ok (.ifCond .lt 21, 3) := by decide +kernel
theorem dX0_neighbours_4 : decode cX0_neighbours 4 = .ok (.iload_n 1, 1) := by decide +kernel
theorem dX0_neighbours_5 : decode cX0_neighbours 5 = .ok (.aload_n 0, 1) := by decide +kernel
theorem dX0_neighbours_6 : decode cX0_neighbours 6 = .ok (.getfield 9, 3) := by decide +kernel
theorem dX0_neighbours_9 : decode cX0_neighbours 9 = .ok (.arraylength, 1) := by decide +kernel
theorem dX0_neighbours_10 : decode cX0_neighbours 10 = .ok (.if_icmp .ge 12, 3) := by decide +kernel
theorem dX0_neighbours_13 : decode cX0_neighbours 13 = .ok (.aload_n 0, 1) := by decide +kernel
theorem dX0_neighbours_14 : decode cX0_neighbours 14 = .ok (.getfield 9, 3) := by decide +kernel
theorem dX0_neighbours_17 : decode cX0_neighbours 17 = .ok (.iload_n 1, 1) := by decide +kernel
theorem dX0_neighbours_18 : decode cX0_neighbours 18 = .ok (.iaload, 1) := by decide +kernel
theorem dX0_neighbours_19 : decode cX0_neighbours 19 = .ok (.goto 4, 3) := by decide +kernel
theorem dX0_neighbours_22 : decode cX0_neighbours 22 = .ok (.iconst 0, 1) := by decide +kernel
theorem dX0_neighbours_23 : decode cX0_neighbours 23 = .ok (.ireturn, 1) := by decide +kernel
theorem dX0_edgesIn_0 : decode cX0_edgesIn 0 = .ok (.iconst 0, 1) := by decide +kernel
theorem dX0_edgesIn_1 : decode cX0_edgesIn 1 = .ok (.istore_n 2, 1) := by decide +kernel
theorem dX0_edgesIn_2 : decode cX0_edgesIn 2 = .ok (.iconst 0, 1) := by decide +kernel
theorem dX0_edgesIn_3 : decode cX0_edgesIn 3 = .ok (.istore_n 3, 1) := by decide +kernel
theorem dX0_edgesIn_4 : decode cX0_edgesIn 4 = .ok (.iload_n 3, 1) := by decide +kernel
theorem dX0_edgesIn_5 : decode cX0_edgesIn 5 = .ok (.aload_n 0, 1) := by decide +kernel
theorem dX0_edgesIn_6 : decode cX0_edgesIn 6 = .ok (.getfield 9, 3) := by decide +kernel
theorem dX0_edgesIn_9 : decode cX0_edgesIn 9 = .ok (.arraylength, 1) := by decide +kernel
theorem dX0_edgesIn_10 : decode cX0_edgesIn 10 = .ok (.if_icmp .ge 31, 3) := by decide +kernel
theorem dX0_edgesIn_13 : decode cX0_edgesIn 13 = .ok (.iload_n 1, 1) := by decide +kernel
theorem dX0_edgesIn_14 : decode cX0_edgesIn 14 = .ok (.iload_n 3, 1) := by decide +kernel
theorem dX0_edgesIn_15 : decode cX0_edgesIn 15 = .ok (.invokestatic 59, 3) := by decide +kernel
theorem dX0_edgesIn_18 : decode cX0_edgesIn 18 = .ok (.ifCond .eq 17, 3) := by decide +kernel
theorem dX0_edgesIn_21 : decode cX0_edgesIn 21 = .ok (.iload_n 2, 1) := by decide +kernel
theorem dX0_edgesIn_22 : decode cX0_edgesIn 22 = .ok (.aload_n 0, 1) := by decide +kernel
theorem dX0_edgesIn_23 : decode cX0_edgesIn 23 = .ok (.getfield 9, 3) := by decide +kernel
theorem dX0_edgesIn_26 : decode cX0_edgesIn 26 = .ok (.iload_n 3, 1) := by decide +kernel
theorem dX0_edgesIn_27 : decode cX0_edgesIn 27 = .ok (.iaload, 1) := by decide +kernel
theorem dX0_edgesIn_28 : decode cX0_edgesIn 28 = .ok (.iload_n 1, 1) := by decide +kernel
theorem dX0_edgesIn_29 : decode cX0_edgesIn 29 = .ok (.iand, 1) := by decide +kernel
theorem dX0_edgesIn_30 : decode cX0_edgesIn 30 = .ok (.invokestatic 67, 3) := by decide +kernel
theorem dX0_edgesIn_33 : decode cX0_edgesIn 33 = .ok (.iadd, 1) := by decide +kernel
theorem dX0_edgesIn_34 : decode cX0_edgesIn 34 = .ok (.istore_n 2, 1) := by decide +kernel
theorem dX0_edgesIn_35 : decode cX0_edgesIn 35 = .ok (.iinc 3 1, 3) := by decide +kernel
theorem dX0_edgesIn_38 : decode cX0_edgesIn 38 = .ok (.goto (-34), 3) := by decide +kernel
theorem dX0_edgesIn_41 : decode cX0_edgesIn 41 = .ok (.iload_n 2, 1) := by decide +kernel
theorem dX0_edgesIn_42 : decode cX0_edgesIn 42 = .ok (.iconst 2, 1) := by decide +kernel
theorem dX0_edgesIn_43 : decode cX0_edgesIn 43 = .ok (.idiv, 1) := by decide +kernel
theorem dX0_edgesIn_44 : decode cX0_edgesIn 44 = .ok (.ireturn, 1) := by decide +kernel
theorem dX0_listOf_0 : decode cX0_listOf 0 = .ok (.aload_n 0, 1) := by decide +kernel
theorem dX0_listOf_1 : decode cX0_listOf 1 = .ok (.aload_n 0, 1) := by decide +kernel
theorem dX0_listOf_2 : decode cX0_listOf 2 = .ok (.getfield 15, 3) := by decide +kernel
theorem dX0_listOf_5 : decode cX0_listOf 5 = .ok (.iload_n 1, 1) := by decide +kernel
theorem dX0_listOf_6 : decode cX0_listOf 6 = .ok (.invokevirtual 73, 3) := by decide +kernel
theorem dX0_listOf_9 : decode cX0_listOf 9 = .ok (.ireturn, 1) := by decide +kernel
theorem dX0_coloursAt_0 : decode cX0_coloursAt 0 = .ok (.iconst 0, 1) := by decide +kernel
theorem dX0_coloursAt_1 : decode cX0_coloursAt 1 = .ok (.istore_n 3, 1) := by decide +kernel
theorem dX0_coloursAt_2 : decode cX0_coloursAt 2 = .ok (.iconst 0, 1) := by decide +kernel
theorem dX0_coloursAt_3 : decode cX0_coloursAt 3 = .ok (.istore 4, 2) := by decide +kernel
theorem dX0_coloursAt_5 : decode cX0_coloursAt 5 = .ok (.iload 4, 2) := by decide +kernel
theorem dX0_coloursAt_7 : decode cX0_coloursAt 7 = .ok (.aload_n 1, 1) := by decide +kernel
theorem dX0_coloursAt_8 : decode cX0_coloursAt 8 = .ok (.arraylength, 1) := by decide +kernel
theorem dX0_coloursAt_9 : decode cX0_coloursAt 9 = .ok (.if_icmp .ge 27, 3) := by decide +kernel
theorem dX0_coloursAt_12 : decode cX0_coloursAt 12 = .ok (.aload_n 1, 1) := by decide +kernel
theorem dX0_coloursAt_13 : decode cX0_coloursAt 13 = .ok (.iload 4, 2) := by decide +kernel
theorem dX0_coloursAt_15 : decode cX0_coloursAt 15 = .ok (.iaload, 1) := by decide +kernel
theorem dX0_coloursAt_16 : decode cX0_coloursAt 16 = .ok (.iload_n 2, 1) := by decide +kernel
theorem dX0_coloursAt_17 : decode cX0_coloursAt 17 = .ok (.invokestatic 59, 3) := by decide +kernel
theorem dX0_coloursAt_20 : decode cX0_coloursAt 20 = .ok (.ifCond .eq 10, 3) := by decide +kernel
theorem dX0_coloursAt_23 : decode cX0_coloursAt 23 = .ok (.iload_n 3, 1) := by decide +kernel
theorem dX0_coloursAt_24 : decode cX0_coloursAt 24 = .ok (.iconst 1, 1) := by decide +kernel
theorem dX0_coloursAt_25 : decode cX0_coloursAt 25 = .ok (.iload 4, 2) := by decide +kernel
theorem dX0_coloursAt_27 : decode cX0_coloursAt 27 = .ok (.ishl, 1) := by decide +kernel
theorem dX0_coloursAt_28 : decode cX0_coloursAt 28 = .ok (.ior, 1) := by decide +kernel
theorem dX0_coloursAt_29 : decode cX0_coloursAt 29 = .ok (.istore_n 3, 1) := by decide +kernel
theorem dX0_coloursAt_30 : decode cX0_coloursAt 30 = .ok (.iinc 4 1, 3) := by decide +kernel
theorem dX0_coloursAt_33 : decode cX0_coloursAt 33 = .ok (.goto (-28), 3) := by decide +kernel
theorem dX0_coloursAt_36 : decode cX0_coloursAt 36 = .ok (.iload_n 3, 1) := by decide +kernel
theorem dX0_coloursAt_37 : decode cX0_coloursAt 37 = .ok (.ireturn, 1) := by decide +kernel
theorem dX0_isFree_0 : decode cX0_isFree 0 = .ok (.aload_n 0, 1) := by decide +kernel
theorem dX0_isFree_1 : decode cX0_isFree 1 = .ok (.getfield 31, 3) := by decide +kernel
theorem dX0_isFree_4 : decode cX0_isFree 4 = .ok (.iload_n 1, 1) := by decide +kernel
theorem dX0_isFree_5 : decode cX0_isFree 5 = .ok (.invokestatic 59, 3) := by decide +kernel
theorem dX0_isFree_8 : decode cX0_isFree 8 = .ok (.ireturn, 1) := by decide +kernel
theorem dX0_reachable_0 : decode cX0_reachable 0 = .ok (.iload_n 1, 1) := by decide +kernel
theorem dX0_reachable_1 : decode cX0_reachable 1 = .ok (.iload_n 2, 1) := by decide +kernel
theorem dX0_reachable_2 : decode cX0_reachable 2 = .ok (.iand, 1) := by decide +kernel
theorem dX0_reachable_3 : decode cX0_reachable 3 = .ok (.istore_n 3, 1) := by decide +kernel
theorem dX0_reachable_4 : decode cX0_reachable 4 = .ok (.iload_n 3, 1) := by decide +kernel
theorem dX0_reachable_5 : decode cX0_reachable 5 = .ok (.istore 4, 2) := by decide +kernel
theorem dX0_reachable_7 : decode cX0_reachable 7 = .ok (.iconst 0, 1) := by decide +kernel
theorem dX0_reachable_8 : decode cX0_reachable 8 = .ok (.istore 5, 2) := by decide +kernel
theorem dX0_reachable_10 : decode cX0_reachable 10 = .ok (.iload 5, 2) := by decide +kernel
theorem dX0_reachable_12 : decode cX0_reachable 12 = .ok (.bipush 9, 2) := by decide +kernel
theorem dX0_reachable_14 : decode cX0_reachable 14 = .ok (.if_icmp .ge 77, 3) := by decide +kernel
theorem dX0_reachable_17 : decode cX0_reachable 17 = .ok (.iload 4, 2) := by decide +kernel
theorem dX0_reachable_19 : decode cX0_reachable 19 = .ok (.ifCond .eq 72, 3) := by decide +kernel
theorem dX0_reachable_22 : decode cX0_reachable 22 = .ok (.iload 4, 2) := by decide +kernel
theorem dX0_reachable_24 : decode cX0_reachable 24 = .ok (.iload 4, 2) := by decide +kernel
theorem dX0_reachable_26 : decode cX0_reachable 26 = .ok (.ineg, 1) := by decide +kernel
theorem dX0_reachable_27 : decode cX0_reachable 27 = .ok (.iand, 1) := by decide +kernel
theorem dX0_reachable_28 : decode cX0_reachable 28 = .ok (.istore 6, 2) := by decide +kernel
theorem dX0_reachable_30 : decode cX0_reachable 30 = .ok (.iload 6, 2) := by decide +kernel
theorem dX0_reachable_32 : decode cX0_reachable 32 = .ok (.iconst 1, 1) := by decide +kernel
theorem dX0_reachable_33 : decode cX0_reachable 33 = .ok (.isub, 1) := by decide +kernel
theorem dX0_reachable_34 : decode cX0_reachable 34 = .ok (.invokestatic 67, 3) := by decide +kernel
theorem dX0_reachable_37 : decode cX0_reachable 37 = .ok (.istore 7, 2) := by decide +kernel
theorem dX0_reachable_39 : decode cX0_reachable 39 = .ok (.iload 7, 2) := by decide +kernel
theorem dX0_reachable_41 : decode cX0_reachable 41 = .ok (.aload_n 0, 1) := by decide +kernel
theorem dX0_reachable_42 : decode cX0_reachable 42 = .ok (.getfield 9, 3) := by decide +kernel
theorem dX0_reachable_45 : decode cX0_reachable 45 = .ok (.arraylength, 1) := by decide +kernel
theorem dX0_reachable_46 : decode cX0_reachable 46 = .ok (.if_icmp .ge 19, 3) := by decide +kernel
theorem dX0_reachable_49 : decode cX0_reachable 49 = .ok (.aload_n 0, 1) := by decide +kernel
theorem dX0_reachable_50 : decode cX0_reachable 50 = .ok (.getfield 9, 3) := by decide +kernel
theorem dX0_reachable_53 : decode cX0_reachable 53 = .ok (.iload 7, 2) := by decide +kernel
theorem dX0_reachable_55 : decode cX0_reachable 55 = .ok (.iaload, 1) := by decide +kernel
theorem dX0_reachable_56 : decode cX0_reachable 56 = .ok (.iload_n 2, 1) := by decide +kernel
theorem dX0_reachable_57 : decode cX0_reachable 57 = .ok (.iand, 1) := by decide +kernel
theorem dX0_reachable_58 : decode cX0_reachable 58 = .ok (.iload_n 3, 1) := by decide +kernel
theorem dX0_reachable_59 : decode cX0_reachable 59 = .ok (.iconst (-1), 1) := by decide +kernel
theorem dX0_reachable_60 : decode cX0_reachable 60 = .ok (.ixor, 1) := by decide +kernel
theorem dX0_reachable_61 : decode cX0_reachable 61 = .ok (.iand, 1) := by decide +kernel
theorem dX0_reachable_62 : decode cX0_reachable 62 = .ok (.goto 4, 3) := by decide +kernel
theorem dX0_reachable_65 : decode cX0_reachable 65 = .ok (.iconst 0, 1) := by decide +kernel
theorem dX0_reachable_66 : decode cX0_reachable 66 = .ok (.istore 8, 2) := by decide +kernel
theorem dX0_reachable_68 : decode cX0_reachable 68 = .ok (.iload_n 3, 1) := by decide +kernel
theorem dX0_reachable_69 : decode cX0_reachable 69 = .ok (.iload 8, 2) := by decide +kernel
theorem dX0_reachable_71 : decode cX0_reachable 71 = .ok (.ior, 1) := by decide +kernel
theorem dX0_reachable_72 : decode cX0_reachable 72 = .ok (.istore_n 3, 1) := by decide +kernel
theorem dX0_reachable_73 : decode cX0_reachable 73 = .ok (.iload 4, 2) := by decide +kernel
theorem dX0_reachable_75 : decode cX0_reachable 75 = .ok (.iload 6, 2) := by decide +kernel
theorem dX0_reachable_77 : decode cX0_reachable 77 = .ok (.iconst (-1), 1) := by decide +kernel
theorem dX0_reachable_78 : decode cX0_reachable 78 = .ok (.ixor, 1) := by decide +kernel
theorem dX0_reachable_79 : decode cX0_reachable 79 = .ok (.iand, 1) := by decide +kernel
theorem dX0_reachable_80 : decode cX0_reachable 80 = .ok (.iload 8, 2) := by decide +kernel
theorem dX0_reachable_82 : decode cX0_reachable 82 = .ok (.ior, 1) := by decide +kernel
theorem dX0_reachable_83 : decode cX0_reachable 83 = .ok (.istore 4, 2) := by decide +kernel
theorem dX0_reachable_85 : decode cX0_reachable 85 = .ok (.iinc 5 1, 3) := by decide +kernel
theorem dX0_reachable_88 : decode cX0_reachable 88 = .ok (.goto (-78), 3) := by decide +kernel
theorem dX0_reachable_91 : decode cX0_reachable 91 = .ok (.iload_n 3, 1) := by decide +kernel
theorem dX0_reachable_92 : decode cX0_reachable 92 = .ok (.ireturn, 1) := by decide +kernel
theorem dX0_partWith_0 : decode cX0_partWith 0 = .ok (.aload_n 0, 1) := by decide +kernel
theorem dX0_partWith_1 : decode cX0_partWith 1 = .ok (.iconst 1, 1) := by decide +kernel
theorem dX0_partWith_2 : decode cX0_partWith 2 = .ok (.iload_n 1, 1) := by decide +kernel
theorem dX0_partWith_3 : decode cX0_partWith 3 = .ok (.ishl, 1) := by decide +kernel
theorem dX0_partWith_4 : decode cX0_partWith 4 = .ok (.aload_n 0, 1) := by decide +kernel
theorem dX0_partWith_5 : decode cX0_partWith 5 = .ok (.getfield 31, 3) := by decide +kernel
theorem dX0_partWith_8 : decode cX0_partWith 8 = .ok (.invokevirtual 77, 3) := by decide +kernel
theorem dX0_partWith_11 : decode cX0_partWith 11 = .ok (.ireturn, 1) := by decide +kernel
theorem dX0_partsIn_0 : decode cX0_partsIn 0 = .ok (.iconst 0, 1) := by decide +kernel
theorem dX0_partsIn_1 : decode cX0_partsIn 1 = .ok (.istore_n 2, 1) := by decide +kernel
theorem dX0_partsIn_2 : decode cX0_partsIn 2 = .ok (.iload_n 1, 1) := by decide +kernel
theorem dX0_partsIn_3 : decode cX0_partsIn 3 = .ok (.istore_n 3, 1) := by decide +kernel
theorem dX0_partsIn_4 : decode cX0_partsIn 4 = .ok (.iload_n 2, 1) := by decide +kernel
theorem dX0_partsIn_5 : decode cX0_partsIn 5 = .ok (.bipush 9, 2) := by decide +kernel
theorem dX0_partsIn_7 : decode cX0_partsIn 7 = .ok (.if_icmp .ge 27, 3) := by decide +kernel
theorem dX0_partsIn_10 : decode cX0_partsIn 10 = .ok (.iload_n 3, 1) := by decide +kernel
theorem dX0_partsIn_11 : decode cX0_partsIn 11 = .ok (.ifCond .eq 23, 3) := by decide +kernel
theorem dX0_partsIn_14 : decode cX0_partsIn 14 = .ok (.iload_n 3, 1) := by decide +kernel
theorem dX0_partsIn_15 : decode cX0_partsIn 15 = .ok (.aload_n 0, 1) := by decide +kernel
theorem dX0_partsIn_16 : decode cX0_partsIn 16 = .ok (.iload_n 3, 1) := by decide +kernel
theorem dX0_partsIn_17 : decode cX0_partsIn 17 = .ok (.iload_n 3, 1) := by decide +kernel
theorem dX0_partsIn_18 : decode cX0_partsIn 18 = .ok (.ineg, 1) := by decide +kernel
theorem dX0_partsIn_19 : decode cX0_partsIn 19 = .ok (.iand, 1) := by decide +kernel
theorem dX0_partsIn_20 : decode cX0_partsIn 20 = .ok (.iload_n 3, 1) := by decide +kernel
theorem dX0_partsIn_21 : decode cX0_partsIn 21 = .ok (.invokevirtual 77, 3) := by decide +kernel
theorem dX0_partsIn_24 : decode cX0_partsIn 24 = .ok (.iconst (-1), 1) := by decide +kernel
theorem dX0_partsIn_25 : decode cX0_partsIn 25 = .ok (.ixor, 1) := by decide +kernel
theorem dX0_partsIn_26 : decode cX0_partsIn 26 = .ok (.iand, 1) := by decide +kernel
theorem dX0_partsIn_27 : decode cX0_partsIn 27 = .ok (.istore_n 3, 1) := by decide +kernel
theorem dX0_partsIn_28 : decode cX0_partsIn 28 = .ok (.iinc 2 1, 3) := by decide +kernel
theorem dX0_partsIn_31 : decode cX0_partsIn 31 = .ok (.goto (-27), 3) := by decide +kernel
theorem dX0_partsIn_34 : decode cX0_partsIn 34 = .ok (.iload_n 2, 1) := by decide +kernel
theorem dX0_partsIn_35 : decode cX0_partsIn 35 = .ok (.ireturn, 1) := by decide +kernel
theorem dX0_partAt_0 : decode cX0_partAt 0 = .ok (.aload_n 0, 1) := by decide +kernel
theorem dX0_partAt_1 : decode cX0_partAt 1 = .ok (.getfield 31, 3) := by decide +kernel
theorem dX0_partAt_4 : decode cX0_partAt 4 = .ok (.istore_n 2, 1) := by decide +kernel
theorem dX0_partAt_5 : decode cX0_partAt 5 = .ok (.iconst 0, 1) := by decide +kernel
theorem dX0_partAt_6 : decode cX0_partAt 6 = .ok (.istore_n 3, 1) := by decide +kernel
theorem dX0_partAt_7 : decode cX0_partAt 7 = .ok (.iload_n 3, 1) := by decide +kernel
theorem dX0_partAt_8 : decode cX0_partAt 8 = .ok (.iload_n 1, 1) := by decide +kernel
theorem dX0_partAt_9 : decode cX0_partAt 9 = .ok (.if_icmp .ge 29, 3) := by decide +kernel
theorem dX0_partAt_12 : decode cX0_partAt 12 = .ok (.iload_n 3, 1) := by decide +kernel
theorem dX0_partAt_13 : decode cX0_partAt 13 = .ok (.bipush 9, 2) := by decide +kernel
theorem dX0_partAt_15 : decode cX0_partAt 15 = .ok (.if_icmp .ge 23, 3) := by decide +kernel
theorem dX0_partAt_18 : decode cX0_partAt 18 = .ok (.iload_n 2, 1) := by decide +kernel
theorem dX0_partAt_19 : decode cX0_partAt 19 = .ok (.aload_n 0, 1) := by decide +kernel
theorem dX0_partAt_20 : decode cX0_partAt 20 = .ok (.iload_n 2, 1) := by decide +kernel
theorem dX0_partAt_21 : decode cX0_partAt 21 = .ok (.iload_n 2, 1) := by decide +kernel
theorem dX0_partAt_22 : decode cX0_partAt 22 = .ok (.ineg, 1) := by decide +kernel
theorem dX0_partAt_23 : decode cX0_partAt 23 = .ok (.iand, 1) := by decide +kernel
theorem dX0_partAt_24 : decode cX0_partAt 24 = .ok (.iload_n 2, 1) := by decide +kernel
theorem dX0_partAt_25 : decode cX0_partAt 25 = .ok (.invokevirtual 77, 3) := by decide +kernel
theorem dX0_partAt_28 : decode cX0_partAt 28 = .ok (.iconst (-1), 1) := by decide +kernel
theorem dX0_partAt_29 : decode cX0_partAt 29 = .ok (.ixor, 1) := by decide +kernel
theorem dX0_partAt_30 : decode cX0_partAt 30 = .ok (.iand, 1) := by decide +kernel
theorem dX0_partAt_31 : decode cX0_partAt 31 = .ok (.istore_n 2, 1) := by decide +kernel
theorem dX0_partAt_32 : decode cX0_partAt 32 = .ok (.iinc 3 1, 3) := by decide +kernel
theorem dX0_partAt_35 : decode cX0_partAt 35 = .ok (.goto (-28), 3) := by decide +kernel
theorem dX0_partAt_38 : decode cX0_partAt 38 = .ok (.iload_n 1, 1) := by decide +kernel
theorem dX0_partAt_39 : decode cX0_partAt 39 = .ok (.ifCond .ge 7, 3) := by decide +kernel
theorem dX0_partAt_42 : decode cX0_partAt 42 = .ok (.iconst 0, 1) := by decide +kernel
theorem dX0_partAt_43 : decode cX0_partAt 43 = .ok (.goto 12, 3) := by decide +kernel
theorem dX0_partAt_46 : decode cX0_partAt 46 = .ok (.aload_n 0, 1) := by decide +kernel
theorem dX0_partAt_47 : decode cX0_partAt 47 = .ok (.iload_n 2, 1) := by decide +kernel
theorem dX0_partAt_48 : decode cX0_partAt 48 = .ok (.iload_n 2, 1) := by decide +kernel
theorem dX0_partAt_49 : decode cX0_partAt 49 = .ok (.ineg, 1) := by decide +kernel
theorem dX0_partAt_50 : decode cX0_partAt 50 = .ok (.iand, 1) := by decide +kernel
theorem dX0_partAt_51 : decode cX0_partAt 51 = .ok (.iload_n 2, 1) := by decide +kernel
theorem dX0_partAt_52 : decode cX0_partAt 52 = .ok (.invokevirtual 77, 3) := by decide +kernel
theorem dX0_partAt_55 : decode cX0_partAt 55 = .ok (.ireturn, 1) := by decide +kernel
theorem dX0_partNumberOf_0 : decode cX0_partNumberOf 0 = .ok (.iconst 0, 1) := by decide +kernel
theorem dX0_partNumberOf_1 : decode cX0_partNumberOf 1 = .ok (.istore_n 2, 1) := by decide +kernel
theorem dX0_partNumberOf_2 : decode cX0_partNumberOf 2 = .ok (.iload_n 2, 1) := by decide +kernel
theorem dX0_partNumberOf_3 : decode cX0_partNumberOf 3 = .ok (.bipush 9, 2) := by decide +kernel
theorem dX0_partNumberOf_5 : decode cX0_partNumberOf 5 = .ok (.if_icmp .ge 21, 3) := by decide +kernel
theorem dX0_partNumberOf_8 : decode cX0_partNumberOf 8 = .ok (.aload_n 0, 1) := by decide +kernel
theorem dX0_partNumberOf_9 : decode cX0_partNumberOf 9 = .ok (.iload_n 2, 1) := by decide +kernel
theorem dX0_partNumberOf_10 : decode cX0_partNumberOf 10 = .ok (.invokevirtual 81, 3) := by decide +kernel
theorem dX0_partNumberOf_13 : decode cX0_partNumberOf 13 = .ok (.iload_n 1, 1) := by decide +kernel
theorem dX0_partNumberOf_14 : decode cX0_partNumberOf 14 = .ok (.invokestatic 59, 3) := by decide +kernel
theorem dX0_partNumberOf_17 : decode cX0_partNumberOf 17 = .ok (.ifCond .ne 9, 3) := by decide +kernel
theorem dX0_partNumberOf_20 : decode cX0_partNumberOf 20 = .ok (.iinc 2 1, 3) := by decide +kernel
theorem dX0_partNumberOf_23 : decode cX0_partNumberOf 23 = .ok (.goto (-21), 3) := by decide +kernel
theorem dX0_partNumberOf_26 : decode cX0_partNumberOf 26 = .ok (.iload_n 2, 1) := by decide +kernel
theorem dX0_partNumberOf_27 : decode cX0_partNumberOf 27 = .ok (.ireturn, 1) := by decide +kernel
theorem dX0_banOf_0 : decode cX0_banOf 0 = .ok (.iconst 0, 1) := by decide +kernel
theorem dX0_banOf_1 : decode cX0_banOf 1 = .ok (.istore_n 2, 1) := by decide +kernel
theorem dX0_banOf_2 : decode cX0_banOf 2 = .ok (.iload_n 2, 1) := by decide +kernel
theorem dX0_banOf_3 : decode cX0_banOf 3 = .ok (.aload_n 0, 1) := by decide +kernel
theorem dX0_banOf_4 : decode cX0_banOf 4 = .ok (.getfield 21, 3) := by decide +kernel
theorem dX0_banOf_7 : decode cX0_banOf 7 = .ok (.arraylength, 1) := by decide +kernel
theorem dX0_banOf_8 : decode cX0_banOf 8 = .ok (.if_icmp .ge 22, 3) := by decide +kernel
theorem dX0_banOf_11 : decode cX0_banOf 11 = .ok (.aload_n 0, 1) := by decide +kernel
theorem dX0_banOf_12 : decode cX0_banOf 12 = .ok (.getfield 21, 3) := by decide +kernel
theorem dX0_banOf_15 : decode cX0_banOf 15 = .ok (.iload_n 2, 1) := by decide +kernel
theorem dX0_banOf_16 : decode cX0_banOf 16 = .ok (.iaload, 1) := by decide +kernel
theorem dX0_banOf_17 : decode cX0_banOf 17 = .ok (.iload_n 1, 1) := by decide +kernel
theorem dX0_banOf_18 : decode cX0_banOf 18 = .ok (.iand, 1) := by decide +kernel
theorem dX0_banOf_19 : decode cX0_banOf 19 = .ok (.ifCond .eq 5, 3) := by decide +kernel
theorem dX0_banOf_22 : decode cX0_banOf 22 = .ok (.iload_n 2, 1) := by decide +kernel
theorem dX0_banOf_23 : decode cX0_banOf 23 = .ok (.ireturn, 1) := by decide +kernel
theorem dX0_banOf_24 : decode cX0_banOf 24 = .ok (.iinc 2 1, 3) := by decide +kernel
theorem dX0_banOf_27 : decode cX0_banOf 27 = .ok (.goto (-25), 3) := by decide +kernel
theorem dX0_banOf_30 : decode cX0_banOf 30 = .ok (.iconst (-1), 1) := by decide +kernel
theorem dX0_banOf_31 : decode cX0_banOf 31 = .ok (.ireturn, 1) := by decide +kernel
theorem dX0_colourOf_0 : decode cX0_colourOf 0 = .ok (.aload_n 0, 1) := by decide +kernel
theorem dX0_colourOf_1 : decode cX0_colourOf 1 = .ok (.aload_n 0, 1) := by decide +kernel
theorem dX0_colourOf_2 : decode cX0_colourOf 2 = .ok (.getfield 18, 3) := by decide +kernel
theorem dX0_colourOf_5 : decode cX0_colourOf 5 = .ok (.iload_n 1, 1) := by decide +kernel
theorem dX0_colourOf_6 : decode cX0_colourOf 6 = .ok (.invokevirtual 73, 3) := by decide +kernel
theorem dX0_colourOf_9 : decode cX0_colourOf 9 = .ok (.istore_n 2, 1) := by decide +kernel
theorem dX0_colourOf_10 : decode cX0_colourOf 10 = .ok (.iload_n 2, 1) := by decide +kernel
theorem dX0_colourOf_11 : decode cX0_colourOf 11 = .ok (.ifCond .ne 7, 3) := by decide +kernel
theorem dX0_colourOf_14 : decode cX0_colourOf 14 = .ok (.iconst (-1), 1) := by decide +kernel
theorem dX0_colourOf_15 : decode cX0_colourOf 15 = .ok (.goto 7, 3) := by decide +kernel
theorem dX0_colourOf_18 : decode cX0_colourOf 18 = .ok (.iload_n 2, 1) := by decide +kernel
theorem dX0_colourOf_19 : decode cX0_colourOf 19 = .ok (.invokestatic 84, 3) := by decide +kernel
theorem dX0_colourOf_22 : decode cX0_colourOf 22 = .ok (.ireturn, 1) := by decide +kernel
theorem dX0_whyNot_0 : decode cX0_whyNot 0 = .ok (.aload_n 0, 1) := by decide +kernel
theorem dX0_whyNot_1 : decode cX0_whyNot 1 = .ok (.iload_n 1, 1) := by decide +kernel
theorem dX0_whyNot_2 : decode cX0_whyNot 2 = .ok (.invokevirtual 87, 3) := by decide +kernel
theorem dX0_whyNot_5 : decode cX0_whyNot 5 = .ok (.ifCond .ne 5, 3) := by decide +kernel
theorem dX0_whyNot_8 : decode cX0_whyNot 8 = .ok (.iconst 1, 1) := by decide +kernel
theorem dX0_whyNot_9 : decode cX0_whyNot 9 = .ok (.ireturn, 1) := by decide +kernel
theorem dX0_whyNot_10 : decode cX0_whyNot 10 = .ok (.aload_n 0, 1) := by decide +kernel
theorem dX0_whyNot_11 : decode cX0_whyNot 11 = .ok (.getfield 15, 3) := by decide +kernel
theorem dX0_whyNot_14 : decode cX0_whyNot 14 = .ok (.iload_n 2, 1) := by decide +kernel
theorem dX0_whyNot_15 : decode cX0_whyNot 15 = .ok (.invokestatic 90, 3) := by decide +kernel
theorem dX0_whyNot_18 : decode cX0_whyNot 18 = .ok (.iload_n 1, 1) := by decide +kernel
theorem dX0_whyNot_19 : decode cX0_whyNot 19 = .ok (.invokestatic 59, 3) := by decide +kernel
theorem dX0_whyNot_22 : decode cX0_whyNot 22 = .ok (.ifCond .ne 5, 3) := by decide +kernel
theorem dX0_whyNot_25 : decode cX0_whyNot 25 = .ok (.iconst 2, 1) := by decide +kernel
theorem dX0_whyNot_26 : decode cX0_whyNot 26 = .ok (.ireturn, 1) := by decide +kernel
theorem dX0_whyNot_27 : decode cX0_whyNot 27 = .ok (.aload_n 0, 1) := by decide +kernel
theorem dX0_whyNot_28 : decode cX0_whyNot 28 = .ok (.iload_n 1, 1) := by decide +kernel
theorem dX0_whyNot_29 : decode cX0_whyNot 29 = .ok (.invokevirtual 93, 3) := by decide +kernel
theorem dX0_whyNot_32 : decode cX0_whyNot 32 = .ok (.aload_n 0, 1) := by decide +kernel
theorem dX0_whyNot_33 : decode cX0_whyNot 33 = .ok (.getfield 18, 3) := by decide +kernel
theorem dX0_whyNot_36 : decode cX0_whyNot 36 = .ok (.iload_n 2, 1) := by decide +kernel
theorem dX0_whyNot_37 : decode cX0_whyNot 37 = .ok (.invokestatic 90, 3) := by decide +kernel
theorem dX0_whyNot_40 : decode cX0_whyNot 40 = .ok (.iand, 1) := by decide +kernel
theorem dX0_whyNot_41 : decode cX0_whyNot 41 = .ok (.ifCond .eq 5, 3) := by decide +kernel
theorem dX0_whyNot_44 : decode cX0_whyNot 44 = .ok (.iconst 3, 1) := by decide +kernel
theorem dX0_whyNot_45 : decode cX0_whyNot 45 = .ok (.ireturn, 1) := by decide +kernel
theorem dX0_whyNot_46 : decode cX0_whyNot 46 = .ok (.aload_n 0, 1) := by decide +kernel
theorem dX0_whyNot_47 : decode cX0_whyNot 47 = .ok (.iload_n 1, 1) := by decide +kernel
theorem dX0_whyNot_48 : decode cX0_whyNot 48 = .ok (.invokevirtual 93, 3) := by decide +kernel
theorem dX0_whyNot_51 : decode cX0_whyNot 51 = .ok (.aload_n 0, 1) := by decide +kernel
theorem dX0_whyNot_52 : decode cX0_whyNot 52 = .ok (.getfield 31, 3) := by decide +kernel
theorem dX0_whyNot_55 : decode cX0_whyNot 55 = .ok (.iand, 1) := by decide +kernel
theorem dX0_whyNot_56 : decode cX0_whyNot 56 = .ok (.ifCond .ne 7, 3) := by decide +kernel
theorem dX0_whyNot_59 : decode cX0_whyNot 59 = .ok (.iconst 1, 1) := by decide +kernel
theorem dX0_whyNot_60 : decode cX0_whyNot 60 = .ok (.goto 4, 3) := by decide +kernel
theorem dX0_whyNot_63 : decode cX0_whyNot 63 = .ok (.iconst 0, 1) := by decide +kernel
theorem dX0_whyNot_64 : decode cX0_whyNot 64 = .ok (.istore_n 3, 1) := by decide +kernel
theorem dX0_whyNot_65 : decode cX0_whyNot 65 = .ok (.iload_n 3, 1) := by decide +kernel
theorem dX0_whyNot_66 : decode cX0_whyNot 66 = .ok (.ifCond .ne 22, 3) := by decide +kernel
theorem dX0_whyNot_69 : decode cX0_whyNot 69 = .ok (.aload_n 0, 1) := by decide +kernel
theorem dX0_whyNot_70 : decode cX0_whyNot 70 = .ok (.getfield 21, 3) := by decide +kernel
theorem dX0_whyNot_73 : decode cX0_whyNot 73 = .ok (.iload_n 2, 1) := by decide +kernel
theorem dX0_whyNot_74 : decode cX0_whyNot 74 = .ok (.invokestatic 90, 3) := by decide +kernel
theorem dX0_whyNot_77 : decode cX0_whyNot 77 = .ok (.iload_n 1, 1) := by decide +kernel
theorem dX0_whyNot_78 : decode cX0_whyNot 78 = .ok (.invokestatic 59, 3) := by decide +kernel
theorem dX0_whyNot_81 : decode cX0_whyNot 81 = .ok (.ifCond .eq 7, 3) := by decide +kernel
theorem dX0_whyNot_84 : decode cX0_whyNot 84 = .ok (.iconst 4, 1) := by decide +kernel
theorem dX0_whyNot_85 : decode cX0_whyNot 85 = .ok (.goto 4, 3) := by decide +kernel
theorem dX0_whyNot_88 : decode cX0_whyNot 88 = .ok (.iconst 0, 1) := by decide +kernel
theorem dX0_whyNot_89 : decode cX0_whyNot 89 = .ok (.ireturn, 1) := by decide +kernel
theorem dX0_choicesOn_0 : decode cX0_choicesOn 0 = .ok (.iconst 0, 1) := by decide +kernel
theorem dX0_choicesOn_1 : decode cX0_choicesOn 1 = .ok (.istore_n 2, 1) := by decide +kernel
theorem dX0_choicesOn_2 : decode cX0_choicesOn 2 = .ok (.iconst 0, 1) := by decide +kernel
theorem dX0_choicesOn_3 : decode cX0_choicesOn 3 = .ok (.istore_n 3, 1) := by decide +kernel
theorem dX0_choicesOn_4 : decode cX0_choicesOn 4 = .ok (.iload_n 3, 1) := by decide +kernel
theorem dX0_choicesOn_5 : decode cX0_choicesOn 5 = .ok (.aload_n 0, 1) := by decide +kernel
theorem dX0_choicesOn_6 : decode cX0_choicesOn 6 = .ok (.getfield 24, 3) := by decide +kernel
theorem dX0_choicesOn_9 : decode cX0_choicesOn 9 = .ok (.if_icmp .ge 24, 3) := by decide +kernel
theorem dX0_choicesOn_12 : decode cX0_choicesOn 12 = .ok (.aload_n 0, 1) := by decide +kernel
theorem dX0_choicesOn_13 : decode cX0_choicesOn 13 = .ok (.iload_n 1, 1) := by decide +kernel
theorem dX0_choicesOn_14 : decode cX0_choicesOn 14 = .ok (.iload_n 3, 1) := by decide +kernel
theorem dX0_choicesOn_15 : decode cX0_choicesOn 15 = .ok (.invokevirtual 96, 3) := by decide +kernel
theorem dX0_choicesOn_18 : decode cX0_choicesOn 18 = .ok (.ifCond .ne 9, 3) := by decide +kernel
theorem dX0_choicesOn_21 : decode cX0_choicesOn 21 = .ok (.iload_n 2, 1) := by decide +kernel
theorem dX0_choicesOn_22 : decode cX0_choicesOn 22 = .ok (.iconst 1, 1) := by decide +kernel
theorem dX0_choicesOn_23 : decode cX0_choicesOn 23 = .ok (.iload_n 3, 1) := by decide +kernel
theorem dX0_choicesOn_24 : decode cX0_choicesOn 24 = .ok (.ishl, 1) := by decide +kernel
theorem dX0_choicesOn_25 : decode cX0_choicesOn 25 = .ok (.ior, 1) := by decide +kernel
theorem dX0_choicesOn_26 : decode cX0_choicesOn 26 = .ok (.istore_n 2, 1) := by decide +kernel
theorem dX0_choicesOn_27 : decode cX0_choicesOn 27 = .ok (.iinc 3 1, 3) := by decide +kernel
theorem dX0_choicesOn_30 : decode cX0_choicesOn 30 = .ok (.goto (-26), 3) := by decide +kernel
theorem dX0_choicesOn_33 : decode cX0_choicesOn 33 = .ok (.iload_n 2, 1) := by decide +kernel
theorem dX0_choicesOn_34 : decode cX0_choicesOn 34 = .ok (.ireturn, 1) := by decide +kernel
theorem dX0_choicesIn_0 : decode cX0_choicesIn 0 = .ok (.iconst 0, 1) := by decide +kernel
theorem dX0_choicesIn_1 : decode cX0_choicesIn 1 = .ok (.istore_n 2, 1) := by decide +kernel
theorem dX0_choicesIn_2 : decode cX0_choicesIn 2 = .ok (.iconst 0, 1) := by decide +kernel
theorem dX0_choicesIn_3 : decode cX0_choicesIn 3 = .ok (.istore_n 3, 1) := by decide +kernel
theorem dX0_choicesIn_4 : decode cX0_choicesIn 4 = .ok (.iload_n 3, 1) := by decide +kernel
theorem dX0_choicesIn_5 : decode cX0_choicesIn 5 = .ok (.bipush 9, 2) := by decide +kernel
theorem dX0_choicesIn_7 : decode cX0_choicesIn 7 = .ok (.if_icmp .ge 28, 3) := by decide +kernel
theorem dX0_choicesIn_10 : decode cX0_choicesIn 10 = .ok (.iload_n 1, 1) := by decide +kernel
theorem dX0_choicesIn_11 : decode cX0_choicesIn 11 = .ok (.iload_n 3, 1) := by decide +kernel
theorem dX0_choicesIn_12 : decode cX0_choicesIn 12 = .ok (.invokestatic 59, 3) := by decide +kernel
theorem dX0_choicesIn_15 : decode cX0_choicesIn 15 = .ok (.ifCond .eq 14, 3) := by decide +kernel
theorem dX0_choicesIn_18 : decode cX0_choicesIn 18 = .ok (.iload_n 2, 1) := by decide +kernel
theorem dX0_choicesIn_19 : decode cX0_choicesIn 19 = .ok (.aload_n 0, 1) := by decide +kernel
theorem dX0_choicesIn_20 : decode cX0_choicesIn 20 = .ok (.iload_n 3, 1) := by decide +kernel
theorem dX0_choicesIn_21 : decode cX0_choicesIn 21 = .ok (.invokevirtual 99, 3) := by decide +kernel
theorem dX0_choicesIn_24 : decode cX0_choicesIn 24 = .ok (.invokestatic 67, 3) := by decide +kernel
theorem dX0_choicesIn_27 : decode cX0_choicesIn 27 = .ok (.iadd, 1) := by decide +kernel
theorem dX0_choicesIn_28 : decode cX0_choicesIn 28 = .ok (.istore_n 2, 1) := by decide +kernel
theorem dX0_choicesIn_29 : decode cX0_choicesIn 29 = .ok (.iinc 3 1, 3) := by decide +kernel
theorem dX0_choicesIn_32 : decode cX0_choicesIn 32 = .ok (.goto (-28), 3) := by decide +kernel
theorem dX0_choicesIn_35 : decode cX0_choicesIn 35 = .ok (.iload_n 2, 1) := by decide +kernel
theorem dX0_choicesIn_36 : decode cX0_choicesIn 36 = .ok (.ireturn, 1) := by decide +kernel
theorem dX0_stuckVertices_0 : decode cX0_stuckVertices 0 = .ok (.iconst 0, 1) := by decide +kernel
theorem dX0_stuckVertices_1 : decode cX0_stuckVertices 1 = .ok (.istore_n 1, 1) := by decide +kernel
theorem dX0_stuckVertices_2 : decode cX0_stuckVertices 2 = .ok (.iconst 0, 1) := by decide +kernel
theorem dX0_stuckVertices_3 : decode cX0_stuckVertices 3 = .ok (.istore_n 2, 1) := by decide +kernel
theorem dX0_stuckVertices_4 : decode cX0_stuckVertices 4 = .ok (.iload_n 2, 1) := by decide +kernel
theorem dX0_stuckVertices_5 : decode cX0_stuckVertices 5 = .ok (.bipush 9, 2) := by decide +kernel
theorem dX0_stuckVertices_7 : decode cX0_stuckVertices 7 = .ok (.if_icmp .ge 28, 3) := by decide +kernel
theorem dX0_stuckVertices_10 : decode cX0_stuckVertices 10 = .ok (.aload_n 0, 1) := by decide +kernel
theorem dX0_stuckVertices_11 : decode cX0_stuckVertices 11 = .ok (.iload_n 2, 1) := by decide +kernel
theorem dX0_stuckVertices_12 : decode cX0_stuckVertices 12 = .ok (.invokevirtual 87, 3) := by decide +kernel
theorem dX0_stuckVertices_15 : decode cX0_stuckVertices 15 = .ok (.ifCond .eq 14, 3) := by decide +kernel
theorem dX0_stuckVertices_18 : decode cX0_stuckVertices 18 = .ok (.aload_n 0, 1) := by decide +kernel
theorem dX0_stuckVertices_19 : decode cX0_stuckVertices 19 = .ok (.iload_n 2, 1) := by decide +kernel
theorem dX0_stuckVertices_20 : decode cX0_stuckVertices 20 = .ok (.invokevirtual 99, 3) := by decide +kernel
theorem dX0_stuckVertices_23 : decode cX0_stuckVertices 23 = .ok (.ifCond .ne 6, 3) := by decide +kernel
theorem dX0_stuckVertices_26 : decode cX0_stuckVertices 26 = .ok (.iinc 1 1, 3) := by decide +kernel
theorem dX0_stuckVertices_29 : decode cX0_stuckVertices 29 = .ok (.iinc 2 1, 3) := by decide +kernel
theorem dX0_stuckVertices_32 : decode cX0_stuckVertices 32 = .ok (.goto (-28), 3) := by decide +kernel
theorem dX0_stuckVertices_35 : decode cX0_stuckVertices 35 = .ok (.iload_n 1, 1) := by decide +kernel
theorem dX0_stuckVertices_36 : decode cX0_stuckVertices 36 = .ok (.ireturn, 1) := by decide +kernel
theorem dX0_openTo_0 : decode cX0_openTo 0 = .ok (.aload_n 0, 1) := by decide +kernel
theorem dX0_openTo_1 : decode cX0_openTo 1 = .ok (.getfield 15, 3) := by decide +kernel
theorem dX0_openTo_4 : decode cX0_openTo 4 = .ok (.iload_n 1, 1) := by decide +kernel
theorem dX0_openTo_5 : decode cX0_openTo 5 = .ok (.invokestatic 90, 3) := by decide +kernel
theorem dX0_openTo_8 : decode cX0_openTo 8 = .ok (.aload_n 0, 1) := by decide +kernel
theorem dX0_openTo_9 : decode cX0_openTo 9 = .ok (.getfield 31, 3) := by decide +kernel
theorem dX0_openTo_12 : decode cX0_openTo 12 = .ok (.iand, 1) := by decide +kernel
theorem dX0_openTo_13 : decode cX0_openTo 13 = .ok (.istore_n 2, 1) := by decide +kernel
theorem dX0_openTo_14 : decode cX0_openTo 14 = .ok (.iconst 0, 1) := by decide +kernel
theorem dX0_openTo_15 : decode cX0_openTo 15 = .ok (.istore_n 3, 1) := by decide +kernel
theorem dX0_openTo_16 : decode cX0_openTo 16 = .ok (.iload_n 3, 1) := by decide +kernel
theorem dX0_openTo_17 : decode cX0_openTo 17 = .ok (.aload_n 0, 1) := by decide +kernel
theorem dX0_openTo_18 : decode cX0_openTo 18 = .ok (.getfield 9, 3) := by decide +kernel
theorem dX0_openTo_21 : decode cX0_openTo 21 = .ok (.arraylength, 1) := by decide +kernel
theorem dX0_openTo_22 : decode cX0_openTo 22 = .ok (.if_icmp .ge 35, 3) := by decide +kernel
theorem dX0_openTo_25 : decode cX0_openTo 25 = .ok (.aload_n 0, 1) := by decide +kernel
theorem dX0_openTo_26 : decode cX0_openTo 26 = .ok (.getfield 9, 3) := by decide +kernel
theorem dX0_openTo_29 : decode cX0_openTo 29 = .ok (.iload_n 3, 1) := by decide +kernel
theorem dX0_openTo_30 : decode cX0_openTo 30 = .ok (.iaload, 1) := by decide +kernel
theorem dX0_openTo_31 : decode cX0_openTo 31 = .ok (.aload_n 0, 1) := by decide +kernel
theorem dX0_openTo_32 : decode cX0_openTo 32 = .ok (.getfield 18, 3) := by decide +kernel
theorem dX0_openTo_35 : decode cX0_openTo 35 = .ok (.iload_n 1, 1) := by decide +kernel
theorem dX0_openTo_36 : decode cX0_openTo 36 = .ok (.invokestatic 90, 3) := by decide +kernel
theorem dX0_openTo_39 : decode cX0_openTo 39 = .ok (.iand, 1) := by decide +kernel
theorem dX0_openTo_40 : decode cX0_openTo 40 = .ok (.ifCond .eq 11, 3) := by decide +kernel
theorem dX0_openTo_43 : decode cX0_openTo 43 = .ok (.iload_n 2, 1) := by decide +kernel
theorem dX0_openTo_44 : decode cX0_openTo 44 = .ok (.iconst 1, 1) := by decide +kernel
theorem dX0_openTo_45 : decode cX0_openTo 45 = .ok (.iload_n 3, 1) := by decide +kernel
theorem dX0_openTo_46 : decode cX0_openTo 46 = .ok (.ishl, 1) := by decide +kernel
theorem dX0_openTo_47 : decode cX0_openTo 47 = .ok (.iconst (-1), 1) := by decide +kernel
theorem dX0_openTo_48 : decode cX0_openTo 48 = .ok (.ixor, 1) := by decide +kernel
theorem dX0_openTo_49 : decode cX0_openTo 49 = .ok (.iand, 1) := by decide +kernel
theorem dX0_openTo_50 : decode cX0_openTo 50 = .ok (.istore_n 2, 1) := by decide +kernel
theorem dX0_openTo_51 : decode cX0_openTo 51 = .ok (.iinc 3 1, 3) := by decide +kernel
theorem dX0_openTo_54 : decode cX0_openTo 54 = .ok (.goto (-38), 3) := by decide +kernel
theorem dX0_openTo_57 : decode cX0_openTo 57 = .ok (.iload_n 2, 1) := by decide +kernel
theorem dX0_openTo_58 : decode cX0_openTo 58 = .ok (.ireturn, 1) := by decide +kernel
theorem dX0_turn_0 : decode cX0_turn 0 = .ok (.aload_n 0, 1) := by decide +kernel
theorem dX0_turn_1 : decode cX0_turn 1 = .ok (.getfield 44, 3) := by decide +kernel
theorem dX0_turn_4 : decode cX0_turn 4 = .ok (.iconst 1, 1) := by decide +kernel
theorem dX0_turn_5 : decode cX0_turn 5 = .ok (.iand, 1) := by decide +kernel
theorem dX0_turn_6 : decode cX0_turn 6 = .ok (.ireturn, 1) := by decide +kernel
theorem dX0_isOver_0 : decode cX0_isOver 0 = .ok (.aload_n 0, 1) := by decide +kernel
theorem dX0_isOver_1 : decode cX0_isOver 1 = .ok (.getfield 41, 3) := by decide +kernel
theorem dX0_isOver_4 : decode cX0_isOver 4 = .ok (.ifCond .ne 18, 3) := by decide +kernel
theorem dX0_isOver_7 : decode cX0_isOver 7 = .ok (.aload_n 0, 1) := by decide +kernel
theorem dX0_isOver_8 : decode cX0_isOver 8 = .ok (.aload_n 0, 1) := by decide +kernel
theorem dX0_isOver_9 : decode cX0_isOver 9 = .ok (.getfield 31, 3) := by decide +kernel
theorem dX0_isOver_12 : decode cX0_isOver 12 = .ok (.invokevirtual 102, 3) := by decide +kernel
theorem dX0_isOver_15 : decode cX0_isOver 15 = .ok (.ifCond .ne 7, 3) := by decide +kernel
theorem dX0_isOver_18 : decode cX0_isOver 18 = .ok (.iconst 1, 1) := by decide +kernel
theorem dX0_isOver_19 : decode cX0_isOver 19 = .ok (.goto 4, 3) := by decide +kernel
theorem dX0_isOver_22 : decode cX0_isOver 22 = .ok (.iconst 0, 1) := by decide +kernel
theorem dX0_isOver_23 : decode cX0_isOver 23 = .ok (.ireturn, 1) := by decide +kernel
theorem dX0_passValue_0 : decode cX0_passValue 0 = .ok (.aload_n 0, 1) := by decide +kernel
theorem dX0_passValue_1 : decode cX0_passValue 1 = .ok (.getfield 41, 3) := by decide +kernel
theorem dX0_passValue_4 : decode cX0_passValue 4 = .ok (.iconst 1, 1) := by decide +kernel
theorem dX0_passValue_5 : decode cX0_passValue 5 = .ok (.iand, 1) := by decide +kernel
theorem dX0_passValue_6 : decode cX0_passValue 6 = .ok (.ireturn, 1) := by decide +kernel
theorem dX0_paint_0 : decode cX0_paint 0 = .ok (.aload_n 0, 1) := by decide +kernel
theorem dX0_paint_1 : decode cX0_paint 1 = .ok (.iload_n 1, 1) := by decide +kernel
theorem dX0_paint_2 : decode cX0_paint 2 = .ok (.invokevirtual 105, 3) := by decide +kernel
theorem dX0_paint_5 : decode cX0_paint 5 = .ok (.iconst 1, 1) := by decide +kernel
theorem dX0_paint_6 : decode cX0_paint 6 = .ok (.iload_n 1, 1) := by decide +kernel
theorem dX0_paint_7 : decode cX0_paint 7 = .ok (.ishl, 1) := by decide +kernel
theorem dX0_paint_8 : decode cX0_paint 8 = .ok (.iconst (-1), 1) := by decide +kernel
theorem dX0_paint_9 : decode cX0_paint 9 = .ok (.ixor, 1) := by decide +kernel
theorem dX0_paint_10 : decode cX0_paint 10 = .ok (.iand, 1) := by decide +kernel
theorem dX0_paint_11 : decode cX0_paint 11 = .ok (.istore_n 3, 1) := by decide +kernel
theorem dX0_paint_12 : decode cX0_paint 12 = .ok (.aload_n 0, 1) := by decide +kernel
theorem dX0_paint_13 : decode cX0_paint 13 = .ok (.dup, 1) := by decide +kernel
theorem dX0_paint_14 : decode cX0_paint 14 = .ok (.getfield 31, 3) := by decide +kernel
theorem dX0_paint_17 : decode cX0_paint 17 = .ok (.iconst 1, 1) := by decide +kernel
theorem dX0_paint_18 : decode cX0_paint 18 = .ok (.iload_n 1, 1) := by decide +kernel
theorem dX0_paint_19 : decode cX0_paint 19 = .ok (.ishl, 1) := by decide +kernel
theorem dX0_paint_20 : decode cX0_paint 20 = .ok (.iconst (-1), 1) := by decide +kernel
theorem dX0_paint_21 : decode cX0_paint 21 = .ok (.ixor, 1) := by decide +kernel
theorem dX0_paint_22 : decode cX0_paint 22 = .ok (.iand, 1) := by decide +kernel
theorem dX0_paint_23 : decode cX0_paint 23 = .ok (.putfield 31, 3) := by decide +kernel
theorem dX0_paint_26 : decode cX0_paint 26 = .ok (.iconst 0, 1) := by decide +kernel
theorem dX0_paint_27 : decode cX0_paint 27 = .ok (.istore 4, 2) := by decide +kernel
theorem dX0_paint_29 : decode cX0_paint 29 = .ok (.iload 4, 2) := by decide +kernel
theorem dX0_paint_31 : decode cX0_paint 31 = .ok (.aload_n 0, 1) := by decide +kernel
theorem dX0_paint_32 : decode cX0_paint 32 = .ok (.getfield 21, 3) := by decide +kernel
theorem dX0_paint_35 : decode cX0_paint 35 = .ok (.arraylength, 1) := by decide +kernel
theorem dX0_paint_36 : decode cX0_paint 36 = .ok (.if_icmp .ge 22, 3) := by decide +kernel
theorem dX0_paint_39 : decode cX0_paint 39 = .ok (.aload_n 0, 1) := by decide +kernel
theorem dX0_paint_40 : decode cX0_paint 40 = .ok (.getfield 21, 3) := by decide +kernel
theorem dX0_paint_43 : decode cX0_paint 43 = .ok (.iload 4, 2) := by decide +kernel
theorem dX0_paint_45 : decode cX0_paint 45 = .ok (.dup2, 1) := by decide +kernel
theorem dX0_paint_46 : decode cX0_paint 46 = .ok (.iaload, 1) := by decide +kernel
theorem dX0_paint_47 : decode cX0_paint 47 = .ok (.iload_n 3, 1) := by decide +kernel
theorem dX0_paint_48 : decode cX0_paint 48 = .ok (.iconst (-1), 1) := by decide +kernel
theorem dX0_paint_49 : decode cX0_paint 49 = .ok (.ixor, 1) := by decide +kernel
theorem dX0_paint_50 : decode cX0_paint 50 = .ok (.iand, 1) := by decide +kernel
theorem dX0_paint_51 : decode cX0_paint 51 = .ok (.iastore, 1) := by decide +kernel
theorem dX0_paint_52 : decode cX0_paint 52 = .ok (.iinc 4 1, 3) := by decide +kernel
theorem dX0_paint_55 : decode cX0_paint 55 = .ok (.goto (-26), 3) := by decide +kernel
theorem dX0_paint_58 : decode cX0_paint 58 = .ok (.aload_n 0, 1) := by decide +kernel
theorem dX0_paint_59 : decode cX0_paint 59 = .ok (.getfield 21, 3) := by decide +kernel
theorem dX0_paint_62 : decode cX0_paint 62 = .ok (.iload_n 2, 1) := by decide +kernel
theorem dX0_paint_63 : decode cX0_paint 63 = .ok (.iload_n 3, 1) := by decide +kernel
theorem dX0_paint_64 : decode cX0_paint 64 = .ok (.invokestatic 34, 3) := by decide +kernel
theorem dX0_paint_67 : decode cX0_paint 67 = .ok (.aload_n 0, 1) := by decide +kernel
theorem dX0_paint_68 : decode cX0_paint 68 = .ok (.getfield 18, 3) := by decide +kernel
theorem dX0_paint_71 : decode cX0_paint 71 = .ok (.iload_n 2, 1) := by decide +kernel
theorem dX0_paint_72 : decode cX0_paint 72 = .ok (.iconst 1, 1) := by decide +kernel
theorem dX0_paint_73 : decode cX0_paint 73 = .ok (.iload_n 1, 1) := by decide +kernel
theorem dX0_paint_74 : decode cX0_paint 74 = .ok (.ishl, 1) := by decide +kernel
theorem dX0_paint_75 : decode cX0_paint 75 = .ok (.invokestatic 34, 3) := by decide +kernel
theorem dX0_paint_78 : decode cX0_paint 78 = .ok (.aload_n 0, 1) := by decide +kernel
theorem dX0_paint_79 : decode cX0_paint 79 = .ok (.new 108, 3) := by decide +kernel
theorem dX0_paint_82 : decode cX0_paint 82 = .ok (.dup, 1) := by decide +kernel
theorem dX0_paint_83 : decode cX0_paint 83 = .ok (.aload_n 0, 1) := by decide +kernel
theorem dX0_paint_84 : decode cX0_paint 84 = .ok (.getfield 47, 3) := by decide +kernel
theorem dX0_paint_87 : decode cX0_paint 87 = .ok (.iload_n 1, 1) := by decide +kernel
theorem dX0_paint_88 : decode cX0_paint 88 = .ok (.iload_n 2, 1) := by decide +kernel
theorem dX0_paint_89 : decode cX0_paint 89 = .ok (.aload_n 0, 1) := by decide +kernel
theorem dX0_paint_90 : decode cX0_paint 90 = .ok (.aload_n 0, 1) := by decide +kernel
theorem dX0_paint_91 : decode cX0_paint 91 = .ok (.getfield 31, 3) := by decide +kernel
theorem dX0_paint_94 : decode cX0_paint 94 = .ok (.invokevirtual 110, 3) := by decide +kernel
theorem dX0_paint_97 : decode cX0_paint 97 = .ok (.aload_n 0, 1) := by decide +kernel
theorem dX0_paint_98 : decode cX0_paint 98 = .ok (.iload_n 3, 1) := by decide +kernel
theorem dX0_paint_99 : decode cX0_paint 99 = .ok (.invokevirtual 110, 3) := by decide +kernel
theorem dX0_paint_102 : decode cX0_paint 102 = .ok (.invokespecial 113, 3) := by decide +kernel
theorem dX0_paint_105 : decode cX0_paint 105 = .ok (.putfield 47, 3) := by decide +kernel
theorem dX0_paint_108 : decode cX0_paint 108 = .ok (.aload_n 0, 1) := by decide +kernel
theorem dX0_paint_109 : decode cX0_paint 109 = .ok (.dup, 1) := by decide +kernel
theorem dX0_paint_110 : decode cX0_paint 110 = .ok (.getfield 44, 3) := by decide +kernel
theorem dX0_paint_113 : decode cX0_paint 113 = .ok (.iconst 1, 1) := by decide +kernel
theorem dX0_paint_114 : decode cX0_paint 114 = .ok (.iadd, 1) := by decide +kernel
theorem dX0_paint_115 : decode cX0_paint 115 = .ok (.putfield 44, 3) := by decide +kernel
theorem dX0_paint_118 : decode cX0_paint 118 = .ok (.return_, 1) := by decide +kernel
theorem dX0_spendPass_0 : decode cX0_spendPass 0 = .ok (.aload_n 0, 1) := by decide +kernel
theorem dX0_spendPass_1 : decode cX0_spendPass 1 = .ok (.dup, 1) := by decide +kernel
theorem dX0_spendPass_2 : decode cX0_spendPass 2 = .ok (.getfield 41, 3) := by decide +kernel
theorem dX0_spendPass_5 : decode cX0_spendPass 5 = .ok (.iconst 1, 1) := by decide +kernel
theorem dX0_spendPass_6 : decode cX0_spendPass 6 = .ok (.isub, 1) := by decide +kernel
theorem dX0_spendPass_7 : decode cX0_spendPass 7 = .ok (.putfield 41, 3) := by decide +kernel
theorem dX0_spendPass_10 : decode cX0_spendPass 10 = .ok (.aload_n 0, 1) := by decide +kernel
theorem dX0_spendPass_11 : decode cX0_spendPass 11 = .ok (.new 108, 3) := by decide +kernel
theorem dX0_spendPass_14 : decode cX0_spendPass 14 = .ok (.dup, 1) := by decide +kernel
theorem dX0_spendPass_15 : decode cX0_spendPass 15 = .ok (.aload_n 0, 1) := by decide +kernel
theorem dX0_spendPass_16 : decode cX0_spendPass 16 = .ok (.getfield 47, 3) := by decide +kernel
theorem dX0_spendPass_19 : decode cX0_spendPass 19 = .ok (.iconst (-1), 1) := by decide +kernel
theorem dX0_spendPass_20 : decode cX0_spendPass 20 = .ok (.iconst (-1), 1) := by decide +kernel
theorem dX0_spendPass_21 : decode cX0_spendPass 21 = .ok (.aload_n 0, 1) := by decide +kernel
theorem dX0_spendPass_22 : decode cX0_spendPass 22 = .ok (.aload_n 0, 1) := by decide +kernel
theorem dX0_spendPass_23 : decode cX0_spendPass 23 = .ok (.getfield 31, 3) := by decide +kernel
theorem dX0_spendPass_26 : decode cX0_spendPass 26 = .ok (.invokevirtual 110, 3) := by decide +kernel
theorem dX0_spendPass_29 : decode cX0_spendPass 29 = .ok (.iconst (-1), 1) := by decide +kernel
theorem dX0_spendPass_30 : decode cX0_spendPass 30 = .ok (.invokespecial 113, 3) := by decide +kernel
theorem dX0_spendPass_33 : decode cX0_spendPass 33 = .ok (.putfield 47, 3) := by decide +kernel
theorem dX0_spendPass_36 : decode cX0_spendPass 36 = .ok (.aload_n 0, 1) := by decide +kernel
theorem dX0_spendPass_37 : decode cX0_spendPass 37 = .ok (.dup, 1) := by decide +kernel
theorem dX0_spendPass_38 : decode cX0_spendPass 38 = .ok (.getfield 44, 3) := by decide +kernel
theorem dX0_spendPass_41 : decode cX0_spendPass 41 = .ok (.iconst 1, 1) := by decide +kernel
theorem dX0_spendPass_42 : decode cX0_spendPass 42 = .ok (.iadd, 1) := by decide +kernel
theorem dX0_spendPass_43 : decode cX0_spendPass 43 = .ok (.putfield 44, 3) := by decide +kernel
theorem dX0_spendPass_46 : decode cX0_spendPass 46 = .ok (.return_, 1) := by decide +kernel
theorem dX0_moveAt_0 : decode cX0_moveAt 0 = .ok (.iload_n 1, 1) := by decide +kernel
theorem dX0_moveAt_1 : decode cX0_moveAt 1 = .ok (.ifCond .lt 11, 3) := by decide +kernel
theorem dX0_moveAt_4 : decode cX0_moveAt 4 = .ok (.iload_n 1, 1) := by decide +kernel
theorem dX0_moveAt_5 : decode cX0_moveAt 5 = .ok (.aload_n 0, 1) := by decide +kernel
theorem dX0_moveAt_6 : decode cX0_moveAt 6 = .ok (.getfield 44, 3) := by decide +kernel
theorem dX0_moveAt_9 : decode cX0_moveAt 9 = .ok (.if_icmp .lt 5, 3) := by decide +kernel
theorem dX0_moveAt_12 : decode cX0_moveAt 12 = .ok (.aconst_null, 1) := by decide +kernel
theorem dX0_moveAt_13 : decode cX0_moveAt 13 = .ok (.areturn, 1) := by decide +kernel
theorem dX0_moveAt_14 : decode cX0_moveAt 14 = .ok (.aload_n 0, 1) := by decide +kernel
theorem dX0_moveAt_15 : decode cX0_moveAt 15 = .ok (.getfield 47, 3) := by decide +kernel
theorem dX0_moveAt_18 : decode cX0_moveAt 18 = .ok (.astore_n 2, 1) := by decide +kernel
theorem dX0_moveAt_19 : decode cX0_moveAt 19 = .ok (.aload_n 0, 1) := by decide +kernel
theorem dX0_moveAt_20 : decode cX0_moveAt 20 = .ok (.getfield 44, 3) := by decide +kernel
theorem dX0_moveAt_23 : decode cX0_moveAt 23 = .ok (.iconst 1, 1) := by decide +kernel
theorem dX0_moveAt_24 : decode cX0_moveAt 24 = .ok (.isub, 1) := by decide +kernel
theorem dX0_moveAt_25 : decode cX0_moveAt 25 = .ok (.istore_n 3, 1) := by decide +kernel
theorem dX0_moveAt_26 : decode cX0_moveAt 26 = .ok (.iload_n 3, 1) := by decide +kernel
theorem dX0_moveAt_27 : decode cX0_moveAt 27 = .ok (.iload_n 1, 1) := by decide +kernel
theorem dX0_moveAt_28 : decode cX0_moveAt 28 = .ok (.if_icmp .le 18, 3) := by decide +kernel
theorem dX0_moveAt_31 : decode cX0_moveAt 31 = .ok (.aload_n 2, 1) := by decide +kernel
theorem dX0_moveAt_32 : decode cX0_moveAt 32 = .ok (.ifnull 14, 3) := by decide +kernel
theorem dX0_moveAt_35 : decode cX0_moveAt 35 = .ok (.aload_n 2, 1) := by decide +kernel
theorem dX0_moveAt_36 : decode cX0_moveAt 36 = .ok (.getfield 116, 3) := by decide +kernel
theorem dX0_moveAt_39 : decode cX0_moveAt 39 = .ok (.astore_n 2, 1) := by decide +kernel
theorem dX0_moveAt_40 : decode cX0_moveAt 40 = .ok (.iinc 3 (-1), 3) := by decide +kernel
theorem dX0_moveAt_43 : decode cX0_moveAt 43 = .ok (.goto (-17), 3) := by decide +kernel
theorem dX0_moveAt_46 : decode cX0_moveAt 46 = .ok (.aload_n 2, 1) := by decide +kernel
theorem dX0_moveAt_47 : decode cX0_moveAt 47 = .ok (.areturn, 1) := by decide +kernel
theorem dX0_movesBy_0 : decode cX0_movesBy 0 = .ok (.iconst 0, 1) := by decide +kernel
theorem dX0_movesBy_1 : decode cX0_movesBy 1 = .ok (.istore_n 3, 1) := by decide +kernel
theorem dX0_movesBy_2 : decode cX0_movesBy 2 = .ok (.aload_n 0, 1) := by decide +kernel
theorem dX0_movesBy_3 : decode cX0_movesBy 3 = .ok (.getfield 47, 3) := by decide +kernel
theorem dX0_movesBy_6 : decode cX0_movesBy 6 = .ok (.astore 4, 2) := by decide +kernel
theorem dX0_movesBy_8 : decode cX0_movesBy 8 = .ok (.aload_n 0, 1) := by decide +kernel
theorem dX0_movesBy_9 : decode cX0_movesBy 9 = .ok (.getfield 44, 3) := by decide +kernel
theorem dX0_movesBy_12 : decode cX0_movesBy 12 = .ok (.iconst 1, 1) := by decide +kernel
theorem dX0_movesBy_13 : decode cX0_movesBy 13 = .ok (.isub, 1) := by decide +kernel
theorem dX0_movesBy_14 : decode cX0_movesBy 14 = .ok (.istore 5, 2) := by decide +kernel
theorem dX0_movesBy_16 : decode cX0_movesBy 16 = .ok (.iload 5, 2) := by decide +kernel
theorem dX0_movesBy_18 : decode cX0_movesBy 18 = .ok (.ifCond .lt 41, 3) := by decide +kernel
theorem dX0_movesBy_21 : decode cX0_movesBy 21 = .ok (.aload 4, 2) := by decide +kernel
theorem dX0_movesBy_23 : decode cX0_movesBy 23 = .ok (.ifnull 36, 3) := by decide +kernel
theorem dX0_movesBy_26 : decode cX0_movesBy 26 = .ok (.iload 5, 2) := by decide +kernel
theorem dX0_movesBy_28 : decode cX0_movesBy 28 = .ok (.iconst 1, 1) := by decide +kernel
theorem dX0_movesBy_29 : decode cX0_movesBy 29 = .ok (.iand, 1) := by decide +kernel
theorem dX0_movesBy_30 : decode cX0_movesBy 30 = .ok (.iload_n 1, 1) := by decide +kernel
theorem dX0_movesBy_31 : decode cX0_movesBy 31 = .ok (.if_icmp .ne 15, 3) := by decide +kernel
theorem dX0_movesBy_34 : decode cX0_movesBy 34 = .ok (.aload 4, 2) := by decide +kernel
theorem dX0_movesBy_36 : decode cX0_movesBy 36 = .ok (.iload_n 2, 1) := by decide +kernel
theorem dX0_movesBy_37 : decode cX0_movesBy 37 = .ok (.invokevirtual 119, 3) := by decide +kernel
theorem dX0_movesBy_40 : decode cX0_movesBy 40 = .ok (.ifCond .eq 6, 3) := by decide +kernel
theorem dX0_movesBy_43 : decode cX0_movesBy 43 = .ok (.iinc 3 1, 3) := by decide +kernel
theorem dX0_movesBy_46 : decode cX0_movesBy 46 = .ok (.aload 4, 2) := by decide +kernel
theorem dX0_movesBy_48 : decode cX0_movesBy 48 = .ok (.getfield 116, 3) := by decide +kernel
theorem dX0_movesBy_51 : decode cX0_movesBy 51 = .ok (.astore 4, 2) := by decide +kernel
theorem dX0_movesBy_53 : decode cX0_movesBy 53 = .ok (.iinc 5 (-1), 3) := by decide +kernel
theorem dX0_movesBy_56 : decode cX0_movesBy 56 = .ok (.goto (-40), 3) := by decide +kernel
theorem dX0_movesBy_59 : decode cX0_movesBy 59 = .ok (.iload_n 3, 1) := by decide +kernel
theorem dX0_movesBy_60 : decode cX0_movesBy 60 = .ok (.ireturn, 1) := by decide +kernel
theorem dX0_coloursLaidBy_0 : decode cX0_coloursLaidBy 0 = .ok (.iconst 0, 1) := by decide +kernel
theorem dX0_coloursLaidBy_1 : decode cX0_coloursLaidBy 1 = .ok (.istore_n 2, 1) := by decide +kernel
theorem dX0_coloursLaidBy_2 : decode cX0_coloursLaidBy 2 = .ok (.aload_n 0, 1) := by decide +kernel
theorem dX0_coloursLaidBy_3 : decode cX0_coloursLaidBy 3 = .ok (.getfield 47, 3) := by decide +kernel
theorem dX0_coloursLaidBy_6 : decode cX0_coloursLaidBy 6 = .ok (.astore_n 3, 1) := by decide +kernel
theorem dX0_coloursLaidBy_7 : decode cX0_coloursLaidBy 7 = .ok (.aload_n 0, 1) := by decide +kernel
theorem dX0_coloursLaidBy_8 : decode cX0_coloursLaidBy 8 = .ok (.getfield 44, 3) := by decide +kernel
theorem dX0_coloursLaidBy_11 : decode cX0_coloursLaidBy 11 = .ok (.iconst 1, 1) := by decide +kernel
theorem dX0_coloursLaidBy_12 : decode cX0_coloursLaidBy 12 = .ok (.isub, 1) := by decide +kernel
theorem dX0_coloursLaidBy_13 : decode cX0_coloursLaidBy 13 = .ok (.istore 4, 2) := by decide +kernel
theorem dX0_coloursLaidBy_15 : decode cX0_coloursLaidBy 15 = .ok (.iload 4, 2) := by decide +kernel
theorem dX0_coloursLaidBy_17 : decode cX0_coloursLaidBy 17 = .ok (.ifCond .lt 43, 3) := by decide +kernel
theorem dX0_coloursLaidBy_20 : decode cX0_coloursLaidBy 20 = .ok (.aload_n 3, 1) := by decide +kernel
theorem dX0_coloursLaidBy_21 : decode cX0_coloursLaidBy 21 = .ok (.ifnull 39, 3) := by decide +kernel
theorem dX0_coloursLaidBy_24 : decode cX0_coloursLaidBy 24 = .ok (.iload 4, 2) := by decide +kernel
theorem dX0_coloursLaidBy_26 : decode cX0_coloursLaidBy 26 = .ok (.iconst 1, 1) := by decide +kernel
theorem dX0_coloursLaidBy_27 : decode cX0_coloursLaidBy 27 = .ok (.iand, 1) := by decide +kernel
theorem dX0_coloursLaidBy_28 : decode cX0_coloursLaidBy 28 = .ok (.iload_n 1, 1) := by decide +kernel
theorem dX0_coloursLaidBy_29 : decode cX0_coloursLaidBy 29 = .ok (.if_icmp .ne 20, 3) := by decide +kernel
theorem dX0_coloursLaidBy_32 : decode cX0_coloursLaidBy 32 = .ok (.aload_n 3, 1) := by decide +kernel
theorem dX0_coloursLaidBy_33 : decode cX0_coloursLaidBy 33 = .ok (.getfield 122, 3) := by decide +kernel
theorem dX0_coloursLaidBy_36 : decode cX0_coloursLaidBy 36 = .ok (.iconst (-1), 1) := by decide +kernel
theorem dX0_coloursLaidBy_37 : decode cX0_coloursLaidBy 37 = .ok (.if_icmp .eq 12, 3) := by decide +kernel
theorem dX0_coloursLaidBy_40 : decode cX0_coloursLaidBy 40 = .ok (.iload_n 2, 1) := by decide +kernel
theorem dX0_coloursLaidBy_41 : decode cX0_coloursLaidBy 41 = .ok (.iconst 1, 1) := by decide +kernel
theorem dX0_coloursLaidBy_42 : decode cX0_coloursLaidBy 42 = .ok (.aload_n 3, 1) := by decide +kernel
theorem dX0_coloursLaidBy_43 : decode cX0_coloursLaidBy 43 = .ok (.getfield 122, 3) := by decide +kernel
theorem dX0_coloursLaidBy_46 : decode cX0_coloursLaidBy 46 = .ok (.ishl, 1) := by decide +kernel
theorem dX0_coloursLaidBy_47 : decode cX0_coloursLaidBy 47 = .ok (.ior, 1) := by decide +kernel
theorem dX0_coloursLaidBy_48 : decode cX0_coloursLaidBy 48 = .ok (.istore_n 2, 1) := by decide +kernel
theorem dX0_coloursLaidBy_49 : decode cX0_coloursLaidBy 49 = .ok (.aload_n 3, 1) := by decide +kernel
theorem dX0_coloursLaidBy_50 : decode cX0_coloursLaidBy 50 = .ok (.getfield 116, 3) := by decide +kernel
theorem dX0_coloursLaidBy_53 : decode cX0_coloursLaidBy 53 = .ok (.astore_n 3, 1) := by decide +kernel
theorem dX0_coloursLaidBy_54 : decode cX0_coloursLaidBy 54 = .ok (.iinc 4 (-1), 3) := by decide +kernel
theorem dX0_coloursLaidBy_57 : decode cX0_coloursLaidBy 57 = .ok (.goto (-42), 3) := by decide +kernel
theorem dX0_coloursLaidBy_60 : decode cX0_coloursLaidBy 60 = .ok (.iload_n 2, 1) := by decide +kernel
theorem dX0_coloursLaidBy_61 : decode cX0_coloursLaidBy 61 = .ok (.ireturn, 1) := by decide +kernel
theorem dX1_init_0 : decode cX1_init 0 = .ok (.aload_n 0, 1) := by decide +kernel
theorem dX1_init_1 : decode cX1_init 1 = .ok (.invokespecial 3, 3) := by decide +kernel
theorem dX1_init_4 : decode cX1_init 4 = .ok (.aload_n 0, 1) := by decide +kernel
theorem dX1_init_5 : decode cX1_init 5 = .ok (.bipush 8, 2) := by decide +kernel
theorem dX1_init_7 : decode cX1_init 7 = .ok (.anewarray 9, 3) := by decide +kernel
theorem dX1_init_10 : decode cX1_init 10 = .ok (.putfield 11, 3) := by decide +kernel
theorem dX1_init_13 : decode cX1_init 13 = .ok (.return_, 1) := by decide +kernel
theorem dX1_keep_0 : decode cX1_keep 0 = .ok (.aload_n 0, 1) := by decide +kernel
theorem dX1_keep_1 : decode cX1_keep 1 = .ok (.getfield 11, 3) := by decide +kernel
theorem dX1_keep_4 : decode cX1_keep 4 = .ok (.aload_n 0, 1) := by decide +kernel
theorem dX1_keep_5 : decode cX1_keep 5 = .ok (.getfield 17, 3) := by decide +kernel
theorem dX1_keep_8 : decode cX1_keep 8 = .ok (.aload_n 1, 1) := by decide +kernel
theorem dX1_keep_9 : decode cX1_keep 9 = .ok (.invokestatic 21, 3) := by decide +kernel
theorem dX1_keep_12 : decode cX1_keep 12 = .ok (.aload_n 0, 1) := by decide +kernel
theorem dX1_keep_13 : decode cX1_keep 13 = .ok (.aload_n 0, 1) := by decide +kernel
theorem dX1_keep_14 : decode cX1_keep 14 = .ok (.getfield 17, 3) := by decide +kernel
theorem dX1_keep_17 : decode cX1_keep 17 = .ok (.iconst 1, 1) := by decide +kernel
theorem dX1_keep_18 : decode cX1_keep 18 = .ok (.iadd, 1) := by decide +kernel
theorem dX1_keep_19 : decode cX1_keep 19 = .ok (.aload_n 0, 1) := by decide +kernel
theorem dX1_keep_20 : decode cX1_keep 20 = .ok (.getfield 11, 3) := by decide +kernel
theorem dX1_keep_23 : decode cX1_keep 23 = .ok (.arraylength, 1) := by decide +kernel
theorem dX1_keep_24 : decode cX1_keep 24 = .ok (.if_icmp .ge 12, 3) := by decide +kernel
theorem dX1_keep_27 : decode cX1_keep 27 = .ok (.aload_n 0, 1) := by decide +kernel
theorem dX1_keep_28 : decode cX1_keep 28 = .ok (.getfield 17, 3) := by decide +kernel
theorem dX1_keep_31 : decode cX1_keep 31 = .ok (.iconst 1, 1) := by decide +kernel
theorem dX1_keep_32 : decode cX1_keep 32 = .ok (.iadd, 1) := by decide +kernel
theorem dX1_keep_33 : decode cX1_keep 33 = .ok (.goto 4, 3) := by decide +kernel
theorem dX1_keep_36 : decode cX1_keep 36 = .ok (.iconst 0, 1) := by decide +kernel
theorem dX1_keep_37 : decode cX1_keep 37 = .ok (.putfield 17, 3) := by decide +kernel
theorem dX1_keep_40 : decode cX1_keep 40 = .ok (.aload_n 0, 1) := by decide +kernel
theorem dX1_keep_41 : decode cX1_keep 41 = .ok (.aload_n 0, 1) := by decide +kernel
theorem dX1_keep_42 : decode cX1_keep 42 = .ok (.getfield 25, 3) := by decide +kernel
theorem dX1_keep_45 : decode cX1_keep 45 = .ok (.iconst 1, 1) := by decide +kernel
theorem dX1_keep_46 : decode cX1_keep 46 = .ok (.iadd, 1) := by decide +kernel
theorem dX1_keep_47 : decode cX1_keep 47 = .ok (.aload_n 0, 1) := by decide +kernel
theorem dX1_keep_48 : decode cX1_keep 48 = .ok (.getfield 11, 3) := by decide +kernel
theorem dX1_keep_51 : decode cX1_keep 51 = .ok (.arraylength, 1) := by decide +kernel
theorem dX1_keep_52 : decode cX1_keep 52 = .ok (.invokestatic 28, 3) := by decide +kernel
theorem dX1_keep_55 : decode cX1_keep 55 = .ok (.putfield 25, 3) := by decide +kernel
theorem dX1_keep_58 : decode cX1_keep 58 = .ok (.return_, 1) := by decide +kernel
end
section
theorem dX1_bringBack_0 : decode cX1_bringBack 0 = .ok (.aload_n 0, 1) := by decide +kernel
theorem dX1_bringBack_1 : decode cX1_bringBack 1 = .ok (.getfield 17, 3) := by decide +kernel
theorem dX1_bringBack_4 : decode cX1_bringBack 4 = .ok (.ifCond .le 12, 3) := by decide +kernel
theorem dX1_bringBack_7 : decode cX1_bringBack 7 = .ok (.aload_n 0, 1) := by decide +kernel
theorem dX1_bringBack_8 : decode cX1_bringBack 8 = .ok (.getfield 17, 3) := by decide +kernel
theorem dX1_bringBack_11 : decode cX1_bringBack 11 = .ok (.iconst 1, 1) := by decide +kernel
theorem dX1_bringBack_12 : decode cX1_bringBack 12 = .ok (.isub, 1) := by decide +kernel
theorem dX1_bringBack_13 : decode cX1_bringBack 13 = .ok (.goto 10, 3) := by decide +kernel
theorem dX1_bringBack_16 : decode cX1_bringBack 16 = .ok (.aload_n 0, 1) := by decide +kernel
theorem dX1_bringBack_17 : decode cX1_bringBack 17 = .ok (.getfield 11, 3) := by decide +kernel
theorem dX1_bringBack_20 : decode cX1_bringBack 20 = .ok (.arraylength, 1) := by decide +kernel
theorem dX1_bringBack_21 : decode cX1_bringBack 21 = .ok (.iconst 1, 1) := by decide +kernel
theorem dX1_bringBack_22 : decode cX1_bringBack 22 = .ok (.isub, 1) := by decide +kernel
theorem dX1_bringBack_23 : decode cX1_bringBack 23 = .ok (.istore_n 2, 1) := by decide +kernel
theorem dX1_bringBack_24 : decode cX1_bringBack 24 = .ok (.aload_n 0, 1) := by decide +kernel
theorem dX1_bringBack_25 : decode cX1_bringBack 25 = .ok (.getfield 25, 3) := by decide +kernel
theorem dX1_bringBack_28 : decode cX1_bringBack 28 = .ok (.ifCond .le 46, 3) := by decide +kernel
theorem dX1_bringBack_31 : decode cX1_bringBack 31 = .ok (.iload_n 2, 1) := by decide +kernel
theorem dX1_bringBack_32 : decode cX1_bringBack 32 = .ok (.aload_n 0, 1) := by decide +kernel
theorem dX1_bringBack_33 : decode cX1_bringBack 33 = .ok (.getfield 11, 3) := by decide +kernel
theorem dX1_bringBack_36 : decode cX1_bringBack 36 = .ok (.arraylength, 1) := by decide +kernel
theorem dX1_bringBack_37 : decode cX1_bringBack 37 = .ok (.if_icmp .ge 37, 3) := by decide +kernel
theorem dX1_bringBack_40 : decode cX1_bringBack 40 = .ok (.aload_n 0, 1) := by decide +kernel
theorem dX1_bringBack_41 : decode cX1_bringBack 41 = .ok (.getfield 11, 3) := by decide +kernel
theorem dX1_bringBack_44 : decode cX1_bringBack 44 = .ok (.iload_n 2, 1) := by decide +kernel
theorem dX1_bringBack_45 : decode cX1_bringBack 45 = .ok (.aaload, 1) := by decide +kernel
theorem dX1_bringBack_46 : decode cX1_bringBack 46 = .ok (.ifnull 28, 3) := by decide +kernel
theorem dX1_bringBack_49 : decode cX1_bringBack 49 = .ok (.aload_n 1, 1) := by decide +kernel
theorem dX1_bringBack_50 : decode cX1_bringBack 50 = .ok (.aload_n 0, 1) := by decide +kernel
theorem dX1_bringBack_51 : decode cX1_bringBack 51 = .ok (.getfield 11, 3) := by decide +kernel
theorem dX1_bringBack_54 : decode cX1_bringBack 54 = .ok (.iload_n 2, 1) := by decide +kernel
theorem dX1_bringBack_55 : decode cX1_bringBack 55 = .ok (.aaload, 1) := by decide +kernel
theorem dX1_bringBack_56 : decode cX1_bringBack 56 = .ok (.invokevirtual 34, 3) := by decide +kernel
theorem dX1_bringBack_59 : decode cX1_bringBack 59 = .ok (.aload_n 0, 1) := by decide +kernel
theorem dX1_bringBack_60 : decode cX1_bringBack 60 = .ok (.iload_n 2, 1) := by decide +kernel
theorem dX1_bringBack_61 : decode cX1_bringBack 61 = .ok (.putfield 17, 3) := by decide +kernel
theorem dX1_bringBack_64 : decode cX1_bringBack 64 = .ok (.aload_n 0, 1) := by decide +kernel
theorem dX1_bringBack_65 : decode cX1_bringBack 65 = .ok (.dup, 1) := by decide +kernel
theorem dX1_bringBack_66 : decode cX1_bringBack 66 = .ok (.getfield 25, 3) := by decide +kernel
theorem dX1_bringBack_69 : decode cX1_bringBack 69 = .ok (.iconst 1, 1) := by decide +kernel
theorem dX1_bringBack_70 : decode cX1_bringBack 70 = .ok (.isub, 1) := by decide +kernel
theorem dX1_bringBack_71 : decode cX1_bringBack 71 = .ok (.putfield 25, 3) := by decide +kernel
theorem dX1_bringBack_74 : decode cX1_bringBack 74 = .ok (.return_, 1) := by decide +kernel
theorem dX2_init_0 : decode cX2_init 0 = .ok (.aload_n 0, 1) := by decide +kernel
theorem dX2_init_1 : decode cX2_init 1 = .ok (.invokespecial 3, 3) := by decide +kernel
theorem dX2_init_4 : decode cX2_init 4 = .ok (.aload_n 0, 1) := by decide +kernel
theorem dX2_init_5 : decode cX2_init 5 = .ok (.aload_n 1, 1) := by decide +kernel
theorem dX2_init_6 : decode cX2_init 6 = .ok (.putfield 9, 3) := by decide +kernel
theorem dX2_init_9 : decode cX2_init 9 = .ok (.aload_n 0, 1) := by decide +kernel
theorem dX2_init_10 : decode cX2_init 10 = .ok (.iload_n 2, 1) := by decide +kernel
theorem dX2_init_11 : decode cX2_init 11 = .ok (.putfield 15, 3) := by decide +kernel
theorem dX2_init_14 : decode cX2_init 14 = .ok (.aload_n 0, 1) := by decide +kernel
theorem dX2_init_15 : decode cX2_init 15 = .ok (.iload_n 3, 1) := by decide +kernel
theorem dX2_init_16 : decode cX2_init 16 = .ok (.putfield 19, 3) := by decide +kernel
theorem dX2_init_19 : decode cX2_init 19 = .ok (.aload_n 0, 1) := by decide +kernel
theorem dX2_init_20 : decode cX2_init 20 = .ok (.iload 4, 2) := by decide +kernel
theorem dX2_init_22 : decode cX2_init 22 = .ok (.putfield 22, 3) := by decide +kernel
theorem dX2_init_25 : decode cX2_init 25 = .ok (.aload_n 0, 1) := by decide +kernel
theorem dX2_init_26 : decode cX2_init 26 = .ok (.iload 5, 2) := by decide +kernel
theorem dX2_init_28 : decode cX2_init 28 = .ok (.putfield 25, 3) := by decide +kernel
theorem dX2_init_31 : decode cX2_init 31 = .ok (.return_, 1) := by decide +kernel
theorem dX2_countsAs_0 : decode cX2_countsAs 0 = .ok (.iload_n 1, 1) := by decide +kernel
theorem dX2_countsAs_1 : decode cX2_countsAs 1 = .ok (.tableswitch 102 0 3 #[31, 45, 59, 81], 31) := by decide +kernel
theorem dX2_countsAs_32 : decode cX2_countsAs 32 = .ok (.aload_n 0, 1) := by decide +kernel
theorem dX2_countsAs_33 : decode cX2_countsAs 33 = .ok (.getfield 15, 3) := by decide +kernel
theorem dX2_countsAs_36 : decode cX2_countsAs 36 = .ok (.iconst (-1), 1) := by decide +kernel
theorem dX2_countsAs_37 : decode cX2_countsAs 37 = .ok (.if_icmp .eq 7, 3) := by decide +kernel
theorem dX2_countsAs_40 : decode cX2_countsAs 40 = .ok (.iconst 1, 1) := by decide +kernel
theorem dX2_countsAs_41 : decode cX2_countsAs 41 = .ok (.goto 4, 3) := by decide +kernel
theorem dX2_countsAs_44 : decode cX2_countsAs 44 = .ok (.iconst 0, 1) := by decide +kernel
theorem dX2_countsAs_45 : decode cX2_countsAs 45 = .ok (.ireturn, 1) := by decide +kernel
theorem dX2_countsAs_46 : decode cX2_countsAs 46 = .ok (.aload_n 0, 1) := by decide +kernel
theorem dX2_countsAs_47 : decode cX2_countsAs 47 = .ok (.getfield 15, 3) := by decide +kernel
theorem dX2_countsAs_50 : decode cX2_countsAs 50 = .ok (.iconst (-1), 1) := by decide +kernel
theorem dX2_countsAs_51 : decode cX2_countsAs 51 = .ok (.if_icmp .ne 7, 3) := by decide +kernel
theorem dX2_countsAs_54 : decode cX2_countsAs 54 = .ok (.iconst 1, 1) := by decide +kernel
theorem dX2_countsAs_55 : decode cX2_countsAs 55 = .ok (.goto 4, 3) := by decide +kernel
theorem dX2_countsAs_58 : decode cX2_countsAs 58 = .ok (.iconst 0, 1) := by decide +kernel
theorem dX2_countsAs_59 : decode cX2_countsAs 59 = .ok (.ireturn, 1) := by decide +kernel
theorem dX2_countsAs_60 : decode cX2_countsAs 60 = .ok (.aload_n 0, 1) := by decide +kernel
theorem dX2_countsAs_61 : decode cX2_countsAs 61 = .ok (.getfield 15, 3) := by decide +kernel
theorem dX2_countsAs_64 : decode cX2_countsAs 64 = .ok (.iconst (-1), 1) := by decide +kernel
theorem dX2_countsAs_65 : decode cX2_countsAs 65 = .ok (.if_icmp .eq 15, 3) := by decide +kernel
theorem dX2_countsAs_68 : decode cX2_countsAs 68 = .ok (.aload_n 0, 1) := by decide +kernel
theorem dX2_countsAs_69 : decode cX2_countsAs 69 = .ok (.getfield 25, 3) := by decide +kernel
theorem dX2_countsAs_72 : decode cX2_countsAs 72 = .ok (.iconst 2, 1) := by decide +kernel
theorem dX2_countsAs_73 : decode cX2_countsAs 73 = .ok (.if_icmp .lt 7, 3) := by decide +kernel
theorem dX2_countsAs_76 : decode cX2_countsAs 76 = .ok (.iconst 1, 1) := by decide +kernel
theorem dX2_countsAs_77 : decode cX2_countsAs 77 = .ok (.goto 4, 3) := by decide +kernel
theorem dX2_countsAs_80 : decode cX2_countsAs 80 = .ok (.iconst 0, 1) := by decide +kernel
theorem dX2_countsAs_81 : decode cX2_countsAs 81 = .ok (.ireturn, 1) := by decide +kernel
theorem dX2_countsAs_82 : decode cX2_countsAs 82 = .ok (.aload_n 0, 1) := by decide +kernel
theorem dX2_countsAs_83 : decode cX2_countsAs 83 = .ok (.getfield 15, 3) := by decide +kernel
theorem dX2_countsAs_86 : decode cX2_countsAs 86 = .ok (.iconst (-1), 1) := by decide +kernel
theorem dX2_countsAs_87 : decode cX2_countsAs 87 = .ok (.if_icmp .eq 14, 3) := by decide +kernel
theorem dX2_countsAs_90 : decode cX2_countsAs 90 = .ok (.aload_n 0, 1) := by decide +kernel
theorem dX2_countsAs_91 : decode cX2_countsAs 91 = .ok (.getfield 25, 3) := by decide +kernel
theorem dX2_countsAs_94 : decode cX2_countsAs 94 = .ok (.ifCond .ne 7, 3) := by decide +kernel
theorem dX2_countsAs_97 : decode cX2_countsAs 97 = .ok (.iconst 1, 1) := by decide +kernel
theorem dX2_countsAs_98 : decode cX2_countsAs 98 = .ok (.goto 4, 3) := by decide +kernel
theorem dX2_countsAs_101 : decode cX2_countsAs 101 = .ok (.iconst 0, 1) := by decide +kernel
theorem dX2_countsAs_102 : decode cX2_countsAs 102 = .ok (.ireturn, 1) := by decide +kernel
theorem dX2_countsAs_103 : decode cX2_countsAs 103 = .ok (.iconst 0, 1) := by decide +kernel
theorem dX2_countsAs_104 : decode cX2_countsAs 104 = .ok (.ireturn, 1) := by decide +kernel
theorem dX3_init_0 : decode cX3_init 0 = .ok (.aload_n 0, 1) := by decide +kernel
theorem dX3_init_1 : decode cX3_init 1 = .ok (.invokespecial 3, 3) := by decide +kernel
theorem dX3_init_4 : decode cX3_init 4 = .ok (.aload_n 0, 1) := by decide +kernel
theorem dX3_init_5 : decode cX3_init 5 = .ok (.iconst (-1), 1) := by decide +kernel
theorem dX3_init_6 : decode cX3_init 6 = .ok (.putfield 9, 3) := by decide +kernel
theorem dX3_init_9 : decode cX3_init 9 = .ok (.aload_n 0, 1) := by decide +kernel
theorem dX3_init_10 : decode cX3_init 10 = .ok (.sipush 500, 3) := by decide +kernel
theorem dX3_init_13 : decode cX3_init 13 = .ok (.newarray .byte, 2) := by decide +kernel
theorem dX3_init_15 : decode cX3_init 15 = .ok (.putfield 15, 3) := by decide +kernel
theorem dX3_init_18 : decode cX3_init 18 = .ok (.aload_n 0, 1) := by decide +kernel
theorem dX3_init_19 : decode cX3_init 19 = .ok (.aload_n 1, 1) := by decide +kernel
theorem dX3_init_20 : decode cX3_init 20 = .ok (.putfield 19, 3) := by decide +kernel
theorem dX3_init_23 : decode cX3_init 23 = .ok (.return_, 1) := by decide +kernel
theorem dX3_addFour_0 : decode cX3_addFour 0 = .ok (.bipush 24, 2) := by decide +kernel
theorem dX3_addFour_2 : decode cX3_addFour 2 = .ok (.istore_n 2, 1) := by decide +kernel
theorem dX3_addFour_3 : decode cX3_addFour 3 = .ok (.iload_n 2, 1) := by decide +kernel
theorem dX3_addFour_4 : decode cX3_addFour 4 = .ok (.ifCond .lt 51, 3) := by decide +kernel
theorem dX3_addFour_7 : decode cX3_addFour 7 = .ok (.aload_n 0, 1) := by decide +kernel
theorem dX3_addFour_8 : decode cX3_addFour 8 = .ok (.getfield 23, 3) := by decide +kernel
theorem dX3_addFour_11 : decode cX3_addFour 11 = .ok (.ifCond .lt 38, 3) := by decide +kernel
theorem dX3_addFour_14 : decode cX3_addFour 14 = .ok (.aload_n 0, 1) := by decide +kernel
theorem dX3_addFour_15 : decode cX3_addFour 15 = .ok (.getfield 23, 3) := by decide +kernel
theorem dX3_addFour_18 : decode cX3_addFour 18 = .ok (.aload_n 0, 1) := by decide +kernel
theorem dX3_addFour_19 : decode cX3_addFour 19 = .ok (.getfield 15, 3) := by decide +kernel
theorem dX3_addFour_22 : decode cX3_addFour 22 = .ok (.arraylength, 1) := by decide +kernel
theorem dX3_addFour_23 : decode cX3_addFour 23 = .ok (.if_icmp .ge 26, 3) := by decide +kernel
theorem dX3_addFour_26 : decode cX3_addFour 26 = .ok (.aload_n 0, 1) := by decide +kernel
theorem dX3_addFour_27 : decode cX3_addFour 27 = .ok (.getfield 15, 3) := by decide +kernel
theorem dX3_addFour_30 : decode cX3_addFour 30 = .ok (.aload_n 0, 1) := by decide +kernel
theorem dX3_addFour_31 : decode cX3_addFour 31 = .ok (.getfield 23, 3) := by decide +kernel
theorem dX3_addFour_34 : decode cX3_addFour 34 = .ok (.iload_n 1, 1) := by decide +kernel
theorem dX3_addFour_35 : decode cX3_addFour 35 = .ok (.iload_n 2, 1) := by decide +kernel
theorem dX3_addFour_36 : decode cX3_addFour 36 = .ok (.iushr, 1) := by decide +kernel
theorem dX3_addFour_37 : decode cX3_addFour 37 = .ok (.i2b, 1) := by decide +kernel
theorem dX3_addFour_38 : decode cX3_addFour 38 = .ok (.bastore, 1) := by decide +kernel
theorem dX3_addFour_39 : decode cX3_addFour 39 = .ok (.aload_n 0, 1) := by decide +kernel
theorem dX3_addFour_40 : decode cX3_addFour 40 = .ok (.dup, 1) := by decide +kernel
theorem dX3_addFour_41 : decode cX3_addFour 41 = .ok (.getfield 23, 3) := by decide +kernel
theorem dX3_addFour_44 : decode cX3_addFour 44 = .ok (.iconst 1, 1) := by decide +kernel
theorem dX3_addFour_45 : decode cX3_addFour 45 = .ok (.iadd, 1) := by decide +kernel
theorem dX3_addFour_46 : decode cX3_addFour 46 = .ok (.putfield 23, 3) := by decide +kernel
theorem dX3_addFour_49 : decode cX3_addFour 49 = .ok (.iinc 2 (-8), 3) := by decide +kernel
theorem dX3_addFour_52 : decode cX3_addFour 52 = .ok (.goto (-49), 3) := by decide +kernel
theorem dX3_addFour_55 : decode cX3_addFour 55 = .ok (.return_, 1) := by decide +kernel
theorem dX3_readText_0 : decode cX3_readText 0 = .ok (.aload_n 0, 1) := by decide +kernel
theorem dX3_readText_1 : decode cX3_readText 1 = .ok (.iload_n 1, 1) := by decide +kernel
theorem dX3_readText_2 : decode cX3_readText 2 = .ok (.putfield 26, 3) := by decide +kernel
theorem dX3_readText_5 : decode cX3_readText 5 = .ok (.aload_n 0, 1) := by decide +kernel
theorem dX3_readText_6 : decode cX3_readText 6 = .ok (.iconst (-1), 1) := by decide +kernel
theorem dX3_readText_7 : decode cX3_readText 7 = .ok (.putfield 9, 3) := by decide +kernel
theorem dX3_readText_10 : decode cX3_readText 10 = .ok (.aload_n 0, 1) := by decide +kernel
theorem dX3_readText_11 : decode cX3_readText 11 = .ok (.iconst 0, 1) := by decide +kernel
theorem dX3_readText_12 : decode cX3_readText 12 = .ok (.putfield 29, 3) := by decide +kernel
theorem dX3_readText_15 : decode cX3_readText 15 = .ok (.aload_n 0, 1) := by decide +kernel
theorem dX3_readText_16 : decode cX3_readText 16 = .ok (.invokevirtual 32, 3) := by decide +kernel
theorem dX3_readText_19 : decode cX3_readText 19 = .ok (.aload_n 0, 1) := by decide +kernel
theorem dX3_readText_20 : decode cX3_readText 20 = .ok (.invokevirtual 35, 3) := by decide +kernel
theorem dX3_readText_23 : decode cX3_readText 23 = .ok (.ifCond .eq 35, 3) := by decide +kernel
theorem dX3_readText_26 : decode cX3_readText 26 = .ok (.aload_n 0, 1) := by decide +kernel
theorem dX3_readText_27 : decode cX3_readText 27 = .ok (.invokevirtual 39, 3) := by decide +kernel
theorem dX3_readText_30 : decode cX3_readText 30 = .ok (.ifCond .eq 28, 3) := by decide +kernel
theorem dX3_readText_33 : decode cX3_readText 33 = .ok (.aload_n 0, 1) := by decide +kernel
theorem dX3_readText_34 : decode cX3_readText 34 = .ok (.invokevirtual 42, 3) := by decide +kernel
theorem dX3_readText_37 : decode cX3_readText 37 = .ok (.ifCond .eq 21, 3) := by decide +kernel
theorem dX3_readText_40 : decode cX3_readText 40 = .ok (.aload_n 0, 1) := by decide +kernel
theorem dX3_readText_41 : decode cX3_readText 41 = .ok (.invokevirtual 45, 3) := by decide +kernel
theorem dX3_readText_44 : decode cX3_readText 44 = .ok (.ifCond .eq 14, 3) := by decide +kernel
theorem dX3_readText_47 : decode cX3_readText 47 = .ok (.aload_n 0, 1) := by decide +kernel
theorem dX3_readText_48 : decode cX3_readText 48 = .ok (.invokevirtual 48, 3) := by decide +kernel
theorem dX3_readText_51 : decode cX3_readText 51 = .ok (.ifCond .eq 7, 3) := by decide +kernel
theorem dX3_readText_54 : decode cX3_readText 54 = .ok (.iconst 1, 1) := by decide +kernel
theorem dX3_readText_55 : decode cX3_readText 55 = .ok (.goto 4, 3) := by decide +kernel
theorem dX3_readText_58 : decode cX3_readText 58 = .ok (.iconst 0, 1) := by decide +kernel
theorem dX3_readText_59 : decode cX3_readText 59 = .ok (.istore_n 2, 1) := by decide +kernel
theorem dX3_readText_60 : decode cX3_readText 60 = .ok (.aload_n 0, 1) := by decide +kernel
theorem dX3_readText_61 : decode cX3_readText 61 = .ok (.iconst 0, 1) := by decide +kernel
theorem dX3_readText_62 : decode cX3_readText 62 = .ok (.putfield 23, 3) := by decide +kernel
theorem dX3_readText_65 : decode cX3_readText 65 = .ok (.iload_n 2, 1) := by decide +kernel
theorem dX3_readText_66 : decode cX3_readText 66 = .ok (.ifCond .eq 7, 3) := by decide +kernel
theorem dX3_readText_69 : decode cX3_readText 69 = .ok (.iconst 0, 1) := by decide +kernel
theorem dX3_readText_70 : decode cX3_readText 70 = .ok (.goto 7, 3) := by decide +kernel
theorem dX3_readText_73 : decode cX3_readText 73 = .ok (.aload_n 0, 1) := by decide +kernel
theorem dX3_readText_74 : decode cX3_readText 74 = .ok (.getfield 51, 3) := by decide +kernel
theorem dX3_readText_77 : decode cX3_readText 77 = .ok (.ireturn, 1) := by decide +kernel
theorem dX3_readHead_0 : decode cX3_readHead 0 = .ok (.aload_n 0, 1) := by decide +kernel
theorem dX3_readHead_1 : decode cX3_readHead 1 = .ok (.ldc 54, 2) := by decide +kernel
theorem dX3_readHead_3 : decode cX3_readHead 3 = .ok (.invokevirtual 56, 3) := by decide +kernel
theorem dX3_readHead_6 : decode cX3_readHead 6 = .ok (.ifCond .ne 5, 3) := by decide +kernel
theorem dX3_readHead_9 : decode cX3_readHead 9 = .ok (.iconst 0, 1) := by decide +kernel
theorem dX3_readHead_10 : decode cX3_readHead 10 = .ok (.ireturn, 1) := by decide +kernel
theorem dX3_readHead_11 : decode cX3_readHead 11 = .ok (.aload_n 0, 1) := by decide +kernel
theorem dX3_readHead_12 : decode cX3_readHead 12 = .ok (.iconst 1, 1) := by decide +kernel
theorem dX3_readHead_13 : decode cX3_readHead 13 = .ok (.iconst 3, 1) := by decide +kernel
theorem dX3_readHead_14 : decode cX3_readHead 14 = .ok (.invokevirtual 60, 3) := by decide +kernel
theorem dX3_readHead_17 : decode cX3_readHead 17 = .ok (.istore_n 1, 1) := by decide +kernel
theorem dX3_readHead_18 : decode cX3_readHead 18 = .ok (.iload_n 1, 1) := by decide +kernel
theorem dX3_readHead_19 : decode cX3_readHead 19 = .ok (.iconst (-1), 1) := by decide +kernel
theorem dX3_readHead_20 : decode cX3_readHead 20 = .ok (.if_icmp .ne 5, 3) := by decide +kernel
theorem dX3_readHead_23 : decode cX3_readHead 23 = .ok (.iconst 0, 1) := by decide +kernel
theorem dX3_readHead_24 : decode cX3_readHead 24 = .ok (.ireturn, 1) := by decide +kernel
theorem dX3_readHead_25 : decode cX3_readHead 25 = .ok (.aload_n 0, 1) := by decide +kernel
theorem dX3_readHead_26 : decode cX3_readHead 26 = .ok (.getfield 19, 3) := by decide +kernel
theorem dX3_readHead_29 : decode cX3_readHead 29 = .ok (.iload_n 1, 1) := by decide +kernel
theorem dX3_readHead_30 : decode cX3_readHead 30 = .ok (.invokevirtual 64, 3) := by decide +kernel
theorem dX3_readHead_33 : decode cX3_readHead 33 = .ok (.aload_n 0, 1) := by decide +kernel
theorem dX3_readHead_34 : decode cX3_readHead 34 = .ok (.ldc 70, 2) := by decide +kernel
theorem dX3_readHead_36 : decode cX3_readHead 36 = .ok (.invokevirtual 72, 3) := by decide +kernel
theorem dX3_readHead_39 : decode cX3_readHead 39 = .ok (.ifCond .eq 30, 3) := by decide +kernel
theorem dX3_readHead_42 : decode cX3_readHead 42 = .ok (.aload_n 0, 1) := by decide +kernel
theorem dX3_readHead_43 : decode cX3_readHead 43 = .ok (.invokevirtual 32, 3) := by decide +kernel
theorem dX3_readHead_46 : decode cX3_readHead 46 = .ok (.aload_n 0, 1) := by decide +kernel
theorem dX3_readHead_47 : decode cX3_readHead 47 = .ok (.iconst 0, 1) := by decide +kernel
theorem dX3_readHead_48 : decode cX3_readHead 48 = .ok (.bipush 9, 2) := by decide +kernel
theorem dX3_readHead_50 : decode cX3_readHead 50 = .ok (.invokevirtual 60, 3) := by decide +kernel
theorem dX3_readHead_53 : decode cX3_readHead 53 = .ok (.istore_n 2, 1) := by decide +kernel
theorem dX3_readHead_54 : decode cX3_readHead 54 = .ok (.iload_n 2, 1) := by decide +kernel
theorem dX3_readHead_55 : decode cX3_readHead 55 = .ok (.iconst (-1), 1) := by decide +kernel
theorem dX3_readHead_56 : decode cX3_readHead 56 = .ok (.if_icmp .ne 5, 3) := by decide +kernel
theorem dX3_readHead_59 : decode cX3_readHead 59 = .ok (.iconst 0, 1) := by decide +kernel
theorem dX3_readHead_60 : decode cX3_readHead 60 = .ok (.ireturn, 1) := by decide +kernel
theorem dX3_readHead_61 : decode cX3_readHead 61 = .ok (.aload_n 0, 1) := by decide +kernel
theorem dX3_readHead_62 : decode cX3_readHead 62 = .ok (.getfield 19, 3) := by decide +kernel
theorem dX3_readHead_65 : decode cX3_readHead 65 = .ok (.iload_n 2, 1) := by decide +kernel
theorem dX3_readHead_66 : decode cX3_readHead 66 = .ok (.putfield 75, 3) := by decide +kernel
theorem dX3_readHead_69 : decode cX3_readHead 69 = .ok (.aload_n 0, 1) := by decide +kernel
theorem dX3_readHead_70 : decode cX3_readHead 70 = .ok (.invokevirtual 77, 3) := by decide +kernel
theorem dX3_readHead_73 : decode cX3_readHead 73 = .ok (.ireturn, 1) := by decide +kernel
theorem dX3_readVertices_0 : decode cX3_readVertices 0 = .ok (.aload_n 0, 1) := by decide +kernel
theorem dX3_readVertices_1 : decode cX3_readVertices 1 = .ok (.invokevirtual 80, 3) := by decide +kernel
theorem dX3_readVertices_4 : decode cX3_readVertices 4 = .ok (.istore_n 1, 1) := by decide +kernel
theorem dX3_readVertices_5 : decode cX3_readVertices 5 = .ok (.iconst 0, 1) := by decide +kernel
theorem dX3_readVertices_6 : decode cX3_readVertices 6 = .ok (.istore_n 2, 1) := by decide +kernel
theorem dX3_readVertices_7 : decode cX3_readVertices 7 = .ok (.iload_n 2, 1) := by decide +kernel
theorem dX3_readVertices_8 : decode cX3_readVertices 8 = .ok (.bipush 9, 2) := by decide +kernel
theorem dX3_readVertices_10 : decode cX3_readVertices 10 = .ok (.if_icmp .ge 27, 3) := by decide +kernel
theorem dX3_readVertices_13 : decode cX3_readVertices 13 = .ok (.iload_n 1, 1) := by decide +kernel
theorem dX3_readVertices_14 : decode cX3_readVertices 14 = .ok (.ifCond .eq 23, 3) := by decide +kernel
theorem dX3_readVertices_17 : decode cX3_readVertices 17 = .ok (.aload_n 0, 1) := by decide +kernel
theorem dX3_readVertices_18 : decode cX3_readVertices 18 = .ok (.ldc 83, 2) := by decide +kernel
theorem dX3_readVertices_20 : decode cX3_readVertices 20 = .ok (.invokevirtual 72, 3) := by decide +kernel
theorem dX3_readVertices_23 : decode cX3_readVertices 23 = .ok (.ifCond .eq 14, 3) := by decide +kernel
theorem dX3_readVertices_26 : decode cX3_readVertices 26 = .ok (.aload_n 0, 1) := by decide +kernel
theorem dX3_readVertices_27 : decode cX3_readVertices 27 = .ok (.invokevirtual 80, 3) := by decide +kernel
theorem dX3_readVertices_30 : decode cX3_readVertices 30 = .ok (.istore_n 1, 1) := by decide +kernel
theorem dX3_readVertices_31 : decode cX3_readVertices 31 = .ok (.iinc 2 1, 3) := by decide +kernel
theorem dX3_readVertices_34 : decode cX3_readVertices 34 = .ok (.goto (-27), 3) := by decide +kernel
theorem dX3_readVertices_37 : decode cX3_readVertices 37 = .ok (.iload_n 1, 1) := by decide +kernel
theorem dX3_readVertices_38 : decode cX3_readVertices 38 = .ok (.ireturn, 1) := by decide +kernel
theorem dX3_readVertex_0 : decode cX3_readVertex 0 = .ok (.aload_n 0, 1) := by decide +kernel
theorem dX3_readVertex_1 : decode cX3_readVertex 1 = .ok (.ldc 83, 2) := by decide +kernel
theorem dX3_readVertex_3 : decode cX3_readVertex 3 = .ok (.invokevirtual 72, 3) := by decide +kernel
theorem dX3_readVertex_6 : decode cX3_readVertex 6 = .ok (.ifCond .eq 20, 3) := by decide +kernel
theorem dX3_readVertex_9 : decode cX3_readVertex 9 = .ok (.aload_n 0, 1) := by decide +kernel
theorem dX3_readVertex_10 : decode cX3_readVertex 10 = .ok (.getfield 19, 3) := by decide +kernel
theorem dX3_readVertex_13 : decode cX3_readVertex 13 = .ok (.invokevirtual 85, 3) := by decide +kernel
theorem dX3_readVertex_16 : decode cX3_readVertex 16 = .ok (.ifCond .eq 10, 3) := by decide +kernel
theorem dX3_readVertex_19 : decode cX3_readVertex 19 = .ok (.aload_n 0, 1) := by decide +kernel
theorem dX3_readVertex_20 : decode cX3_readVertex 20 = .ok (.bipush (-6), 2) := by decide +kernel
theorem dX3_readVertex_22 : decode cX3_readVertex 22 = .ok (.invokevirtual 88, 3) := by decide +kernel
theorem dX3_readVertex_25 : decode cX3_readVertex 25 = .ok (.ireturn, 1) := by decide +kernel
theorem dX3_readVertex_26 : decode cX3_readVertex 26 = .ok (.aload_n 0, 1) := by decide +kernel
theorem dX3_readVertex_27 : decode cX3_readVertex 27 = .ok (.ldc 83, 2) := by decide +kernel
theorem dX3_readVertex_29 : decode cX3_readVertex 29 = .ok (.invokevirtual 56, 3) := by decide +kernel
theorem dX3_readVertex_32 : decode cX3_readVertex 32 = .ok (.ifCond .ne 5, 3) := by decide +kernel
theorem dX3_readVertex_35 : decode cX3_readVertex 35 = .ok (.iconst 0, 1) := by decide +kernel
theorem dX3_readVertex_36 : decode cX3_readVertex 36 = .ok (.ireturn, 1) := by decide +kernel
theorem dX3_readVertex_37 : decode cX3_readVertex 37 = .ok (.aload_n 0, 1) := by decide +kernel
theorem dX3_readVertex_38 : decode cX3_readVertex 38 = .ok (.getfield 19, 3) := by decide +kernel
theorem dX3_readVertex_41 : decode cX3_readVertex 41 = .ok (.invokevirtual 92, 3) := by decide +kernel
theorem dX3_readVertex_44 : decode cX3_readVertex 44 = .ok (.istore_n 1, 1) := by decide +kernel
theorem dX3_readVertex_45 : decode cX3_readVertex 45 = .ok (.aload_n 0, 1) := by decide +kernel
theorem dX3_readVertex_46 : decode cX3_readVertex 46 = .ok (.getfield 96, 3) := by decide +kernel
theorem dX3_readVertex_49 : decode cX3_readVertex 49 = .ok (.iconst 1, 1) := by decide +kernel
theorem dX3_readVertex_50 : decode cX3_readVertex 50 = .ok (.if_icmp .ne 23, 3) := by decide +kernel
theorem dX3_readVertex_53 : decode cX3_readVertex 53 = .ok (.aload_n 0, 1) := by decide +kernel
theorem dX3_readVertex_54 : decode cX3_readVertex 54 = .ok (.invokevirtual 99, 3) := by decide +kernel
theorem dX3_readVertex_57 : decode cX3_readVertex 57 = .ok (.istore_n 1, 1) := by decide +kernel
theorem dX3_readVertex_58 : decode cX3_readVertex 58 = .ok (.iload_n 1, 1) := by decide +kernel
theorem dX3_readVertex_59 : decode cX3_readVertex 59 = .ok (.ifCond .ne 10, 3) := by decide +kernel
theorem dX3_readVertex_62 : decode cX3_readVertex 62 = .ok (.aload_n 0, 1) := by decide +kernel
theorem dX3_readVertex_63 : decode cX3_readVertex 63 = .ok (.bipush (-3), 2) := by decide +kernel
theorem dX3_readVertex_65 : decode cX3_readVertex 65 = .ok (.invokevirtual 88, 3) := by decide +kernel
theorem dX3_readVertex_68 : decode cX3_readVertex 68 = .ok (.ireturn, 1) := by decide +kernel
theorem dX3_readVertex_69 : decode cX3_readVertex 69 = .ok (.aload_n 0, 1) := by decide +kernel
theorem dX3_readVertex_70 : decode cX3_readVertex 70 = .ok (.invokevirtual 32, 3) := by decide +kernel
theorem dX3_readVertex_73 : decode cX3_readVertex 73 = .ok (.aload_n 0, 1) := by decide +kernel
theorem dX3_readVertex_74 : decode cX3_readVertex 74 = .ok (.getfield 19, 3) := by decide +kernel
theorem dX3_readVertex_77 : decode cX3_readVertex 77 = .ok (.iload_n 1, 1) := by decide +kernel
theorem dX3_readVertex_78 : decode cX3_readVertex 78 = .ok (.invokevirtual 102, 3) := by decide +kernel
theorem dX3_readVertex_81 : decode cX3_readVertex 81 = .ok (.aload_n 0, 1) := by decide +kernel
theorem dX3_readVertex_82 : decode cX3_readVertex 82 = .ok (.invokevirtual 77, 3) := by decide +kernel
theorem dX3_readVertex_85 : decode cX3_readVertex 85 = .ok (.ireturn, 1) := by decide +kernel
theorem dX3_readEdges_0 : decode cX3_readEdges 0 = .ok (.iconst 1, 1) := by decide +kernel
theorem dX3_readEdges_1 : decode cX3_readEdges 1 = .ok (.istore_n 1, 1) := by decide +kernel
theorem dX3_readEdges_2 : decode cX3_readEdges 2 = .ok (.iconst 0, 1) := by decide +kernel
theorem dX3_readEdges_3 : decode cX3_readEdges 3 = .ok (.istore_n 2, 1) := by decide +kernel
theorem dX3_readEdges_4 : decode cX3_readEdges 4 = .ok (.iload_n 2, 1) := by decide +kernel
theorem dX3_readEdges_5 : decode cX3_readEdges 5 = .ok (.aload_n 0, 1) := by decide +kernel
theorem dX3_readEdges_6 : decode cX3_readEdges 6 = .ok (.getfield 26, 3) := by decide +kernel
theorem dX3_readEdges_9 : decode cX3_readEdges 9 = .ok (.if_icmp .ge 27, 3) := by decide +kernel
theorem dX3_readEdges_12 : decode cX3_readEdges 12 = .ok (.iload_n 1, 1) := by decide +kernel
theorem dX3_readEdges_13 : decode cX3_readEdges 13 = .ok (.ifCond .eq 23, 3) := by decide +kernel
theorem dX3_readEdges_16 : decode cX3_readEdges 16 = .ok (.aload_n 0, 1) := by decide +kernel
theorem dX3_readEdges_17 : decode cX3_readEdges 17 = .ok (.ldc 105, 2) := by decide +kernel
theorem dX3_readEdges_19 : decode cX3_readEdges 19 = .ok (.invokevirtual 72, 3) := by decide +kernel
theorem dX3_readEdges_22 : decode cX3_readEdges 22 = .ok (.ifCond .eq 14, 3) := by decide +kernel
theorem dX3_readEdges_25 : decode cX3_readEdges 25 = .ok (.aload_n 0, 1) := by decide +kernel
theorem dX3_readEdges_26 : decode cX3_readEdges 26 = .ok (.invokevirtual 107, 3) := by decide +kernel
theorem dX3_readEdges_29 : decode cX3_readEdges 29 = .ok (.istore_n 1, 1) := by decide +kernel
theorem dX3_readEdges_30 : decode cX3_readEdges 30 = .ok (.iinc 2 1, 3) := by decide +kernel
theorem dX3_readEdges_33 : decode cX3_readEdges 33 = .ok (.goto (-29), 3) := by decide +kernel
theorem dX3_readEdges_36 : decode cX3_readEdges 36 = .ok (.iload_n 1, 1) := by decide +kernel
theorem dX3_readEdges_37 : decode cX3_readEdges 37 = .ok (.ireturn, 1) := by decide +kernel
theorem dX3_readEdge_0 : decode cX3_readEdge 0 = .ok (.aload_n 0, 1) := by decide +kernel
theorem dX3_readEdge_1 : decode cX3_readEdge 1 = .ok (.ldc 105, 2) := by decide +kernel
theorem dX3_readEdge_3 : decode cX3_readEdge 3 = .ok (.invokevirtual 56, 3) := by decide +kernel
theorem dX3_readEdge_6 : decode cX3_readEdge 6 = .ok (.ifCond .ne 5, 3) := by decide +kernel
theorem dX3_readEdge_9 : decode cX3_readEdge 9 = .ok (.iconst 0, 1) := by decide +kernel
theorem dX3_readEdge_10 : decode cX3_readEdge 10 = .ok (.ireturn, 1) := by decide +kernel
theorem dX3_readEdge_11 : decode cX3_readEdge 11 = .ok (.aload_n 0, 1) := by decide +kernel
theorem dX3_readEdge_12 : decode cX3_readEdge 12 = .ok (.iconst 0, 1) := by decide +kernel
theorem dX3_readEdge_13 : decode cX3_readEdge 13 = .ok (.aload_n 0, 1) := by decide +kernel
theorem dX3_readEdge_14 : decode cX3_readEdge 14 = .ok (.getfield 19, 3) := by decide +kernel
theorem dX3_readEdge_17 : decode cX3_readEdge 17 = .ok (.getfield 110, 3) := by decide +kernel
theorem dX3_readEdge_20 : decode cX3_readEdge 20 = .ok (.iconst 1, 1) := by decide +kernel
theorem dX3_readEdge_21 : decode cX3_readEdge 21 = .ok (.isub, 1) := by decide +kernel
theorem dX3_readEdge_22 : decode cX3_readEdge 22 = .ok (.invokevirtual 60, 3) := by decide +kernel
theorem dX3_readEdge_25 : decode cX3_readEdge 25 = .ok (.istore_n 1, 1) := by decide +kernel
theorem dX3_readEdge_26 : decode cX3_readEdge 26 = .ok (.iload_n 1, 1) := by decide +kernel
theorem dX3_readEdge_27 : decode cX3_readEdge 27 = .ok (.iconst (-1), 1) := by decide +kernel
theorem dX3_readEdge_28 : decode cX3_readEdge 28 = .ok (.if_icmp .ne 5, 3) := by decide +kernel
theorem dX3_readEdge_31 : decode cX3_readEdge 31 = .ok (.iconst 0, 1) := by decide +kernel
theorem dX3_readEdge_32 : decode cX3_readEdge 32 = .ok (.ireturn, 1) := by decide +kernel
theorem dX3_readEdge_33 : decode cX3_readEdge 33 = .ok (.aload_n 0, 1) := by decide +kernel
theorem dX3_readEdge_34 : decode cX3_readEdge 34 = .ok (.getfield 96, 3) := by decide +kernel
theorem dX3_readEdge_37 : decode cX3_readEdge 37 = .ok (.iconst 2, 1) := by decide +kernel
theorem dX3_readEdge_38 : decode cX3_readEdge 38 = .ok (.if_icmp .ne 18, 3) := by decide +kernel
theorem dX3_readEdge_41 : decode cX3_readEdge 41 = .ok (.aload_n 0, 1) := by decide +kernel
theorem dX3_readEdge_42 : decode cX3_readEdge 42 = .ok (.getfield 113, 3) := by decide +kernel
theorem dX3_readEdge_45 : decode cX3_readEdge 45 = .ok (.iload_n 1, 1) := by decide +kernel
theorem dX3_readEdge_46 : decode cX3_readEdge 46 = .ok (.if_icmp .ne 10, 3) := by decide +kernel
theorem dX3_readEdge_49 : decode cX3_readEdge 49 = .ok (.aload_n 0, 1) := by decide +kernel
theorem dX3_readEdge_50 : decode cX3_readEdge 50 = .ok (.bipush (-3), 2) := by decide +kernel
theorem dX3_readEdge_52 : decode cX3_readEdge 52 = .ok (.invokevirtual 88, 3) := by decide +kernel
theorem dX3_readEdge_55 : decode cX3_readEdge 55 = .ok (.ireturn, 1) := by decide +kernel
theorem dX3_readEdge_56 : decode cX3_readEdge 56 = .ok (.aload_n 0, 1) := by decide +kernel
theorem dX3_readEdge_57 : decode cX3_readEdge 57 = .ok (.getfield 96, 3) := by decide +kernel
theorem dX3_readEdge_60 : decode cX3_readEdge 60 = .ok (.iconst 2, 1) := by decide +kernel
theorem dX3_readEdge_61 : decode cX3_readEdge 61 = .ok (.if_icmp .ne 28, 3) := by decide +kernel
theorem dX3_readEdge_64 : decode cX3_readEdge 64 = .ok (.aload_n 0, 1) := by decide +kernel
theorem dX3_readEdge_65 : decode cX3_readEdge 65 = .ok (.getfield 19, 3) := by decide +kernel
theorem dX3_readEdge_68 : decode cX3_readEdge 68 = .ok (.iload_n 1, 1) := by decide +kernel
theorem dX3_readEdge_69 : decode cX3_readEdge 69 = .ok (.invokevirtual 116, 3) := by decide +kernel
theorem dX3_readEdge_72 : decode cX3_readEdge 72 = .ok (.aload_n 0, 1) := by decide +kernel
theorem dX3_readEdge_73 : decode cX3_readEdge 73 = .ok (.getfield 113, 3) := by decide +kernel
theorem dX3_readEdge_76 : decode cX3_readEdge 76 = .ok (.invokestatic 120, 3) := by decide +kernel
theorem dX3_readEdge_79 : decode cX3_readEdge 79 = .ok (.ifCond .eq 10, 3) := by decide +kernel
theorem dX3_readEdge_82 : decode cX3_readEdge 82 = .ok (.aload_n 0, 1) := by decide +kernel
theorem dX3_readEdge_83 : decode cX3_readEdge 83 = .ok (.bipush (-4), 2) := by decide +kernel
theorem dX3_readEdge_85 : decode cX3_readEdge 85 = .ok (.invokevirtual 88, 3) := by decide +kernel
theorem dX3_readEdge_88 : decode cX3_readEdge 88 = .ok (.ireturn, 1) := by decide +kernel
theorem dX3_readEdge_89 : decode cX3_readEdge 89 = .ok (.aload_n 0, 1) := by decide +kernel
theorem dX3_readEdge_90 : decode cX3_readEdge 90 = .ok (.iconst 0, 1) := by decide +kernel
theorem dX3_readEdge_91 : decode cX3_readEdge 91 = .ok (.aload_n 0, 1) := by decide +kernel
theorem dX3_readEdge_92 : decode cX3_readEdge 92 = .ok (.getfield 19, 3) := by decide +kernel
theorem dX3_readEdge_95 : decode cX3_readEdge 95 = .ok (.getfield 110, 3) := by decide +kernel
theorem dX3_readEdge_98 : decode cX3_readEdge 98 = .ok (.iconst 1, 1) := by decide +kernel
theorem dX3_readEdge_99 : decode cX3_readEdge 99 = .ok (.isub, 1) := by decide +kernel
theorem dX3_readEdge_100 : decode cX3_readEdge 100 = .ok (.invokevirtual 60, 3) := by decide +kernel
theorem dX3_readEdge_103 : decode cX3_readEdge 103 = .ok (.istore_n 2, 1) := by decide +kernel
theorem dX3_readEdge_104 : decode cX3_readEdge 104 = .ok (.iload_n 2, 1) := by decide +kernel
theorem dX3_readEdge_105 : decode cX3_readEdge 105 = .ok (.iconst (-1), 1) := by decide +kernel
theorem dX3_readEdge_106 : decode cX3_readEdge 106 = .ok (.if_icmp .ne 5, 3) := by decide +kernel
theorem dX3_readEdge_109 : decode cX3_readEdge 109 = .ok (.iconst 0, 1) := by decide +kernel
theorem dX3_readEdge_110 : decode cX3_readEdge 110 = .ok (.ireturn, 1) := by decide +kernel
theorem dX3_readEdge_111 : decode cX3_readEdge 111 = .ok (.aload_n 0, 1) := by decide +kernel
theorem dX3_readEdge_112 : decode cX3_readEdge 112 = .ok (.getfield 19, 3) := by decide +kernel
theorem dX3_readEdge_115 : decode cX3_readEdge 115 = .ok (.iload_n 1, 1) := by decide +kernel
theorem dX3_readEdge_116 : decode cX3_readEdge 116 = .ok (.iload_n 2, 1) := by decide +kernel
theorem dX3_readEdge_117 : decode cX3_readEdge 117 = .ok (.invokevirtual 124, 3) := by decide +kernel
theorem dX3_readEdge_120 : decode cX3_readEdge 120 = .ok (.aload_n 0, 1) := by decide +kernel
theorem dX3_readEdge_121 : decode cX3_readEdge 121 = .ok (.invokevirtual 77, 3) := by decide +kernel
theorem dX3_readEdge_124 : decode cX3_readEdge 124 = .ok (.ireturn, 1) := by decide +kernel
theorem dX3_readMoves_0 : decode cX3_readMoves 0 = .ok (.iconst 1, 1) := by decide +kernel
theorem dX3_readMoves_1 : decode cX3_readMoves 1 = .ok (.istore_n 1, 1) := by decide +kernel
theorem dX3_readMoves_2 : decode cX3_readMoves 2 = .ok (.iconst 0, 1) := by decide +kernel
theorem dX3_readMoves_3 : decode cX3_readMoves 3 = .ok (.istore_n 2, 1) := by decide +kernel
theorem dX3_readMoves_4 : decode cX3_readMoves 4 = .ok (.iload_n 2, 1) := by decide +kernel
theorem dX3_readMoves_5 : decode cX3_readMoves 5 = .ok (.aload_n 0, 1) := by decide +kernel
theorem dX3_readMoves_6 : decode cX3_readMoves 6 = .ok (.getfield 26, 3) := by decide +kernel
theorem dX3_readMoves_9 : decode cX3_readMoves 9 = .ok (.if_icmp .ge 70, 3) := by decide +kernel
theorem dX3_readMoves_12 : decode cX3_readMoves 12 = .ok (.iload_n 1, 1) := by decide +kernel
theorem dX3_readMoves_13 : decode cX3_readMoves 13 = .ok (.ifCond .eq 66, 3) := by decide +kernel
theorem dX3_readMoves_16 : decode cX3_readMoves 16 = .ok (.aload_n 0, 1) := by decide +kernel
theorem dX3_readMoves_17 : decode cX3_readMoves 17 = .ok (.ldc 128, 2) := by decide +kernel
theorem dX3_readMoves_19 : decode cX3_readMoves 19 = .ok (.invokevirtual 72, 3) := by decide +kernel
theorem dX3_readMoves_22 : decode cX3_readMoves 22 = .ok (.ifCond .ne 12, 3) := by decide +kernel
theorem dX3_readMoves_25 : decode cX3_readMoves 25 = .ok (.aload_n 0, 1) := by decide +kernel
theorem dX3_readMoves_26 : decode cX3_readMoves 26 = .ok (.ldc 130, 2) := by decide +kernel
theorem dX3_readMoves_28 : decode cX3_readMoves 28 = .ok (.invokevirtual 72, 3) := by decide +kernel
theorem dX3_readMoves_31 : decode cX3_readMoves 31 = .ok (.ifCond .eq 48, 3) := by decide +kernel
theorem dX3_readMoves_34 : decode cX3_readMoves 34 = .ok (.aload_n 0, 1) := by decide +kernel
theorem dX3_readMoves_35 : decode cX3_readMoves 35 = .ok (.ldc 128, 2) := by decide +kernel
theorem dX3_readMoves_37 : decode cX3_readMoves 37 = .ok (.invokevirtual 72, 3) := by decide +kernel
theorem dX3_readMoves_40 : decode cX3_readMoves 40 = .ok (.ifCond .eq 13, 3) := by decide +kernel
theorem dX3_readMoves_43 : decode cX3_readMoves 43 = .ok (.aload_n 0, 1) := by decide +kernel
theorem dX3_readMoves_44 : decode cX3_readMoves 44 = .ok (.invokevirtual 132, 3) := by decide +kernel
theorem dX3_readMoves_47 : decode cX3_readMoves 47 = .ok (.ifCond .eq 24, 3) := by decide +kernel
theorem dX3_readMoves_50 : decode cX3_readMoves 50 = .ok (.goto 10, 3) := by decide +kernel
theorem dX3_readMoves_53 : decode cX3_readMoves 53 = .ok (.aload_n 0, 1) := by decide +kernel
theorem dX3_readMoves_54 : decode cX3_readMoves 54 = .ok (.invokevirtual 135, 3) := by decide +kernel
theorem dX3_readMoves_57 : decode cX3_readMoves 57 = .ok (.ifCond .eq 14, 3) := by decide +kernel
theorem dX3_readMoves_60 : decode cX3_readMoves 60 = .ok (.aload_n 0, 1) := by decide +kernel
theorem dX3_readMoves_61 : decode cX3_readMoves 61 = .ok (.invokevirtual 77, 3) := by decide +kernel
theorem dX3_readMoves_64 : decode cX3_readMoves 64 = .ok (.ifCond .eq 7, 3) := by decide +kernel
theorem dX3_readMoves_67 : decode cX3_readMoves 67 = .ok (.iconst 1, 1) := by decide +kernel
theorem dX3_readMoves_68 : decode cX3_readMoves 68 = .ok (.goto 4, 3) := by decide +kernel
theorem dX3_readMoves_71 : decode cX3_readMoves 71 = .ok (.iconst 0, 1) := by decide +kernel
theorem dX3_readMoves_72 : decode cX3_readMoves 72 = .ok (.istore_n 1, 1) := by decide +kernel
theorem dX3_readMoves_73 : decode cX3_readMoves 73 = .ok (.iinc 2 1, 3) := by decide +kernel
theorem dX3_readMoves_76 : decode cX3_readMoves 76 = .ok (.goto (-72), 3) := by decide +kernel
theorem dX3_readMoves_79 : decode cX3_readMoves 79 = .ok (.iload_n 1, 1) := by decide +kernel
theorem dX3_readMoves_80 : decode cX3_readMoves 80 = .ok (.ireturn, 1) := by decide +kernel
theorem dX3_readLay_0 : decode cX3_readLay 0 = .ok (.aload_n 0, 1) := by decide +kernel
theorem dX3_readLay_1 : decode cX3_readLay 1 = .ok (.ldc 128, 2) := by decide +kernel
theorem dX3_readLay_3 : decode cX3_readLay 3 = .ok (.invokevirtual 56, 3) := by decide +kernel
theorem dX3_readLay_6 : decode cX3_readLay 6 = .ok (.ifCond .ne 5, 3) := by decide +kernel
theorem dX3_readLay_9 : decode cX3_readLay 9 = .ok (.iconst 0, 1) := by decide +kernel
theorem dX3_readLay_10 : decode cX3_readLay 10 = .ok (.ireturn, 1) := by decide +kernel
theorem dX3_readLay_11 : decode cX3_readLay 11 = .ok (.aload_n 0, 1) := by decide +kernel
theorem dX3_readLay_12 : decode cX3_readLay 12 = .ok (.iconst 0, 1) := by decide +kernel
theorem dX3_readLay_13 : decode cX3_readLay 13 = .ok (.aload_n 0, 1) := by decide +kernel
theorem dX3_readLay_14 : decode cX3_readLay 14 = .ok (.getfield 19, 3) := by decide +kernel
theorem dX3_readLay_17 : decode cX3_readLay 17 = .ok (.getfield 110, 3) := by decide +kernel
theorem dX3_readLay_20 : decode cX3_readLay 20 = .ok (.iconst 1, 1) := by decide +kernel
theorem dX3_readLay_21 : decode cX3_readLay 21 = .ok (.isub, 1) := by decide +kernel
theorem dX3_readLay_22 : decode cX3_readLay 22 = .ok (.invokevirtual 60, 3) := by decide +kernel
theorem dX3_readLay_25 : decode cX3_readLay 25 = .ok (.istore_n 1, 1) := by decide +kernel
theorem dX3_readLay_26 : decode cX3_readLay 26 = .ok (.iload_n 1, 1) := by decide +kernel
theorem dX3_readLay_27 : decode cX3_readLay 27 = .ok (.iconst (-1), 1) := by decide +kernel
theorem dX3_readLay_28 : decode cX3_readLay 28 = .ok (.if_icmp .ne 5, 3) := by decide +kernel
theorem dX3_readLay_31 : decode cX3_readLay 31 = .ok (.iconst 0, 1) := by decide +kernel
theorem dX3_readLay_32 : decode cX3_readLay 32 = .ok (.ireturn, 1) := by decide +kernel
theorem dX3_readLay_33 : decode cX3_readLay 33 = .ok (.aload_n 0, 1) := by decide +kernel
theorem dX3_readLay_34 : decode cX3_readLay 34 = .ok (.getfield 96, 3) := by decide +kernel
theorem dX3_readLay_37 : decode cX3_readLay 37 = .ok (.iconst 1, 1) := by decide +kernel
theorem dX3_readLay_38 : decode cX3_readLay 38 = .ok (.if_icmp .eq 10, 3) := by decide +kernel
theorem dX3_readLay_41 : decode cX3_readLay 41 = .ok (.aload_n 0, 1) := by decide +kernel
theorem dX3_readLay_42 : decode cX3_readLay 42 = .ok (.bipush (-2), 2) := by decide +kernel
theorem dX3_readLay_44 : decode cX3_readLay 44 = .ok (.invokevirtual 88, 3) := by decide +kernel
theorem dX3_readLay_47 : decode cX3_readLay 47 = .ok (.ireturn, 1) := by decide +kernel
theorem dX3_readLay_48 : decode cX3_readLay 48 = .ok (.aload_n 0, 1) := by decide +kernel
theorem dX3_readLay_49 : decode cX3_readLay 49 = .ok (.invokevirtual 99, 3) := by decide +kernel
theorem dX3_readLay_52 : decode cX3_readLay 52 = .ok (.istore_n 2, 1) := by decide +kernel
theorem dX3_readLay_53 : decode cX3_readLay 53 = .ok (.iload_n 2, 1) := by decide +kernel
theorem dX3_readLay_54 : decode cX3_readLay 54 = .ok (.invokestatic 138, 3) := by decide +kernel
theorem dX3_readLay_57 : decode cX3_readLay 57 = .ok (.iconst 1, 1) := by decide +kernel
theorem dX3_readLay_58 : decode cX3_readLay 58 = .ok (.if_icmp .eq 10, 3) := by decide +kernel
theorem dX3_readLay_61 : decode cX3_readLay 61 = .ok (.aload_n 0, 1) := by decide +kernel
theorem dX3_readLay_62 : decode cX3_readLay 62 = .ok (.bipush (-3), 2) := by decide +kernel
theorem dX3_readLay_64 : decode cX3_readLay 64 = .ok (.invokevirtual 88, 3) := by decide +kernel
theorem dX3_readLay_67 : decode cX3_readLay 67 = .ok (.ireturn, 1) := by decide +kernel
theorem dX3_readLay_68 : decode cX3_readLay 68 = .ok (.iload_n 2, 1) := by decide +kernel
theorem dX3_readLay_69 : decode cX3_readLay 69 = .ok (.invokestatic 143, 3) := by decide +kernel
theorem dX3_readLay_72 : decode cX3_readLay 72 = .ok (.istore_n 3, 1) := by decide +kernel
theorem dX3_readLay_73 : decode cX3_readLay 73 = .ok (.aload_n 0, 1) := by decide +kernel
theorem dX3_readLay_74 : decode cX3_readLay 74 = .ok (.getfield 19, 3) := by decide +kernel
theorem dX3_readLay_77 : decode cX3_readLay 77 = .ok (.iload_n 1, 1) := by decide +kernel
theorem dX3_readLay_78 : decode cX3_readLay 78 = .ok (.iload_n 3, 1) := by decide +kernel
theorem dX3_readLay_79 : decode cX3_readLay 79 = .ok (.invokevirtual 146, 3) := by decide +kernel
theorem dX3_readLay_82 : decode cX3_readLay 82 = .ok (.ifCond .eq 10, 3) := by decide +kernel
theorem dX3_readLay_85 : decode cX3_readLay 85 = .ok (.aload_n 0, 1) := by decide +kernel
theorem dX3_readLay_86 : decode cX3_readLay 86 = .ok (.bipush (-5), 2) := by decide +kernel
theorem dX3_readLay_88 : decode cX3_readLay 88 = .ok (.invokevirtual 88, 3) := by decide +kernel
theorem dX3_readLay_91 : decode cX3_readLay 91 = .ok (.ireturn, 1) := by decide +kernel
theorem dX3_readLay_92 : decode cX3_readLay 92 = .ok (.aload_n 0, 1) := by decide +kernel
theorem dX3_readLay_93 : decode cX3_readLay 93 = .ok (.getfield 19, 3) := by decide +kernel
theorem dX3_readLay_96 : decode cX3_readLay 96 = .ok (.iload_n 1, 1) := by decide +kernel
theorem dX3_readLay_97 : decode cX3_readLay 97 = .ok (.iload_n 3, 1) := by decide +kernel
theorem dX3_readLay_98 : decode cX3_readLay 98 = .ok (.invokevirtual 149, 3) := by decide +kernel
theorem dX3_readLay_101 : decode cX3_readLay 101 = .ok (.aload_n 0, 1) := by decide +kernel
theorem dX3_readLay_102 : decode cX3_readLay 102 = .ok (.invokevirtual 32, 3) := by decide +kernel
theorem dX3_readLay_105 : decode cX3_readLay 105 = .ok (.iconst 1, 1) := by decide +kernel
theorem dX3_readLay_106 : decode cX3_readLay 106 = .ok (.ireturn, 1) := by decide +kernel
theorem dX3_readPass_0 : decode cX3_readPass 0 = .ok (.aload_n 0, 1) := by decide +kernel
theorem dX3_readPass_1 : decode cX3_readPass 1 = .ok (.getfield 19, 3) := by decide +kernel
theorem dX3_readPass_4 : decode cX3_readPass 4 = .ok (.getfield 75, 3) := by decide +kernel
theorem dX3_readPass_7 : decode cX3_readPass 7 = .ok (.ifCond .ne 10, 3) := by decide +kernel
theorem dX3_readPass_10 : decode cX3_readPass 10 = .ok (.aload_n 0, 1) := by decide +kernel
theorem dX3_readPass_11 : decode cX3_readPass 11 = .ok (.bipush (-5), 2) := by decide +kernel
theorem dX3_readPass_13 : decode cX3_readPass 13 = .ok (.invokevirtual 88, 3) := by decide +kernel
theorem dX3_readPass_16 : decode cX3_readPass 16 = .ok (.ireturn, 1) := by decide +kernel
theorem dX3_readPass_17 : decode cX3_readPass 17 = .ok (.aload_n 0, 1) := by decide +kernel
theorem dX3_readPass_18 : decode cX3_readPass 18 = .ok (.getfield 19, 3) := by decide +kernel
theorem dX3_readPass_21 : decode cX3_readPass 21 = .ok (.invokevirtual 152, 3) := by decide +kernel
theorem dX3_readPass_24 : decode cX3_readPass 24 = .ok (.aload_n 0, 1) := by decide +kernel
theorem dX3_readPass_25 : decode cX3_readPass 25 = .ok (.ldc 130, 2) := by decide +kernel
theorem dX3_readPass_27 : decode cX3_readPass 27 = .ok (.invokevirtual 56, 3) := by decide +kernel
theorem dX3_readPass_30 : decode cX3_readPass 30 = .ok (.ireturn, 1) := by decide +kernel
theorem dX3_readEnd_0 : decode cX3_readEnd 0 = .ok (.aload_n 0, 1) := by decide +kernel
theorem dX3_readEnd_1 : decode cX3_readEnd 1 = .ok (.getfield 96, 3) := by decide +kernel
theorem dX3_readEnd_4 : decode cX3_readEnd 4 = .ok (.ifCond .eq 12, 3) := by decide +kernel
theorem dX3_readEnd_7 : decode cX3_readEnd 7 = .ok (.aload_n 0, 1) := by decide +kernel
theorem dX3_readEnd_8 : decode cX3_readEnd 8 = .ok (.bipush (-2), 2) := by decide +kernel
theorem dX3_readEnd_10 : decode cX3_readEnd 10 = .ok (.invokevirtual 88, 3) := by decide +kernel
theorem dX3_readEnd_13 : decode cX3_readEnd 13 = .ok (.ifCond .eq 7, 3) := by decide +kernel
theorem dX3_readEnd_16 : decode cX3_readEnd 16 = .ok (.iconst 1, 1) := by decide +kernel
theorem dX3_readEnd_17 : decode cX3_readEnd 17 = .ok (.goto 4, 3) := by decide +kernel
theorem dX3_readEnd_20 : decode cX3_readEnd 20 = .ok (.iconst 0, 1) := by decide +kernel
theorem dX3_readEnd_21 : decode cX3_readEnd 21 = .ok (.ireturn, 1) := by decide +kernel
theorem dX3_readWord_0 : decode cX3_readWord 0 = .ok (.aload_n 0, 1) := by decide +kernel
theorem dX3_readWord_1 : decode cX3_readWord 1 = .ok (.aload_n 1, 1) := by decide +kernel
theorem dX3_readWord_2 : decode cX3_readWord 2 = .ok (.invokevirtual 72, 3) := by decide +kernel
theorem dX3_readWord_5 : decode cX3_readWord 5 = .ok (.ifCond .ne 10, 3) := by decide +kernel
theorem dX3_readWord_8 : decode cX3_readWord 8 = .ok (.aload_n 0, 1) := by decide +kernel
theorem dX3_readWord_9 : decode cX3_readWord 9 = .ok (.bipush (-2), 2) := by decide +kernel
theorem dX3_readWord_11 : decode cX3_readWord 11 = .ok (.invokevirtual 88, 3) := by decide +kernel
theorem dX3_readWord_14 : decode cX3_readWord 14 = .ok (.ireturn, 1) := by decide +kernel
theorem dX3_readWord_15 : decode cX3_readWord 15 = .ok (.aload_n 0, 1) := by decide +kernel
theorem dX3_readWord_16 : decode cX3_readWord 16 = .ok (.invokevirtual 32, 3) := by decide +kernel
theorem dX3_readWord_19 : decode cX3_readWord 19 = .ok (.iconst 1, 1) := by decide +kernel
theorem dX3_readWord_20 : decode cX3_readWord 20 = .ok (.ireturn, 1) := by decide +kernel
theorem dX3_readNumber_0 : decode cX3_readNumber 0 = .ok (.aload_n 0, 1) := by decide +kernel
theorem dX3_readNumber_1 : decode cX3_readNumber 1 = .ok (.getfield 96, 3) := by decide +kernel
theorem dX3_readNumber_4 : decode cX3_readNumber 4 = .ok (.iconst 2, 1) := by decide +kernel
theorem dX3_readNumber_5 : decode cX3_readNumber 5 = .ok (.if_icmp .eq 12, 3) := by decide +kernel
theorem dX3_readNumber_8 : decode cX3_readNumber 8 = .ok (.aload_n 0, 1) := by decide +kernel
theorem dX3_readNumber_9 : decode cX3_readNumber 9 = .ok (.bipush (-2), 2) := by decide +kernel
theorem dX3_readNumber_11 : decode cX3_readNumber 11 = .ok (.invokevirtual 88, 3) := by decide +kernel
theorem dX3_readNumber_14 : decode cX3_readNumber 14 = .ok (.pop, 1) := by decide +kernel
theorem dX3_readNumber_15 : decode cX3_readNumber 15 = .ok (.iconst (-1), 1) := by decide +kernel
theorem dX3_readNumber_16 : decode cX3_readNumber 16 = .ok (.ireturn, 1) := by decide +kernel
theorem dX3_readNumber_17 : decode cX3_readNumber 17 = .ok (.aload_n 0, 1) := by decide +kernel
theorem dX3_readNumber_18 : decode cX3_readNumber 18 = .ok (.getfield 113, 3) := by decide +kernel
theorem dX3_readNumber_21 : decode cX3_readNumber 21 = .ok (.iload_n 1, 1) := by decide +kernel
theorem dX3_readNumber_22 : decode cX3_readNumber 22 = .ok (.if_icmp .lt 11, 3) := by decide +kernel
theorem dX3_readNumber_25 : decode cX3_readNumber 25 = .ok (.aload_n 0, 1) := by decide +kernel
theorem dX3_readNumber_26 : decode cX3_readNumber 26 = .ok (.getfield 113, 3) := by decide +kernel
theorem dX3_readNumber_29 : decode cX3_readNumber 29 = .ok (.iload_n 2, 1) := by decide +kernel
theorem dX3_readNumber_30 : decode cX3_readNumber 30 = .ok (.if_icmp .le 12, 3) := by decide +kernel
theorem dX3_readNumber_33 : decode cX3_readNumber 33 = .ok (.aload_n 0, 1) := by decide +kernel
theorem dX3_readNumber_34 : decode cX3_readNumber 34 = .ok (.bipush (-3), 2) := by decide +kernel
theorem dX3_readNumber_36 : decode cX3_readNumber 36 = .ok (.invokevirtual 88, 3) := by decide +kernel
theorem dX3_readNumber_39 : decode cX3_readNumber 39 = .ok (.pop, 1) := by decide +kernel
theorem dX3_readNumber_40 : decode cX3_readNumber 40 = .ok (.iconst (-1), 1) := by decide +kernel
theorem dX3_readNumber_41 : decode cX3_readNumber 41 = .ok (.ireturn, 1) := by decide +kernel
theorem dX3_readNumber_42 : decode cX3_readNumber 42 = .ok (.aload_n 0, 1) := by decide +kernel
theorem dX3_readNumber_43 : decode cX3_readNumber 43 = .ok (.getfield 113, 3) := by decide +kernel
theorem dX3_readNumber_46 : decode cX3_readNumber 46 = .ok (.istore_n 3, 1) := by decide +kernel
theorem dX3_readNumber_47 : decode cX3_readNumber 47 = .ok (.aload_n 0, 1) := by decide +kernel
theorem dX3_readNumber_48 : decode cX3_readNumber 48 = .ok (.invokevirtual 32, 3) := by decide +kernel
theorem dX3_readNumber_51 : decode cX3_readNumber 51 = .ok (.iload_n 3, 1) := by decide +kernel
theorem dX3_readNumber_52 : decode cX3_readNumber 52 = .ok (.ireturn, 1) := by decide +kernel
theorem dX3_readSemicolon_0 : decode cX3_readSemicolon 0 = .ok (.aload_n 0, 1) := by decide +kernel
theorem dX3_readSemicolon_1 : decode cX3_readSemicolon 1 = .ok (.getfield 96, 3) := by decide +kernel
theorem dX3_readSemicolon_4 : decode cX3_readSemicolon 4 = .ok (.iconst 3, 1) := by decide +kernel
theorem dX3_readSemicolon_5 : decode cX3_readSemicolon 5 = .ok (.if_icmp .eq 10, 3) := by decide +kernel
theorem dX3_readSemicolon_8 : decode cX3_readSemicolon 8 = .ok (.aload_n 0, 1) := by decide +kernel
theorem dX3_readSemicolon_9 : decode cX3_readSemicolon 9 = .ok (.bipush (-2), 2) := by decide +kernel
theorem dX3_readSemicolon_11 : decode cX3_readSemicolon 11 = .ok (.invokevirtual 88, 3) := by decide +kernel
theorem dX3_readSemicolon_14 : decode cX3_readSemicolon 14 = .ok (.ireturn, 1) := by decide +kernel
theorem dX3_readSemicolon_15 : decode cX3_readSemicolon 15 = .ok (.aload_n 0, 1) := by decide +kernel
theorem dX3_readSemicolon_16 : decode cX3_readSemicolon 16 = .ok (.invokevirtual 32, 3) := by decide +kernel
theorem dX3_readSemicolon_19 : decode cX3_readSemicolon 19 = .ok (.iconst 1, 1) := by decide +kernel
theorem dX3_readSemicolon_20 : decode cX3_readSemicolon 20 = .ok (.ireturn, 1) := by decide +kernel
theorem dX3_atWord_0 : decode cX3_atWord 0 = .ok (.aload_n 0, 1) := by decide +kernel
theorem dX3_atWord_1 : decode cX3_atWord 1 = .ok (.getfield 96, 3) := by decide +kernel
theorem dX3_atWord_4 : decode cX3_atWord 4 = .ok (.iconst 1, 1) := by decide +kernel
theorem dX3_atWord_5 : decode cX3_atWord 5 = .ok (.if_icmp .ne 19, 3) := by decide +kernel
theorem dX3_atWord_8 : decode cX3_atWord 8 = .ok (.aload_n 0, 1) := by decide +kernel
theorem dX3_atWord_9 : decode cX3_atWord 9 = .ok (.getfield 29, 3) := by decide +kernel
theorem dX3_atWord_12 : decode cX3_atWord 12 = .ok (.aload_n 0, 1) := by decide +kernel
theorem dX3_atWord_13 : decode cX3_atWord 13 = .ok (.getfield 155, 3) := by decide +kernel
theorem dX3_atWord_16 : decode cX3_atWord 16 = .ok (.isub, 1) := by decide +kernel
theorem dX3_atWord_17 : decode cX3_atWord 17 = .ok (.aload_n 1, 1) := by decide +kernel
theorem dX3_atWord_18 : decode cX3_atWord 18 = .ok (.invokevirtual 158, 3) := by decide +kernel
theorem dX3_atWord_21 : decode cX3_atWord 21 = .ok (.if_icmp .eq 5, 3) := by decide +kernel
theorem dX3_atWord_24 : decode cX3_atWord 24 = .ok (.iconst 0, 1) := by decide +kernel
theorem dX3_atWord_25 : decode cX3_atWord 25 = .ok (.ireturn, 1) := by decide +kernel
theorem dX3_atWord_26 : decode cX3_atWord 26 = .ok (.iconst 0, 1) := by decide +kernel
theorem dX3_atWord_27 : decode cX3_atWord 27 = .ok (.istore_n 2, 1) := by decide +kernel
theorem dX3_atWord_28 : decode cX3_atWord 28 = .ok (.iload_n 2, 1) := by decide +kernel
theorem dX3_atWord_29 : decode cX3_atWord 29 = .ok (.aload_n 1, 1) := by decide +kernel
theorem dX3_atWord_30 : decode cX3_atWord 30 = .ok (.invokevirtual 158, 3) := by decide +kernel
theorem dX3_atWord_33 : decode cX3_atWord 33 = .ok (.if_icmp .ge 29, 3) := by decide +kernel
theorem dX3_atWord_36 : decode cX3_atWord 36 = .ok (.aload_n 0, 1) := by decide +kernel
theorem dX3_atWord_37 : decode cX3_atWord 37 = .ok (.aload_n 0, 1) := by decide +kernel
theorem dX3_atWord_38 : decode cX3_atWord 38 = .ok (.getfield 155, 3) := by decide +kernel
theorem dX3_atWord_41 : decode cX3_atWord 41 = .ok (.iload_n 2, 1) := by decide +kernel
theorem dX3_atWord_42 : decode cX3_atWord 42 = .ok (.iadd, 1) := by decide +kernel
theorem dX3_atWord_43 : decode cX3_atWord 43 = .ok (.invokevirtual 162, 3) := by decide +kernel
theorem dX3_atWord_46 : decode cX3_atWord 46 = .ok (.aload_n 1, 1) := by decide +kernel
theorem dX3_atWord_47 : decode cX3_atWord 47 = .ok (.iload_n 2, 1) := by decide +kernel
theorem dX3_atWord_48 : decode cX3_atWord 48 = .ok (.invokevirtual 165, 3) := by decide +kernel
theorem dX3_atWord_51 : decode cX3_atWord 51 = .ok (.if_icmp .eq 5, 3) := by decide +kernel
theorem dX3_atWord_54 : decode cX3_atWord 54 = .ok (.iconst 0, 1) := by decide +kernel
theorem dX3_atWord_55 : decode cX3_atWord 55 = .ok (.ireturn, 1) := by decide +kernel
theorem dX3_atWord_56 : decode cX3_atWord 56 = .ok (.iinc 2 1, 3) := by decide +kernel
theorem dX3_atWord_59 : decode cX3_atWord 59 = .ok (.goto (-31), 3) := by decide +kernel
theorem dX3_atWord_62 : decode cX3_atWord 62 = .ok (.iconst 1, 1) := by decide +kernel
theorem dX3_atWord_63 : decode cX3_atWord 63 = .ok (.ireturn, 1) := by decide +kernel
theorem dX3_listHere_0 : decode cX3_listHere 0 = .ok (.iconst 0, 1) := by decide +kernel
theorem dX3_listHere_1 : decode cX3_listHere 1 = .ok (.istore_n 1, 1) := by decide +kernel
theorem dX3_listHere_2 : decode cX3_listHere 2 = .ok (.aload_n 0, 1) := by decide +kernel
theorem dX3_listHere_3 : decode cX3_listHere 3 = .ok (.getfield 155, 3) := by decide +kernel
theorem dX3_listHere_6 : decode cX3_listHere 6 = .ok (.istore_n 2, 1) := by decide +kernel
theorem dX3_listHere_7 : decode cX3_listHere 7 = .ok (.iload_n 2, 1) := by decide +kernel
theorem dX3_listHere_8 : decode cX3_listHere 8 = .ok (.aload_n 0, 1) := by decide +kernel
theorem dX3_listHere_9 : decode cX3_listHere 9 = .ok (.getfield 29, 3) := by decide +kernel
theorem dX3_listHere_12 : decode cX3_listHere 12 = .ok (.if_icmp .ge 48, 3) := by decide +kernel
theorem dX3_listHere_15 : decode cX3_listHere 15 = .ok (.aload_n 0, 1) := by decide +kernel
theorem dX3_listHere_16 : decode cX3_listHere 16 = .ok (.iload_n 2, 1) := by decide +kernel
theorem dX3_listHere_17 : decode cX3_listHere 17 = .ok (.invokevirtual 162, 3) := by decide +kernel
theorem dX3_listHere_20 : decode cX3_listHere 20 = .ok (.bipush 97, 2) := by decide +kernel
theorem dX3_listHere_22 : decode cX3_listHere 22 = .ok (.isub, 1) := by decide +kernel
theorem dX3_listHere_23 : decode cX3_listHere 23 = .ok (.istore_n 3, 1) := by decide +kernel
theorem dX3_listHere_24 : decode cX3_listHere 24 = .ok (.aload_n 0, 1) := by decide +kernel
theorem dX3_listHere_25 : decode cX3_listHere 25 = .ok (.getfield 19, 3) := by decide +kernel
theorem dX3_listHere_28 : decode cX3_listHere 28 = .ok (.invokevirtual 92, 3) := by decide +kernel
theorem dX3_listHere_31 : decode cX3_listHere 31 = .ok (.iload_n 3, 1) := by decide +kernel
theorem dX3_listHere_32 : decode cX3_listHere 32 = .ok (.invokestatic 120, 3) := by decide +kernel
theorem dX3_listHere_35 : decode cX3_listHere 35 = .ok (.ifCond .eq 11, 3) := by decide +kernel
theorem dX3_listHere_38 : decode cX3_listHere 38 = .ok (.iload_n 1, 1) := by decide +kernel
theorem dX3_listHere_39 : decode cX3_listHere 39 = .ok (.iload_n 3, 1) := by decide +kernel
theorem dX3_listHere_40 : decode cX3_listHere 40 = .ok (.invokestatic 120, 3) := by decide +kernel
theorem dX3_listHere_43 : decode cX3_listHere 43 = .ok (.ifCond .eq 5, 3) := by decide +kernel
theorem dX3_listHere_46 : decode cX3_listHere 46 = .ok (.iconst 0, 1) := by decide +kernel
theorem dX3_listHere_47 : decode cX3_listHere 47 = .ok (.ireturn, 1) := by decide +kernel
theorem dX3_listHere_48 : decode cX3_listHere 48 = .ok (.iload_n 1, 1) := by decide +kernel
theorem dX3_listHere_49 : decode cX3_listHere 49 = .ok (.iconst 1, 1) := by decide +kernel
theorem dX3_listHere_50 : decode cX3_listHere 50 = .ok (.iload_n 3, 1) := by decide +kernel
theorem dX3_listHere_51 : decode cX3_listHere 51 = .ok (.ishl, 1) := by decide +kernel
theorem dX3_listHere_52 : decode cX3_listHere 52 = .ok (.ior, 1) := by decide +kernel
theorem dX3_listHere_53 : decode cX3_listHere 53 = .ok (.istore_n 1, 1) := by decide +kernel
theorem dX3_listHere_54 : decode cX3_listHere 54 = .ok (.iinc 2 1, 3) := by decide +kernel
theorem dX3_listHere_57 : decode cX3_listHere 57 = .ok (.goto (-50), 3) := by decide +kernel
theorem dX3_listHere_60 : decode cX3_listHere 60 = .ok (.iload_n 1, 1) := by decide +kernel
theorem dX3_listHere_61 : decode cX3_listHere 61 = .ok (.ireturn, 1) := by decide +kernel
theorem dX3_advance_0 : decode cX3_advance 0 = .ok (.aload_n 0, 1) := by decide +kernel
theorem dX3_advance_1 : decode cX3_advance 1 = .ok (.aload_n 0, 1) := by decide +kernel
theorem dX3_advance_2 : decode cX3_advance 2 = .ok (.getfield 29, 3) := by decide +kernel
theorem dX3_advance_5 : decode cX3_advance 5 = .ok (.putfield 155, 3) := by decide +kernel
theorem dX3_advance_8 : decode cX3_advance 8 = .ok (.aload_n 0, 1) := by decide +kernel
theorem dX3_advance_9 : decode cX3_advance 9 = .ok (.getfield 155, 3) := by decide +kernel
theorem dX3_advance_12 : decode cX3_advance 12 = .ok (.aload_n 0, 1) := by decide +kernel
theorem dX3_advance_13 : decode cX3_advance 13 = .ok (.getfield 26, 3) := by decide +kernel
theorem dX3_advance_16 : decode cX3_advance 16 = .ok (.if_icmp .ge 29, 3) := by decide +kernel
theorem dX3_advance_19 : decode cX3_advance 19 = .ok (.aload_n 0, 1) := by decide +kernel
theorem dX3_advance_20 : decode cX3_advance 20 = .ok (.aload_n 0, 1) := by decide +kernel
theorem dX3_advance_21 : decode cX3_advance 21 = .ok (.getfield 155, 3) := by decide +kernel
theorem dX3_advance_24 : decode cX3_advance 24 = .ok (.invokevirtual 162, 3) := by decide +kernel
theorem dX3_advance_27 : decode cX3_advance 27 = .ok (.bipush 32, 2) := by decide +kernel
theorem dX3_advance_29 : decode cX3_advance 29 = .ok (.if_icmp .ne 16, 3) := by decide +kernel
theorem dX3_advance_32 : decode cX3_advance 32 = .ok (.aload_n 0, 1) := by decide +kernel
theorem dX3_advance_33 : decode cX3_advance 33 = .ok (.dup, 1) := by decide +kernel
theorem dX3_advance_34 : decode cX3_advance 34 = .ok (.getfield 155, 3) := by decide +kernel
theorem dX3_advance_37 : decode cX3_advance 37 = .ok (.iconst 1, 1) := by decide +kernel
theorem dX3_advance_38 : decode cX3_advance 38 = .ok (.iadd, 1) := by decide +kernel
theorem dX3_advance_39 : decode cX3_advance 39 = .ok (.putfield 155, 3) := by decide +kernel
theorem dX3_advance_42 : decode cX3_advance 42 = .ok (.goto (-34), 3) := by decide +kernel
theorem dX3_advance_45 : decode cX3_advance 45 = .ok (.aload_n 0, 1) := by decide +kernel
theorem dX3_advance_46 : decode cX3_advance 46 = .ok (.aload_n 0, 1) := by decide +kernel
theorem dX3_advance_47 : decode cX3_advance 47 = .ok (.getfield 155, 3) := by decide +kernel
theorem dX3_advance_50 : decode cX3_advance 50 = .ok (.iconst 1, 1) := by decide +kernel
theorem dX3_advance_51 : decode cX3_advance 51 = .ok (.iadd, 1) := by decide +kernel
theorem dX3_advance_52 : decode cX3_advance 52 = .ok (.putfield 29, 3) := by decide +kernel
theorem dX3_advance_55 : decode cX3_advance 55 = .ok (.aload_n 0, 1) := by decide +kernel
theorem dX3_advance_56 : decode cX3_advance 56 = .ok (.aload_n 0, 1) := by decide +kernel
theorem dX3_advance_57 : decode cX3_advance 57 = .ok (.getfield 155, 3) := by decide +kernel
theorem dX3_advance_60 : decode cX3_advance 60 = .ok (.invokevirtual 162, 3) := by decide +kernel
theorem dX3_advance_63 : decode cX3_advance 63 = .ok (.istore_n 1, 1) := by decide +kernel
theorem dX3_advance_64 : decode cX3_advance 64 = .ok (.iload_n 1, 1) := by decide +kernel
theorem dX3_advance_65 : decode cX3_advance 65 = .ok (.iconst (-1), 1) := by decide +kernel
theorem dX3_advance_66 : decode cX3_advance 66 = .ok (.if_icmp .ne 19, 3) := by decide +kernel
theorem dX3_advance_69 : decode cX3_advance 69 = .ok (.aload_n 0, 1) := by decide +kernel
theorem dX3_advance_70 : decode cX3_advance 70 = .ok (.iconst 0, 1) := by decide +kernel
theorem dX3_advance_71 : decode cX3_advance 71 = .ok (.putfield 96, 3) := by decide +kernel
theorem dX3_advance_74 : decode cX3_advance 74 = .ok (.aload_n 0, 1) := by decide +kernel
theorem dX3_advance_75 : decode cX3_advance 75 = .ok (.aload_n 0, 1) := by decide +kernel
theorem dX3_advance_76 : decode cX3_advance 76 = .ok (.getfield 155, 3) := by decide +kernel
theorem dX3_advance_79 : decode cX3_advance 79 = .ok (.putfield 29, 3) := by decide +kernel
theorem dX3_advance_82 : decode cX3_advance 82 = .ok (.goto 155, 3) := by decide +kernel
theorem dX3_advance_85 : decode cX3_advance 85 = .ok (.iload_n 1, 1) := by decide +kernel
theorem dX3_advance_86 : decode cX3_advance 86 = .ok (.invokestatic 169, 3) := by decide +kernel
theorem dX3_advance_89 : decode cX3_advance 89 = .ok (.ifCond .eq 46, 3) := by decide +kernel
theorem dX3_advance_92 : decode cX3_advance 92 = .ok (.aload_n 0, 1) := by decide +kernel
theorem dX3_advance_93 : decode cX3_advance 93 = .ok (.iconst 1, 1) := by decide +kernel
theorem dX3_advance_94 : decode cX3_advance 94 = .ok (.putfield 96, 3) := by decide +kernel
theorem dX3_advance_97 : decode cX3_advance 97 = .ok (.aload_n 0, 1) := by decide +kernel
theorem dX3_advance_98 : decode cX3_advance 98 = .ok (.getfield 29, 3) := by decide +kernel
theorem dX3_advance_101 : decode cX3_advance 101 = .ok (.aload_n 0, 1) := by decide +kernel
theorem dX3_advance_102 : decode cX3_advance 102 = .ok (.getfield 26, 3) := by decide +kernel
theorem dX3_advance_105 : decode cX3_advance 105 = .ok (.if_icmp .ge 132, 3) := by decide +kernel
theorem dX3_advance_108 : decode cX3_advance 108 = .ok (.aload_n 0, 1) := by decide +kernel
theorem dX3_advance_109 : decode cX3_advance 109 = .ok (.aload_n 0, 1) := by decide +kernel
theorem dX3_advance_110 : decode cX3_advance 110 = .ok (.getfield 29, 3) := by decide +kernel
theorem dX3_advance_113 : decode cX3_advance 113 = .ok (.invokevirtual 162, 3) := by decide +kernel
theorem dX3_advance_116 : decode cX3_advance 116 = .ok (.invokestatic 169, 3) := by decide +kernel
theorem dX3_advance_119 : decode cX3_advance 119 = .ok (.ifCond .eq 118, 3) := by decide +kernel
theorem dX3_advance_122 : decode cX3_advance 122 = .ok (.aload_n 0, 1) := by decide +kernel
theorem dX3_advance_123 : decode cX3_advance 123 = .ok (.dup, 1) := by decide +kernel
theorem dX3_advance_124 : decode cX3_advance 124 = .ok (.getfield 29, 3) := by decide +kernel
theorem dX3_advance_127 : decode cX3_advance 127 = .ok (.iconst 1, 1) := by decide +kernel
theorem dX3_advance_128 : decode cX3_advance 128 = .ok (.iadd, 1) := by decide +kernel
theorem dX3_advance_129 : decode cX3_advance 129 = .ok (.putfield 29, 3) := by decide +kernel
theorem dX3_advance_132 : decode cX3_advance 132 = .ok (.goto (-35), 3) := by decide +kernel
theorem dX3_advance_135 : decode cX3_advance 135 = .ok (.iload_n 1, 1) := by decide +kernel
theorem dX3_advance_136 : decode cX3_advance 136 = .ok (.invokestatic 172, 3) := by decide +kernel
theorem dX3_advance_139 : decode cX3_advance 139 = .ok (.ifCond .eq 83, 3) := by decide +kernel
theorem dX3_advance_142 : decode cX3_advance 142 = .ok (.aload_n 0, 1) := by decide +kernel
theorem dX3_advance_143 : decode cX3_advance 143 = .ok (.iconst 2, 1) := by decide +kernel
theorem dX3_advance_144 : decode cX3_advance 144 = .ok (.putfield 96, 3) := by decide +kernel
theorem dX3_advance_147 : decode cX3_advance 147 = .ok (.aload_n 0, 1) := by decide +kernel
theorem dX3_advance_148 : decode cX3_advance 148 = .ok (.iload_n 1, 1) := by decide +kernel
theorem dX3_advance_149 : decode cX3_advance 149 = .ok (.bipush 48, 2) := by decide +kernel
theorem dX3_advance_151 : decode cX3_advance 151 = .ok (.isub, 1) := by decide +kernel
theorem dX3_advance_152 : decode cX3_advance 152 = .ok (.putfield 113, 3) := by decide +kernel
theorem dX3_advance_155 : decode cX3_advance 155 = .ok (.aload_n 0, 1) := by decide +kernel
theorem dX3_advance_156 : decode cX3_advance 156 = .ok (.getfield 29, 3) := by decide +kernel
theorem dX3_advance_159 : decode cX3_advance 159 = .ok (.aload_n 0, 1) := by decide +kernel
theorem dX3_advance_160 : decode cX3_advance 160 = .ok (.getfield 26, 3) := by decide +kernel
theorem dX3_advance_163 : decode cX3_advance 163 = .ok (.if_icmp .ge 74, 3) := by decide +kernel
theorem dX3_advance_166 : decode cX3_advance 166 = .ok (.aload_n 0, 1) := by decide +kernel
theorem dX3_advance_167 : decode cX3_advance 167 = .ok (.aload_n 0, 1) := by decide +kernel
theorem dX3_advance_168 : decode cX3_advance 168 = .ok (.getfield 29, 3) := by decide +kernel
theorem dX3_advance_171 : decode cX3_advance 171 = .ok (.invokevirtual 162, 3) := by decide +kernel
theorem dX3_advance_174 : decode cX3_advance 174 = .ok (.invokestatic 172, 3) := by decide +kernel
theorem dX3_advance_177 : decode cX3_advance 177 = .ok (.ifCond .eq 60, 3) := by decide +kernel
theorem dX3_advance_180 : decode cX3_advance 180 = .ok (.aload_n 0, 1) := by decide +kernel
theorem dX3_advance_181 : decode cX3_advance 181 = .ok (.bipush 10, 2) := by decide +kernel
theorem dX3_advance_183 : decode cX3_advance 183 = .ok (.aload_n 0, 1) := by decide +kernel
theorem dX3_advance_184 : decode cX3_advance 184 = .ok (.getfield 113, 3) := by decide +kernel
theorem dX3_advance_187 : decode cX3_advance 187 = .ok (.imul, 1) := by decide +kernel
theorem dX3_advance_188 : decode cX3_advance 188 = .ok (.aload_n 0, 1) := by decide +kernel
theorem dX3_advance_189 : decode cX3_advance 189 = .ok (.aload_n 0, 1) := by decide +kernel
theorem dX3_advance_190 : decode cX3_advance 190 = .ok (.getfield 29, 3) := by decide +kernel
theorem dX3_advance_193 : decode cX3_advance 193 = .ok (.invokevirtual 162, 3) := by decide +kernel
theorem dX3_advance_196 : decode cX3_advance 196 = .ok (.iadd, 1) := by decide +kernel
theorem dX3_advance_197 : decode cX3_advance 197 = .ok (.bipush 48, 2) := by decide +kernel
theorem dX3_advance_199 : decode cX3_advance 199 = .ok (.isub, 1) := by decide +kernel
theorem dX3_advance_200 : decode cX3_advance 200 = .ok (.sipush 1000, 3) := by decide +kernel
theorem dX3_advance_203 : decode cX3_advance 203 = .ok (.invokestatic 175, 3) := by decide +kernel
theorem dX3_advance_206 : decode cX3_advance 206 = .ok (.putfield 113, 3) := by decide +kernel
theorem dX3_advance_209 : decode cX3_advance 209 = .ok (.aload_n 0, 1) := by decide +kernel
theorem dX3_advance_210 : decode cX3_advance 210 = .ok (.dup, 1) := by decide +kernel
theorem dX3_advance_211 : decode cX3_advance 211 = .ok (.getfield 29, 3) := by decide +kernel
theorem dX3_advance_214 : decode cX3_advance 214 = .ok (.iconst 1, 1) := by decide +kernel
theorem dX3_advance_215 : decode cX3_advance 215 = .ok (.iadd, 1) := by decide +kernel
theorem dX3_advance_216 : decode cX3_advance 216 = .ok (.putfield 29, 3) := by decide +kernel
theorem dX3_advance_219 : decode cX3_advance 219 = .ok (.goto (-64), 3) := by decide +kernel
theorem dX3_advance_222 : decode cX3_advance 222 = .ok (.aload_n 0, 1) := by decide +kernel
theorem dX3_advance_223 : decode cX3_advance 223 = .ok (.iload_n 1, 1) := by decide +kernel
theorem dX3_advance_224 : decode cX3_advance 224 = .ok (.bipush 59, 2) := by decide +kernel
theorem dX3_advance_226 : decode cX3_advance 226 = .ok (.if_icmp .ne 7, 3) := by decide +kernel
theorem dX3_advance_229 : decode cX3_advance 229 = .ok (.iconst 3, 1) := by decide +kernel
theorem dX3_advance_230 : decode cX3_advance 230 = .ok (.goto 4, 3) := by decide +kernel
theorem dX3_advance_233 : decode cX3_advance 233 = .ok (.iconst 4, 1) := by decide +kernel
theorem dX3_advance_234 : decode cX3_advance 234 = .ok (.putfield 96, 3) := by decide +kernel
theorem dX3_advance_237 : decode cX3_advance 237 = .ok (.return_, 1) := by decide +kernel
theorem dX3_byteAt_0 : decode cX3_byteAt 0 = .ok (.iload_n 1, 1) := by decide +kernel
theorem dX3_byteAt_1 : decode cX3_byteAt 1 = .ok (.ifCond .lt 24, 3) := by decide +kernel
theorem dX3_byteAt_4 : decode cX3_byteAt 4 = .ok (.iload_n 1, 1) := by decide +kernel
theorem dX3_byteAt_5 : decode cX3_byteAt 5 = .ok (.aload_n 0, 1) := by decide +kernel
theorem dX3_byteAt_6 : decode cX3_byteAt 6 = .ok (.getfield 26, 3) := by decide +kernel
theorem dX3_byteAt_9 : decode cX3_byteAt 9 = .ok (.if_icmp .ge 16, 3) := by decide +kernel
theorem dX3_byteAt_12 : decode cX3_byteAt 12 = .ok (.iload_n 1, 1) := by decide +kernel
theorem dX3_byteAt_13 : decode cX3_byteAt 13 = .ok (.aload_n 0, 1) := by decide +kernel
theorem dX3_byteAt_14 : decode cX3_byteAt 14 = .ok (.getfield 15, 3) := by decide +kernel
theorem dX3_byteAt_17 : decode cX3_byteAt 17 = .ok (.arraylength, 1) := by decide +kernel
theorem dX3_byteAt_18 : decode cX3_byteAt 18 = .ok (.if_icmp .ge 7, 3) := by decide +kernel
theorem dX3_byteAt_21 : decode cX3_byteAt 21 = .ok (.iconst 1, 1) := by decide +kernel
theorem dX3_byteAt_22 : decode cX3_byteAt 22 = .ok (.goto 4, 3) := by decide +kernel
theorem dX3_byteAt_25 : decode cX3_byteAt 25 = .ok (.iconst 0, 1) := by decide +kernel
theorem dX3_byteAt_26 : decode cX3_byteAt 26 = .ok (.istore_n 2, 1) := by decide +kernel
theorem dX3_byteAt_27 : decode cX3_byteAt 27 = .ok (.iload_n 2, 1) := by decide +kernel
theorem dX3_byteAt_28 : decode cX3_byteAt 28 = .ok (.ifCond .eq 16, 3) := by decide +kernel
theorem dX3_byteAt_31 : decode cX3_byteAt 31 = .ok (.aload_n 0, 1) := by decide +kernel
theorem dX3_byteAt_32 : decode cX3_byteAt 32 = .ok (.getfield 15, 3) := by decide +kernel
theorem dX3_byteAt_35 : decode cX3_byteAt 35 = .ok (.iload_n 1, 1) := by decide +kernel
theorem dX3_byteAt_36 : decode cX3_byteAt 36 = .ok (.baload, 1) := by decide +kernel
theorem dX3_byteAt_37 : decode cX3_byteAt 37 = .ok (.sipush 255, 3) := by decide +kernel
theorem dX3_byteAt_40 : decode cX3_byteAt 40 = .ok (.iand, 1) := by decide +kernel
theorem dX3_byteAt_41 : decode cX3_byteAt 41 = .ok (.goto 4, 3) := by decide +kernel
theorem dX3_byteAt_44 : decode cX3_byteAt 44 = .ok (.iconst (-1), 1) := by decide +kernel
theorem dX3_byteAt_45 : decode cX3_byteAt 45 = .ok (.ireturn, 1) := by decide +kernel
theorem dX3_isLetter_0 : decode cX3_isLetter 0 = .ok (.iload_n 0, 1) := by decide +kernel
theorem dX3_isLetter_1 : decode cX3_isLetter 1 = .ok (.bipush 97, 2) := by decide +kernel
theorem dX3_isLetter_3 : decode cX3_isLetter 3 = .ok (.if_icmp .lt 13, 3) := by decide +kernel
theorem dX3_isLetter_6 : decode cX3_isLetter 6 = .ok (.iload_n 0, 1) := by decide +kernel
theorem dX3_isLetter_7 : decode cX3_isLetter 7 = .ok (.bipush 122, 2) := by decide +kernel
theorem dX3_isLetter_9 : decode cX3_isLetter 9 = .ok (.if_icmp .gt 7, 3) := by decide +kernel
theorem dX3_isLetter_12 : decode cX3_isLetter 12 = .ok (.iconst 1, 1) := by decide +kernel
theorem dX3_isLetter_13 : decode cX3_isLetter 13 = .ok (.goto 4, 3) := by decide +kernel
theorem dX3_isLetter_16 : decode cX3_isLetter 16 = .ok (.iconst 0, 1) := by decide +kernel
theorem dX3_isLetter_17 : decode cX3_isLetter 17 = .ok (.ireturn, 1) := by decide +kernel
theorem dX3_isDigit_0 : decode cX3_isDigit 0 = .ok (.iload_n 0, 1) := by decide +kernel
theorem dX3_isDigit_1 : decode cX3_isDigit 1 = .ok (.bipush 48, 2) := by decide +kernel
theorem dX3_isDigit_3 : decode cX3_isDigit 3 = .ok (.if_icmp .lt 13, 3) := by decide +kernel
theorem dX3_isDigit_6 : decode cX3_isDigit 6 = .ok (.iload_n 0, 1) := by decide +kernel
theorem dX3_isDigit_7 : decode cX3_isDigit 7 = .ok (.bipush 57, 2) := by decide +kernel
theorem dX3_isDigit_9 : decode cX3_isDigit 9 = .ok (.if_icmp .gt 7, 3) := by decide +kernel
theorem dX3_isDigit_12 : decode cX3_isDigit 12 = .ok (.iconst 1, 1) := by decide +kernel
theorem dX3_isDigit_13 : decode cX3_isDigit 13 = .ok (.goto 4, 3) := by decide +kernel
theorem dX3_isDigit_16 : decode cX3_isDigit 16 = .ok (.iconst 0, 1) := by decide +kernel
theorem dX3_isDigit_17 : decode cX3_isDigit 17 = .ok (.ireturn, 1) := by decide +kernel
theorem dX3_fail_0 : decode cX3_fail 0 = .ok (.aload_n 0, 1) := by decide +kernel
theorem dX3_fail_1 : decode cX3_fail 1 = .ok (.iload_n 1, 1) := by decide +kernel
theorem dX3_fail_2 : decode cX3_fail 2 = .ok (.putfield 51, 3) := by decide +kernel
theorem dX3_fail_5 : decode cX3_fail 5 = .ok (.aload_n 0, 1) := by decide +kernel
theorem dX3_fail_6 : decode cX3_fail 6 = .ok (.aload_n 0, 1) := by decide +kernel
theorem dX3_fail_7 : decode cX3_fail 7 = .ok (.getfield 155, 3) := by decide +kernel
theorem dX3_fail_10 : decode cX3_fail 10 = .ok (.putfield 9, 3) := by decide +kernel
theorem dX3_fail_13 : decode cX3_fail 13 = .ok (.iconst 0, 1) := by decide +kernel
theorem dX3_fail_14 : decode cX3_fail 14 = .ok (.ireturn, 1) := by decide +kernel
theorem dX4_init_0 : decode cX4_init 0 = .ok (.aload_n 0, 1) := by decide +kernel
theorem dX4_init_1 : decode cX4_init 1 = .ok (.invokespecial 5, 3) := by decide +kernel
theorem dX4_init_4 : decode cX4_init 4 = .ok (.aload_n 0, 1) := by decide +kernel
theorem dX4_init_5 : decode cX4_init 5 = .ok (.ldc 11, 2) := by decide +kernel
theorem dX4_init_7 : decode cX4_init 7 = .ok (.newarray .long, 2) := by decide +kernel
theorem dX4_init_9 : decode cX4_init 9 = .ok (.putfield 12, 3) := by decide +kernel
theorem dX4_init_12 : decode cX4_init 12 = .ok (.aload_n 0, 1) := by decide +kernel
theorem dX4_init_13 : decode cX4_init 13 = .ok (.ldc 11, 2) := by decide +kernel
theorem dX4_init_15 : decode cX4_init 15 = .ok (.newarray .int, 2) := by decide +kernel
theorem dX4_init_17 : decode cX4_init 17 = .ok (.putfield 16, 3) := by decide +kernel
theorem dX4_init_20 : decode cX4_init 20 = .ok (.aload_n 0, 1) := by decide +kernel
theorem dX4_init_21 : decode cX4_init 21 = .ok (.aload_n 1, 1) := by decide +kernel
theorem dX4_init_22 : decode cX4_init 22 = .ok (.putfield 20, 3) := by decide +kernel
theorem dX4_init_25 : decode cX4_init 25 = .ok (.return_, 1) := by decide +kernel
theorem dX4_ofPartsIn_0 : decode cX4_ofPartsIn 0 = .ok (.iconst 0, 1) := by decide +kernel
theorem dX4_ofPartsIn_1 : decode cX4_ofPartsIn 1 = .ok (.istore_n 2, 1) := by decide +kernel
theorem dX4_ofPartsIn_2 : decode cX4_ofPartsIn 2 = .ok (.iload_n 1, 1) := by decide +kernel
theorem dX4_ofPartsIn_3 : decode cX4_ofPartsIn 3 = .ok (.istore_n 3, 1) := by decide +kernel
theorem dX4_ofPartsIn_4 : decode cX4_ofPartsIn 4 = .ok (.iconst 0, 1) := by decide +kernel
theorem dX4_ofPartsIn_5 : decode cX4_ofPartsIn 5 = .ok (.istore 4, 2) := by decide +kernel
theorem dX4_ofPartsIn_7 : decode cX4_ofPartsIn 7 = .ok (.iload 4, 2) := by decide +kernel
theorem dX4_ofPartsIn_9 : decode cX4_ofPartsIn 9 = .ok (.bipush 9, 2) := by decide +kernel
theorem dX4_ofPartsIn_11 : decode cX4_ofPartsIn 11 = .ok (.if_icmp .ge 50, 3) := by decide +kernel
theorem dX4_ofPartsIn_14 : decode cX4_ofPartsIn 14 = .ok (.iload_n 3, 1) := by decide +kernel
theorem dX4_ofPartsIn_15 : decode cX4_ofPartsIn 15 = .ok (.ifCond .eq 46, 3) := by decide +kernel
theorem dX4_ofPartsIn_18 : decode cX4_ofPartsIn 18 = .ok (.aload_n 0, 1) := by decide +kernel
theorem dX4_ofPartsIn_19 : decode cX4_ofPartsIn 19 = .ok (.getfield 20, 3) := by decide +kernel
theorem dX4_ofPartsIn_22 : decode cX4_ofPartsIn 22 = .ok (.iload_n 3, 1) := by decide +kernel
theorem dX4_ofPartsIn_23 : decode cX4_ofPartsIn 23 = .ok (.iload_n 3, 1) := by decide +kernel
theorem dX4_ofPartsIn_24 : decode cX4_ofPartsIn 24 = .ok (.ineg, 1) := by decide +kernel
theorem dX4_ofPartsIn_25 : decode cX4_ofPartsIn 25 = .ok (.iand, 1) := by decide +kernel
theorem dX4_ofPartsIn_26 : decode cX4_ofPartsIn 26 = .ok (.iload_n 3, 1) := by decide +kernel
theorem dX4_ofPartsIn_27 : decode cX4_ofPartsIn 27 = .ok (.invokevirtual 24, 3) := by decide +kernel
theorem dX4_ofPartsIn_30 : decode cX4_ofPartsIn 30 = .ok (.istore 5, 2) := by decide +kernel
theorem dX4_ofPartsIn_32 : decode cX4_ofPartsIn 32 = .ok (.iload_n 2, 1) := by decide +kernel
theorem dX4_ofPartsIn_33 : decode cX4_ofPartsIn 33 = .ok (.aload_n 0, 1) := by decide +kernel
theorem dX4_ofPartsIn_34 : decode cX4_ofPartsIn 34 = .ok (.aload_n 0, 1) := by decide +kernel
theorem dX4_ofPartsIn_35 : decode cX4_ofPartsIn 35 = .ok (.iload 5, 2) := by decide +kernel
theorem dX4_ofPartsIn_37 : decode cX4_ofPartsIn 37 = .ok (.invokevirtual 30, 3) := by decide +kernel
theorem dX4_ofPartsIn_40 : decode cX4_ofPartsIn 40 = .ok (.iconst 0, 1) := by decide +kernel
theorem dX4_ofPartsIn_41 : decode cX4_ofPartsIn 41 = .ok (.invokevirtual 34, 3) := by decide +kernel
theorem dX4_ofPartsIn_44 : decode cX4_ofPartsIn 44 = .ok (.invokestatic 38, 3) := by decide +kernel
theorem dX4_ofPartsIn_47 : decode cX4_ofPartsIn 47 = .ok (.istore_n 2, 1) := by decide +kernel
theorem dX4_ofPartsIn_48 : decode cX4_ofPartsIn 48 = .ok (.iload_n 3, 1) := by decide +kernel
theorem dX4_ofPartsIn_49 : decode cX4_ofPartsIn 49 = .ok (.iload 5, 2) := by decide +kernel
theorem dX4_ofPartsIn_51 : decode cX4_ofPartsIn 51 = .ok (.iconst (-1), 1) := by decide +kernel
theorem dX4_ofPartsIn_52 : decode cX4_ofPartsIn 52 = .ok (.ixor, 1) := by decide +kernel
theorem dX4_ofPartsIn_53 : decode cX4_ofPartsIn 53 = .ok (.iand, 1) := by decide +kernel
theorem dX4_ofPartsIn_54 : decode cX4_ofPartsIn 54 = .ok (.istore_n 3, 1) := by decide +kernel
theorem dX4_ofPartsIn_55 : decode cX4_ofPartsIn 55 = .ok (.iinc 4 1, 3) := by decide +kernel
theorem dX4_ofPartsIn_58 : decode cX4_ofPartsIn 58 = .ok (.goto (-51), 3) := by decide +kernel
theorem dX4_ofPartsIn_61 : decode cX4_ofPartsIn 61 = .ok (.iload_n 2, 1) := by decide +kernel
theorem dX4_ofPartsIn_62 : decode cX4_ofPartsIn 62 = .ok (.ireturn, 1) := by decide +kernel
theorem dX4_behindLay_0 : decode cX4_behindLay 0 = .ok (.aload_n 0, 1) := by decide +kernel
theorem dX4_behindLay_1 : decode cX4_behindLay 1 = .ok (.getfield 20, 3) := by decide +kernel
theorem dX4_behindLay_4 : decode cX4_behindLay 4 = .ok (.iload_n 1, 1) := by decide +kernel
theorem dX4_behindLay_5 : decode cX4_behindLay 5 = .ok (.invokevirtual 41, 3) := by decide +kernel
theorem dX4_behindLay_8 : decode cX4_behindLay 8 = .ok (.istore_n 3, 1) := by decide +kernel
theorem dX4_behindLay_9 : decode cX4_behindLay 9 = .ok (.aload_n 0, 1) := by decide +kernel
theorem dX4_behindLay_10 : decode cX4_behindLay 10 = .ok (.aload_n 0, 1) := by decide +kernel
theorem dX4_behindLay_11 : decode cX4_behindLay 11 = .ok (.iload_n 3, 1) := by decide +kernel
theorem dX4_behindLay_12 : decode cX4_behindLay 12 = .ok (.invokevirtual 30, 3) := by decide +kernel
theorem dX4_behindLay_15 : decode cX4_behindLay 15 = .ok (.iload_n 1, 1) := by decide +kernel
theorem dX4_behindLay_16 : decode cX4_behindLay 16 = .ok (.iload_n 2, 1) := by decide +kernel
theorem dX4_behindLay_17 : decode cX4_behindLay 17 = .ok (.invokevirtual 45, 3) := by decide +kernel
theorem dX4_behindLay_20 : decode cX4_behindLay 20 = .ok (.lstore 4, 2) := by decide +kernel
theorem dX4_behindLay_22 : decode cX4_behindLay 22 = .ok (.aload_n 0, 1) := by decide +kernel
theorem dX4_behindLay_23 : decode cX4_behindLay 23 = .ok (.aload_n 0, 1) := by decide +kernel
theorem dX4_behindLay_24 : decode cX4_behindLay 24 = .ok (.getfield 20, 3) := by decide +kernel
theorem dX4_behindLay_27 : decode cX4_behindLay 27 = .ok (.getfield 49, 3) := by decide +kernel
theorem dX4_behindLay_30 : decode cX4_behindLay 30 = .ok (.iload_n 3, 1) := by decide +kernel
theorem dX4_behindLay_31 : decode cX4_behindLay 31 = .ok (.iconst (-1), 1) := by decide +kernel
theorem dX4_behindLay_32 : decode cX4_behindLay 32 = .ok (.ixor, 1) := by decide +kernel
theorem dX4_behindLay_33 : decode cX4_behindLay 33 = .ok (.iand, 1) := by decide +kernel
theorem dX4_behindLay_34 : decode cX4_behindLay 34 = .ok (.invokevirtual 53, 3) := by decide +kernel
theorem dX4_behindLay_37 : decode cX4_behindLay 37 = .ok (.aload_n 0, 1) := by decide +kernel
theorem dX4_behindLay_38 : decode cX4_behindLay 38 = .ok (.lload 4, 2) := by decide +kernel
theorem dX4_behindLay_40 : decode cX4_behindLay 40 = .ok (.iconst 0, 1) := by decide +kernel
theorem dX4_behindLay_41 : decode cX4_behindLay 41 = .ok (.invokevirtual 56, 3) := by decide +kernel
theorem dX4_behindLay_44 : decode cX4_behindLay 44 = .ok (.invokestatic 38, 3) := by decide +kernel
theorem dX4_behindLay_47 : decode cX4_behindLay 47 = .ok (.ireturn, 1) := by decide +kernel
theorem dX4_without_0 : decode cX4_without 0 = .ok (.aload_n 0, 1) := by decide +kernel
end
section
theorem dX4_without_1 : decode cX4_without 1 = .ok (.getfield 20, 3) := by decide +kernel
theorem dX4_without_4 : decode cX4_without 4 = .ok (.iload_n 1, 1) := by decide +kernel
theorem dX4_without_5 : decode cX4_without 5 = .ok (.invokevirtual 41, 3) := by decide +kernel
theorem dX4_without_8 : decode cX4_without 8 = .ok (.istore_n 2, 1) := by decide +kernel
theorem dX4_without_9 : decode cX4_without 9 = .ok (.aload_n 0, 1) := by decide +kernel
theorem dX4_without_10 : decode cX4_without 10 = .ok (.iload_n 2, 1) := by decide +kernel
theorem dX4_without_11 : decode cX4_without 11 = .ok (.invokevirtual 30, 3) := by decide +kernel
theorem dX4_without_14 : decode cX4_without 14 = .ok (.ldc2_w 59, 3) := by decide +kernel
theorem dX4_without_17 : decode cX4_without 17 = .ok (.iload_n 1, 1) := by decide +kernel
theorem dX4_without_18 : decode cX4_without 18 = .ok (.lshl, 1) := by decide +kernel
theorem dX4_without_19 : decode cX4_without 19 = .ok (.ldc2_w 61, 3) := by decide +kernel
theorem dX4_without_22 : decode cX4_without 22 = .ok (.lxor, 1) := by decide +kernel
theorem dX4_without_23 : decode cX4_without 23 = .ok (.land, 1) := by decide +kernel
theorem dX4_without_24 : decode cX4_without 24 = .ok (.lstore_n 3, 1) := by decide +kernel
theorem dX4_without_25 : decode cX4_without 25 = .ok (.aload_n 0, 1) := by decide +kernel
theorem dX4_without_26 : decode cX4_without 26 = .ok (.aload_n 0, 1) := by decide +kernel
theorem dX4_without_27 : decode cX4_without 27 = .ok (.getfield 20, 3) := by decide +kernel
theorem dX4_without_30 : decode cX4_without 30 = .ok (.getfield 49, 3) := by decide +kernel
theorem dX4_without_33 : decode cX4_without 33 = .ok (.iload_n 2, 1) := by decide +kernel
theorem dX4_without_34 : decode cX4_without 34 = .ok (.iconst (-1), 1) := by decide +kernel
theorem dX4_without_35 : decode cX4_without 35 = .ok (.ixor, 1) := by decide +kernel
theorem dX4_without_36 : decode cX4_without 36 = .ok (.iand, 1) := by decide +kernel
theorem dX4_without_37 : decode cX4_without 37 = .ok (.invokevirtual 53, 3) := by decide +kernel
theorem dX4_without_40 : decode cX4_without 40 = .ok (.aload_n 0, 1) := by decide +kernel
theorem dX4_without_41 : decode cX4_without 41 = .ok (.lload_n 3, 1) := by decide +kernel
theorem dX4_without_42 : decode cX4_without 42 = .ok (.iconst 0, 1) := by decide +kernel
theorem dX4_without_43 : decode cX4_without 43 = .ok (.invokevirtual 56, 3) := by decide +kernel
theorem dX4_without_46 : decode cX4_without 46 = .ok (.invokestatic 38, 3) := by decide +kernel
theorem dX4_without_49 : decode cX4_without 49 = .ok (.ireturn, 1) := by decide +kernel
theorem dX4_placeOf_0 : decode cX4_placeOf 0 = .ok (.aload_n 0, 1) := by decide +kernel
theorem dX4_placeOf_1 : decode cX4_placeOf 1 = .ok (.getfield 20, 3) := by decide +kernel
theorem dX4_placeOf_4 : decode cX4_placeOf 4 = .ok (.getfield 63, 3) := by decide +kernel
theorem dX4_placeOf_7 : decode cX4_placeOf 7 = .ok (.i2l, 1) := by decide +kernel
theorem dX4_placeOf_8 : decode cX4_placeOf 8 = .ok (.bipush 38, 2) := by decide +kernel
theorem dX4_placeOf_10 : decode cX4_placeOf 10 = .ok (.lshl, 1) := by decide +kernel
theorem dX4_placeOf_11 : decode cX4_placeOf 11 = .ok (.aload_n 0, 1) := by decide +kernel
theorem dX4_placeOf_12 : decode cX4_placeOf 12 = .ok (.getfield 20, 3) := by decide +kernel
theorem dX4_placeOf_15 : decode cX4_placeOf 15 = .ok (.iload_n 1, 1) := by decide +kernel
theorem dX4_placeOf_16 : decode cX4_placeOf 16 = .ok (.invokevirtual 66, 3) := by decide +kernel
theorem dX4_placeOf_19 : decode cX4_placeOf 19 = .ok (.iconst 1, 1) := by decide +kernel
theorem dX4_placeOf_20 : decode cX4_placeOf 20 = .ok (.iadd, 1) := by decide +kernel
theorem dX4_placeOf_21 : decode cX4_placeOf 21 = .ok (.i2l, 1) := by decide +kernel
theorem dX4_placeOf_22 : decode cX4_placeOf 22 = .ok (.bipush 36, 2) := by decide +kernel
theorem dX4_placeOf_24 : decode cX4_placeOf 24 = .ok (.lshl, 1) := by decide +kernel
theorem dX4_placeOf_25 : decode cX4_placeOf 25 = .ok (.lor, 1) := by decide +kernel
theorem dX4_placeOf_26 : decode cX4_placeOf 26 = .ok (.iload_n 1, 1) := by decide +kernel
theorem dX4_placeOf_27 : decode cX4_placeOf 27 = .ok (.i2l, 1) := by decide +kernel
theorem dX4_placeOf_28 : decode cX4_placeOf 28 = .ok (.lor, 1) := by decide +kernel
theorem dX4_placeOf_29 : decode cX4_placeOf 29 = .ok (.lstore_n 2, 1) := by decide +kernel
theorem dX4_placeOf_30 : decode cX4_placeOf 30 = .ok (.iconst 0, 1) := by decide +kernel
theorem dX4_placeOf_31 : decode cX4_placeOf 31 = .ok (.istore 4, 2) := by decide +kernel
theorem dX4_placeOf_33 : decode cX4_placeOf 33 = .ok (.iload 4, 2) := by decide +kernel
theorem dX4_placeOf_35 : decode cX4_placeOf 35 = .ok (.iconst 3, 1) := by decide +kernel
theorem dX4_placeOf_36 : decode cX4_placeOf 36 = .ok (.if_icmp .ge 30, 3) := by decide +kernel
theorem dX4_placeOf_39 : decode cX4_placeOf 39 = .ok (.lload_n 2, 1) := by decide +kernel
theorem dX4_placeOf_40 : decode cX4_placeOf 40 = .ok (.aload_n 0, 1) := by decide +kernel
theorem dX4_placeOf_41 : decode cX4_placeOf 41 = .ok (.getfield 20, 3) := by decide +kernel
theorem dX4_placeOf_44 : decode cX4_placeOf 44 = .ok (.iload 4, 2) := by decide +kernel
theorem dX4_placeOf_46 : decode cX4_placeOf 46 = .ok (.invokevirtual 69, 3) := by decide +kernel
theorem dX4_placeOf_49 : decode cX4_placeOf 49 = .ok (.iload_n 1, 1) := by decide +kernel
theorem dX4_placeOf_50 : decode cX4_placeOf 50 = .ok (.iand, 1) := by decide +kernel
theorem dX4_placeOf_51 : decode cX4_placeOf 51 = .ok (.i2l, 1) := by decide +kernel
theorem dX4_placeOf_52 : decode cX4_placeOf 52 = .ok (.iload 4, 2) := by decide +kernel
theorem dX4_placeOf_54 : decode cX4_placeOf 54 = .ok (.invokestatic 72, 3) := by decide +kernel
theorem dX4_placeOf_57 : decode cX4_placeOf 57 = .ok (.lshl, 1) := by decide +kernel
theorem dX4_placeOf_58 : decode cX4_placeOf 58 = .ok (.lor, 1) := by decide +kernel
theorem dX4_placeOf_59 : decode cX4_placeOf 59 = .ok (.lstore_n 2, 1) := by decide +kernel
theorem dX4_placeOf_60 : decode cX4_placeOf 60 = .ok (.iinc 4 1, 3) := by decide +kernel
theorem dX4_placeOf_63 : decode cX4_placeOf 63 = .ok (.goto (-30), 3) := by decide +kernel
theorem dX4_placeOf_66 : decode cX4_placeOf 66 = .ok (.lload_n 2, 1) := by decide +kernel
theorem dX4_placeOf_67 : decode cX4_placeOf 67 = .ok (.lreturn, 1) := by decide +kernel
theorem dX4_setShift_0 : decode cX4_setShift 0 = .ok (.bipush 9, 2) := by decide +kernel
theorem dX4_setShift_2 : decode cX4_setShift 2 = .ok (.iload_n 0, 1) := by decide +kernel
theorem dX4_setShift_3 : decode cX4_setShift 3 = .ok (.iconst 1, 1) := by decide +kernel
theorem dX4_setShift_4 : decode cX4_setShift 4 = .ok (.iadd, 1) := by decide +kernel
theorem dX4_setShift_5 : decode cX4_setShift 5 = .ok (.imul, 1) := by decide +kernel
theorem dX4_setShift_6 : decode cX4_setShift 6 = .ok (.ireturn, 1) := by decide +kernel
theorem dX4_behind_0 : decode cX4_behind 0 = .ok (.aload_n 0, 1) := by decide +kernel
theorem dX4_behind_1 : decode cX4_behind 1 = .ok (.getfield 20, 3) := by decide +kernel
theorem dX4_behind_4 : decode cX4_behind 4 = .ok (.iload_n 3, 1) := by decide +kernel
theorem dX4_behind_5 : decode cX4_behind 5 = .ok (.invokevirtual 75, 3) := by decide +kernel
theorem dX4_behind_8 : decode cX4_behind 8 = .ok (.i2l, 1) := by decide +kernel
theorem dX4_behind_9 : decode cX4_behind 9 = .ok (.iload 4, 2) := by decide +kernel
theorem dX4_behind_11 : decode cX4_behind 11 = .ok (.invokestatic 72, 3) := by decide +kernel
theorem dX4_behind_14 : decode cX4_behind 14 = .ok (.lshl, 1) := by decide +kernel
theorem dX4_behind_15 : decode cX4_behind 15 = .ok (.lstore 5, 2) := by decide +kernel
theorem dX4_behind_17 : decode cX4_behind 17 = .ok (.lload_n 1, 1) := by decide +kernel
theorem dX4_behind_18 : decode cX4_behind 18 = .ok (.ldc2_w 59, 3) := by decide +kernel
theorem dX4_behind_21 : decode cX4_behind 21 = .ok (.iload_n 3, 1) := by decide +kernel
theorem dX4_behind_22 : decode cX4_behind 22 = .ok (.lshl, 1) := by decide +kernel
theorem dX4_behind_23 : decode cX4_behind 23 = .ok (.lload 5, 2) := by decide +kernel
theorem dX4_behind_25 : decode cX4_behind 25 = .ok (.lor, 1) := by decide +kernel
theorem dX4_behind_26 : decode cX4_behind 26 = .ok (.ldc2_w 78, 3) := by decide +kernel
theorem dX4_behind_29 : decode cX4_behind 29 = .ok (.lor, 1) := by decide +kernel
theorem dX4_behind_30 : decode cX4_behind 30 = .ok (.ldc2_w 61, 3) := by decide +kernel
theorem dX4_behind_33 : decode cX4_behind 33 = .ok (.lxor, 1) := by decide +kernel
theorem dX4_behind_34 : decode cX4_behind 34 = .ok (.land, 1) := by decide +kernel
theorem dX4_behind_35 : decode cX4_behind 35 = .ok (.iload 4, 2) := by decide +kernel
theorem dX4_behind_37 : decode cX4_behind 37 = .ok (.iconst 1, 1) := by decide +kernel
theorem dX4_behind_38 : decode cX4_behind 38 = .ok (.iadd, 1) := by decide +kernel
theorem dX4_behind_39 : decode cX4_behind 39 = .ok (.i2l, 1) := by decide +kernel
theorem dX4_behind_40 : decode cX4_behind 40 = .ok (.bipush 36, 2) := by decide +kernel
theorem dX4_behind_42 : decode cX4_behind 42 = .ok (.lshl, 1) := by decide +kernel
theorem dX4_behind_43 : decode cX4_behind 43 = .ok (.lor, 1) := by decide +kernel
theorem dX4_behind_44 : decode cX4_behind 44 = .ok (.lreturn, 1) := by decide +kernel
theorem dX4_ofPieces_0 : decode cX4_ofPieces 0 = .ok (.lload_n 1, 1) := by decide +kernel
theorem dX4_ofPieces_1 : decode cX4_ofPieces 1 = .ok (.ldc2_w 80, 3) := by decide +kernel
theorem dX4_ofPieces_4 : decode cX4_ofPieces 4 = .ok (.land, 1) := by decide +kernel
theorem dX4_ofPieces_5 : decode cX4_ofPieces 5 = .ok (.lstore 4, 2) := by decide +kernel
theorem dX4_ofPieces_7 : decode cX4_ofPieces 7 = .ok (.lload_n 1, 1) := by decide +kernel
theorem dX4_ofPieces_8 : decode cX4_ofPieces 8 = .ok (.l2i, 1) := by decide +kernel
theorem dX4_ofPieces_9 : decode cX4_ofPieces 9 = .ok (.sipush 511, 3) := by decide +kernel
theorem dX4_ofPieces_12 : decode cX4_ofPieces 12 = .ok (.iand, 1) := by decide +kernel
theorem dX4_ofPieces_13 : decode cX4_ofPieces 13 = .ok (.istore 6, 2) := by decide +kernel
theorem dX4_ofPieces_15 : decode cX4_ofPieces 15 = .ok (.iconst 0, 1) := by decide +kernel
theorem dX4_ofPieces_16 : decode cX4_ofPieces 16 = .ok (.istore 7, 2) := by decide +kernel
theorem dX4_ofPieces_18 : decode cX4_ofPieces 18 = .ok (.iconst 0, 1) := by decide +kernel
theorem dX4_ofPieces_19 : decode cX4_ofPieces 19 = .ok (.istore 8, 2) := by decide +kernel
theorem dX4_ofPieces_21 : decode cX4_ofPieces 21 = .ok (.iload 8, 2) := by decide +kernel
theorem dX4_ofPieces_23 : decode cX4_ofPieces 23 = .ok (.bipush 9, 2) := by decide +kernel
theorem dX4_ofPieces_25 : decode cX4_ofPieces 25 = .ok (.if_icmp .ge 64, 3) := by decide +kernel
theorem dX4_ofPieces_28 : decode cX4_ofPieces 28 = .ok (.iload 6, 2) := by decide +kernel
theorem dX4_ofPieces_30 : decode cX4_ofPieces 30 = .ok (.ifCond .eq 59, 3) := by decide +kernel
theorem dX4_ofPieces_33 : decode cX4_ofPieces 33 = .ok (.aload_n 0, 1) := by decide +kernel
theorem dX4_ofPieces_34 : decode cX4_ofPieces 34 = .ok (.getfield 20, 3) := by decide +kernel
theorem dX4_ofPieces_37 : decode cX4_ofPieces 37 = .ok (.iload 6, 2) := by decide +kernel
theorem dX4_ofPieces_39 : decode cX4_ofPieces 39 = .ok (.iload 6, 2) := by decide +kernel
theorem dX4_ofPieces_41 : decode cX4_ofPieces 41 = .ok (.ineg, 1) := by decide +kernel
theorem dX4_ofPieces_42 : decode cX4_ofPieces 42 = .ok (.iand, 1) := by decide +kernel
theorem dX4_ofPieces_43 : decode cX4_ofPieces 43 = .ok (.iload 6, 2) := by decide +kernel
theorem dX4_ofPieces_45 : decode cX4_ofPieces 45 = .ok (.invokevirtual 24, 3) := by decide +kernel
theorem dX4_ofPieces_48 : decode cX4_ofPieces 48 = .ok (.istore 9, 2) := by decide +kernel
theorem dX4_ofPieces_50 : decode cX4_ofPieces 50 = .ok (.iload 7, 2) := by decide +kernel
theorem dX4_ofPieces_52 : decode cX4_ofPieces 52 = .ok (.aload_n 0, 1) := by decide +kernel
theorem dX4_ofPieces_53 : decode cX4_ofPieces 53 = .ok (.lload 4, 2) := by decide +kernel
theorem dX4_ofPieces_55 : decode cX4_ofPieces 55 = .ok (.lload_n 1, 1) := by decide +kernel
theorem dX4_ofPieces_56 : decode cX4_ofPieces 56 = .ok (.ldc2_w 59, 3) := by decide +kernel
theorem dX4_ofPieces_59 : decode cX4_ofPieces 59 = .ok (.iload 9, 2) := by decide +kernel
theorem dX4_ofPieces_61 : decode cX4_ofPieces 61 = .ok (.i2l, 1) := by decide +kernel
theorem dX4_ofPieces_62 : decode cX4_ofPieces 62 = .ok (.lmul, 1) := by decide +kernel
theorem dX4_ofPieces_63 : decode cX4_ofPieces 63 = .ok (.land, 1) := by decide +kernel
theorem dX4_ofPieces_64 : decode cX4_ofPieces 64 = .ok (.lor, 1) := by decide +kernel
theorem dX4_ofPieces_65 : decode cX4_ofPieces 65 = .ok (.iload_n 3, 1) := by decide +kernel
theorem dX4_ofPieces_66 : decode cX4_ofPieces 66 = .ok (.invokevirtual 34, 3) := by decide +kernel
theorem dX4_ofPieces_69 : decode cX4_ofPieces 69 = .ok (.invokestatic 38, 3) := by decide +kernel
theorem dX4_ofPieces_72 : decode cX4_ofPieces 72 = .ok (.istore 7, 2) := by decide +kernel
theorem dX4_ofPieces_74 : decode cX4_ofPieces 74 = .ok (.iload 6, 2) := by decide +kernel
theorem dX4_ofPieces_76 : decode cX4_ofPieces 76 = .ok (.iload 9, 2) := by decide +kernel
theorem dX4_ofPieces_78 : decode cX4_ofPieces 78 = .ok (.iconst (-1), 1) := by decide +kernel
theorem dX4_ofPieces_79 : decode cX4_ofPieces 79 = .ok (.ixor, 1) := by decide +kernel
theorem dX4_ofPieces_80 : decode cX4_ofPieces 80 = .ok (.iand, 1) := by decide +kernel
theorem dX4_ofPieces_81 : decode cX4_ofPieces 81 = .ok (.istore 6, 2) := by decide +kernel
theorem dX4_ofPieces_83 : decode cX4_ofPieces 83 = .ok (.iinc 8 1, 3) := by decide +kernel
theorem dX4_ofPieces_86 : decode cX4_ofPieces 86 = .ok (.goto (-65), 3) := by decide +kernel
theorem dX4_ofPieces_89 : decode cX4_ofPieces 89 = .ok (.iload 7, 2) := by decide +kernel
theorem dX4_ofPieces_91 : decode cX4_ofPieces 91 = .ok (.ireturn, 1) := by decide +kernel
theorem dX4_ofPlace_0 : decode cX4_ofPlace 0 = .ok (.lload_n 1, 1) := by decide +kernel
theorem dX4_ofPlace_1 : decode cX4_ofPlace 1 = .ok (.ldc2_w 82, 3) := by decide +kernel
theorem dX4_ofPlace_4 : decode cX4_ofPlace 4 = .ok (.lmul, 1) := by decide +kernel
theorem dX4_ofPlace_5 : decode cX4_ofPlace 5 = .ok (.bipush 49, 2) := by decide +kernel
theorem dX4_ofPlace_7 : decode cX4_ofPlace 7 = .ok (.lushr, 1) := by decide +kernel
theorem dX4_ofPlace_8 : decode cX4_ofPlace 8 = .ok (.l2i, 1) := by decide +kernel
theorem dX4_ofPlace_9 : decode cX4_ofPlace 9 = .ok (.istore 4, 2) := by decide +kernel
theorem dX4_ofPlace_11 : decode cX4_ofPlace 11 = .ok (.iload 4, 2) := by decide +kernel
theorem dX4_ofPlace_13 : decode cX4_ofPlace 13 = .ok (.ifCond .lt 23, 3) := by decide +kernel
theorem dX4_ofPlace_16 : decode cX4_ofPlace 16 = .ok (.iload 4, 2) := by decide +kernel
theorem dX4_ofPlace_18 : decode cX4_ofPlace 18 = .ok (.aload_n 0, 1) := by decide +kernel
theorem dX4_ofPlace_19 : decode cX4_ofPlace 19 = .ok (.getfield 12, 3) := by decide +kernel
theorem dX4_ofPlace_22 : decode cX4_ofPlace 22 = .ok (.arraylength, 1) := by decide +kernel
theorem dX4_ofPlace_23 : decode cX4_ofPlace 23 = .ok (.if_icmp .ge 13, 3) := by decide +kernel
theorem dX4_ofPlace_26 : decode cX4_ofPlace 26 = .ok (.iload 4, 2) := by decide +kernel
theorem dX4_ofPlace_28 : decode cX4_ofPlace 28 = .ok (.aload_n 0, 1) := by decide +kernel
theorem dX4_ofPlace_29 : decode cX4_ofPlace 29 = .ok (.getfield 16, 3) := by decide +kernel
theorem dX4_ofPlace_32 : decode cX4_ofPlace 32 = .ok (.arraylength, 1) := by decide +kernel
theorem dX4_ofPlace_33 : decode cX4_ofPlace 33 = .ok (.if_icmp .lt 5, 3) := by decide +kernel
theorem dX4_ofPlace_36 : decode cX4_ofPlace 36 = .ok (.iconst 0, 1) := by decide +kernel
theorem dX4_ofPlace_37 : decode cX4_ofPlace 37 = .ok (.ireturn, 1) := by decide +kernel
theorem dX4_ofPlace_38 : decode cX4_ofPlace 38 = .ok (.aload_n 0, 1) := by decide +kernel
theorem dX4_ofPlace_39 : decode cX4_ofPlace 39 = .ok (.getfield 12, 3) := by decide +kernel
theorem dX4_ofPlace_42 : decode cX4_ofPlace 42 = .ok (.iload 4, 2) := by decide +kernel
theorem dX4_ofPlace_44 : decode cX4_ofPlace 44 = .ok (.laload, 1) := by decide +kernel
theorem dX4_ofPlace_45 : decode cX4_ofPlace 45 = .ok (.lload_n 1, 1) := by decide +kernel
theorem dX4_ofPlace_46 : decode cX4_ofPlace 46 = .ok (.lcmp, 1) := by decide +kernel
theorem dX4_ofPlace_47 : decode cX4_ofPlace 47 = .ok (.ifCond .eq 28, 3) := by decide +kernel
theorem dX4_ofPlace_50 : decode cX4_ofPlace 50 = .ok (.aload_n 0, 1) := by decide +kernel
theorem dX4_ofPlace_51 : decode cX4_ofPlace 51 = .ok (.lload_n 1, 1) := by decide +kernel
theorem dX4_ofPlace_52 : decode cX4_ofPlace 52 = .ok (.iload_n 3, 1) := by decide +kernel
theorem dX4_ofPlace_53 : decode cX4_ofPlace 53 = .ok (.invokevirtual 84, 3) := by decide +kernel
theorem dX4_ofPlace_56 : decode cX4_ofPlace 56 = .ok (.istore 5, 2) := by decide +kernel
theorem dX4_ofPlace_58 : decode cX4_ofPlace 58 = .ok (.aload_n 0, 1) := by decide +kernel
theorem dX4_ofPlace_59 : decode cX4_ofPlace 59 = .ok (.getfield 12, 3) := by decide +kernel
theorem dX4_ofPlace_62 : decode cX4_ofPlace 62 = .ok (.iload 4, 2) := by decide +kernel
theorem dX4_ofPlace_64 : decode cX4_ofPlace 64 = .ok (.lload_n 1, 1) := by decide +kernel
theorem dX4_ofPlace_65 : decode cX4_ofPlace 65 = .ok (.lastore, 1) := by decide +kernel
theorem dX4_ofPlace_66 : decode cX4_ofPlace 66 = .ok (.aload_n 0, 1) := by decide +kernel
theorem dX4_ofPlace_67 : decode cX4_ofPlace 67 = .ok (.getfield 16, 3) := by decide +kernel
theorem dX4_ofPlace_70 : decode cX4_ofPlace 70 = .ok (.iload 4, 2) := by decide +kernel
theorem dX4_ofPlace_72 : decode cX4_ofPlace 72 = .ok (.iload 5, 2) := by decide +kernel
theorem dX4_ofPlace_74 : decode cX4_ofPlace 74 = .ok (.iastore, 1) := by decide +kernel
theorem dX4_ofPlace_75 : decode cX4_ofPlace 75 = .ok (.aload_n 0, 1) := by decide +kernel
theorem dX4_ofPlace_76 : decode cX4_ofPlace 76 = .ok (.getfield 16, 3) := by decide +kernel
theorem dX4_ofPlace_79 : decode cX4_ofPlace 79 = .ok (.iload 4, 2) := by decide +kernel
theorem dX4_ofPlace_81 : decode cX4_ofPlace 81 = .ok (.iaload, 1) := by decide +kernel
theorem dX4_ofPlace_82 : decode cX4_ofPlace 82 = .ok (.ireturn, 1) := by decide +kernel
theorem dX4_workOut_0 : decode cX4_workOut 0 = .ok (.iload_n 3, 1) := by decide +kernel
theorem dX4_workOut_1 : decode cX4_workOut 1 = .ok (.bipush 9, 2) := by decide +kernel
theorem dX4_workOut_3 : decode cX4_workOut 3 = .ok (.if_icmp .le 5, 3) := by decide +kernel
theorem dX4_workOut_6 : decode cX4_workOut 6 = .ok (.iconst 0, 1) := by decide +kernel
theorem dX4_workOut_7 : decode cX4_workOut 7 = .ok (.ireturn, 1) := by decide +kernel
theorem dX4_workOut_8 : decode cX4_workOut 8 = .ok (.lload_n 1, 1) := by decide +kernel
theorem dX4_workOut_9 : decode cX4_workOut 9 = .ok (.l2i, 1) := by decide +kernel
theorem dX4_workOut_10 : decode cX4_workOut 10 = .ok (.sipush 511, 3) := by decide +kernel
theorem dX4_workOut_13 : decode cX4_workOut 13 = .ok (.iand, 1) := by decide +kernel
theorem dX4_workOut_14 : decode cX4_workOut 14 = .ok (.istore 4, 2) := by decide +kernel
theorem dX4_workOut_16 : decode cX4_workOut 16 = .ok (.iload 4, 2) := by decide +kernel
theorem dX4_workOut_18 : decode cX4_workOut 18 = .ok (.iload 4, 2) := by decide +kernel
theorem dX4_workOut_20 : decode cX4_workOut 20 = .ok (.iconst 1, 1) := by decide +kernel
theorem dX4_workOut_21 : decode cX4_workOut 21 = .ok (.isub, 1) := by decide +kernel
theorem dX4_workOut_22 : decode cX4_workOut 22 = .ok (.iand, 1) := by decide +kernel
theorem dX4_workOut_23 : decode cX4_workOut 23 = .ok (.ifCond .ne 7, 3) := by decide +kernel
theorem dX4_workOut_26 : decode cX4_workOut 26 = .ok (.iconst 1, 1) := by decide +kernel
theorem dX4_workOut_27 : decode cX4_workOut 27 = .ok (.goto 4, 3) := by decide +kernel
theorem dX4_workOut_30 : decode cX4_workOut 30 = .ok (.iconst 0, 1) := by decide +kernel
theorem dX4_workOut_31 : decode cX4_workOut 31 = .ok (.istore 5, 2) := by decide +kernel
theorem dX4_workOut_33 : decode cX4_workOut 33 = .ok (.lload_n 1, 1) := by decide +kernel
theorem dX4_workOut_34 : decode cX4_workOut 34 = .ok (.bipush 36, 2) := by decide +kernel
theorem dX4_workOut_36 : decode cX4_workOut 36 = .ok (.lushr, 1) := by decide +kernel
theorem dX4_workOut_37 : decode cX4_workOut 37 = .ok (.ldc2_w 87, 3) := by decide +kernel
theorem dX4_workOut_40 : decode cX4_workOut 40 = .ok (.land, 1) := by decide +kernel
theorem dX4_workOut_41 : decode cX4_workOut 41 = .ok (.l2i, 1) := by decide +kernel
theorem dX4_workOut_42 : decode cX4_workOut 42 = .ok (.iconst 1, 1) := by decide +kernel
theorem dX4_workOut_43 : decode cX4_workOut 43 = .ok (.isub, 1) := by decide +kernel
theorem dX4_workOut_44 : decode cX4_workOut 44 = .ok (.istore 6, 2) := by decide +kernel
theorem dX4_workOut_46 : decode cX4_workOut 46 = .ok (.iconst 0, 1) := by decide +kernel
theorem dX4_workOut_47 : decode cX4_workOut 47 = .ok (.istore 7, 2) := by decide +kernel
theorem dX4_workOut_49 : decode cX4_workOut 49 = .ok (.iconst 0, 1) := by decide +kernel
theorem dX4_workOut_50 : decode cX4_workOut 50 = .ok (.istore 8, 2) := by decide +kernel
theorem dX4_workOut_52 : decode cX4_workOut 52 = .ok (.bipush 10, 2) := by decide +kernel
theorem dX4_workOut_54 : decode cX4_workOut 54 = .ok (.istore 9, 2) := by decide +kernel
theorem dX4_workOut_56 : decode cX4_workOut 56 = .ok (.iconst 0, 1) := by decide +kernel
theorem dX4_workOut_57 : decode cX4_workOut 57 = .ok (.istore 10, 2) := by decide +kernel
theorem dX4_workOut_59 : decode cX4_workOut 59 = .ok (.iload 10, 2) := by decide +kernel
theorem dX4_workOut_61 : decode cX4_workOut 61 = .ok (.iconst 3, 1) := by decide +kernel
theorem dX4_workOut_62 : decode cX4_workOut 62 = .ok (.if_icmp .ge 123, 3) := by decide +kernel
theorem dX4_workOut_65 : decode cX4_workOut 65 = .ok (.iload 10, 2) := by decide +kernel
theorem dX4_workOut_67 : decode cX4_workOut 67 = .ok (.iload 6, 2) := by decide +kernel
theorem dX4_workOut_69 : decode cX4_workOut 69 = .ok (.if_icmp .ne 12, 3) := by decide +kernel
theorem dX4_workOut_72 : decode cX4_workOut 72 = .ok (.iload 5, 2) := by decide +kernel
theorem dX4_workOut_74 : decode cX4_workOut 74 = .ok (.ifCond .ne 7, 3) := by decide +kernel
theorem dX4_workOut_77 : decode cX4_workOut 77 = .ok (.iconst 0, 1) := by decide +kernel
theorem dX4_workOut_78 : decode cX4_workOut 78 = .ok (.goto 15, 3) := by decide +kernel
theorem dX4_workOut_81 : decode cX4_workOut 81 = .ok (.lload_n 1, 1) := by decide +kernel
theorem dX4_workOut_82 : decode cX4_workOut 82 = .ok (.iload 10, 2) := by decide +kernel
theorem dX4_workOut_84 : decode cX4_workOut 84 = .ok (.invokestatic 72, 3) := by decide +kernel
theorem dX4_workOut_87 : decode cX4_workOut 87 = .ok (.lushr, 1) := by decide +kernel
theorem dX4_workOut_88 : decode cX4_workOut 88 = .ok (.l2i, 1) := by decide +kernel
theorem dX4_workOut_89 : decode cX4_workOut 89 = .ok (.sipush 511, 3) := by decide +kernel
theorem dX4_workOut_92 : decode cX4_workOut 92 = .ok (.iand, 1) := by decide +kernel
theorem dX4_workOut_93 : decode cX4_workOut 93 = .ok (.istore 11, 2) := by decide +kernel
theorem dX4_workOut_95 : decode cX4_workOut 95 = .ok (.iconst 0, 1) := by decide +kernel
theorem dX4_workOut_96 : decode cX4_workOut 96 = .ok (.istore 12, 2) := by decide +kernel
theorem dX4_workOut_98 : decode cX4_workOut 98 = .ok (.iload 12, 2) := by decide +kernel
theorem dX4_workOut_100 : decode cX4_workOut 100 = .ok (.bipush 9, 2) := by decide +kernel
theorem dX4_workOut_102 : decode cX4_workOut 102 = .ok (.if_icmp .ge 77, 3) := by decide +kernel
theorem dX4_workOut_105 : decode cX4_workOut 105 = .ok (.iload 11, 2) := by decide +kernel
theorem dX4_workOut_107 : decode cX4_workOut 107 = .ok (.iload 12, 2) := by decide +kernel
theorem dX4_workOut_109 : decode cX4_workOut 109 = .ok (.invokestatic 89, 3) := by decide +kernel
theorem dX4_workOut_112 : decode cX4_workOut 112 = .ok (.ifCond .eq 61, 3) := by decide +kernel
theorem dX4_workOut_115 : decode cX4_workOut 115 = .ok (.aload_n 0, 1) := by decide +kernel
theorem dX4_workOut_116 : decode cX4_workOut 116 = .ok (.aload_n 0, 1) := by decide +kernel
theorem dX4_workOut_117 : decode cX4_workOut 117 = .ok (.lload_n 1, 1) := by decide +kernel
theorem dX4_workOut_118 : decode cX4_workOut 118 = .ok (.iload 12, 2) := by decide +kernel
theorem dX4_workOut_120 : decode cX4_workOut 120 = .ok (.iload 10, 2) := by decide +kernel
theorem dX4_workOut_122 : decode cX4_workOut 122 = .ok (.invokevirtual 45, 3) := by decide +kernel
theorem dX4_workOut_125 : decode cX4_workOut 125 = .ok (.iload_n 3, 1) := by decide +kernel
theorem dX4_workOut_126 : decode cX4_workOut 126 = .ok (.iconst 1, 1) := by decide +kernel
theorem dX4_workOut_127 : decode cX4_workOut 127 = .ok (.iadd, 1) := by decide +kernel
theorem dX4_workOut_128 : decode cX4_workOut 128 = .ok (.invokevirtual 56, 3) := by decide +kernel
theorem dX4_workOut_131 : decode cX4_workOut 131 = .ok (.istore 13, 2) := by decide +kernel
theorem dX4_workOut_133 : decode cX4_workOut 133 = .ok (.iload 7, 2) := by decide +kernel
theorem dX4_workOut_135 : decode cX4_workOut 135 = .ok (.iconst 1, 1) := by decide +kernel
theorem dX4_workOut_136 : decode cX4_workOut 136 = .ok (.iload 13, 2) := by decide +kernel
theorem dX4_workOut_138 : decode cX4_workOut 138 = .ok (.invokestatic 93, 3) := by decide +kernel
theorem dX4_workOut_141 : decode cX4_workOut 141 = .ok (.ishl, 1) := by decide +kernel
theorem dX4_workOut_142 : decode cX4_workOut 142 = .ok (.ior, 1) := by decide +kernel
theorem dX4_workOut_143 : decode cX4_workOut 143 = .ok (.istore 7, 2) := by decide +kernel
theorem dX4_workOut_145 : decode cX4_workOut 145 = .ok (.iload 8, 2) := by decide +kernel
theorem dX4_workOut_147 : decode cX4_workOut 147 = .ok (.iload 13, 2) := by decide +kernel
theorem dX4_workOut_149 : decode cX4_workOut 149 = .ok (.invokestatic 96, 3) := by decide +kernel
theorem dX4_workOut_152 : decode cX4_workOut 152 = .ok (.iconst 1, 1) := by decide +kernel
theorem dX4_workOut_153 : decode cX4_workOut 153 = .ok (.iadd, 1) := by decide +kernel
theorem dX4_workOut_154 : decode cX4_workOut 154 = .ok (.invokestatic 99, 3) := by decide +kernel
theorem dX4_workOut_157 : decode cX4_workOut 157 = .ok (.istore 8, 2) := by decide +kernel
theorem dX4_workOut_159 : decode cX4_workOut 159 = .ok (.iload 9, 2) := by decide +kernel
theorem dX4_workOut_161 : decode cX4_workOut 161 = .ok (.iload 13, 2) := by decide +kernel
theorem dX4_workOut_163 : decode cX4_workOut 163 = .ok (.invokestatic 104, 3) := by decide +kernel
theorem dX4_workOut_166 : decode cX4_workOut 166 = .ok (.iconst 1, 1) := by decide +kernel
theorem dX4_workOut_167 : decode cX4_workOut 167 = .ok (.iadd, 1) := by decide +kernel
theorem dX4_workOut_168 : decode cX4_workOut 168 = .ok (.invokestatic 107, 3) := by decide +kernel
theorem dX4_workOut_171 : decode cX4_workOut 171 = .ok (.istore 9, 2) := by decide +kernel
theorem dX4_workOut_173 : decode cX4_workOut 173 = .ok (.iinc 12 1, 3) := by decide +kernel
theorem dX4_workOut_176 : decode cX4_workOut 176 = .ok (.goto (-78), 3) := by decide +kernel
theorem dX4_workOut_179 : decode cX4_workOut 179 = .ok (.iinc 10 1, 3) := by decide +kernel
theorem dX4_workOut_182 : decode cX4_workOut 182 = .ok (.goto (-123), 3) := by decide +kernel
theorem dX4_workOut_185 : decode cX4_workOut 185 = .ok (.iload 7, 2) := by decide +kernel
theorem dX4_workOut_187 : decode cX4_workOut 187 = .ok (.ifCond .ne 7, 3) := by decide +kernel
theorem dX4_workOut_190 : decode cX4_workOut 190 = .ok (.iconst 0, 1) := by decide +kernel
theorem dX4_workOut_191 : decode cX4_workOut 191 = .ok (.goto 17, 3) := by decide +kernel
theorem dX4_workOut_194 : decode cX4_workOut 194 = .ok (.iload 7, 2) := by decide +kernel
theorem dX4_workOut_196 : decode cX4_workOut 196 = .ok (.iconst (-1), 1) := by decide +kernel
theorem dX4_workOut_197 : decode cX4_workOut 197 = .ok (.ixor, 1) := by decide +kernel
theorem dX4_workOut_198 : decode cX4_workOut 198 = .ok (.invokestatic 110, 3) := by decide +kernel
theorem dX4_workOut_201 : decode cX4_workOut 201 = .ok (.iload 8, 2) := by decide +kernel
theorem dX4_workOut_203 : decode cX4_workOut 203 = .ok (.iload 9, 2) := by decide +kernel
theorem dX4_workOut_205 : decode cX4_workOut 205 = .ok (.invokestatic 113, 3) := by decide +kernel
theorem dX4_workOut_208 : decode cX4_workOut 208 = .ok (.ireturn, 1) := by decide +kernel
theorem dX5_init_0 : decode cX5_init 0 = .ok (.aload_n 0, 1) := by decide +kernel
theorem dX5_init_1 : decode cX5_init 1 = .ok (.invokespecial 1, 3) := by decide +kernel
theorem dX5_init_4 : decode cX5_init 4 = .ok (.aload_n 0, 1) := by decide +kernel
theorem dX5_init_5 : decode cX5_init 5 = .ok (.new 7, 3) := by decide +kernel
theorem dX5_init_8 : decode cX5_init 8 = .ok (.dup, 1) := by decide +kernel
theorem dX5_init_9 : decode cX5_init 9 = .ok (.invokespecial 9, 3) := by decide +kernel
theorem dX5_init_12 : decode cX5_init 12 = .ok (.putfield 10, 3) := by decide +kernel
theorem dX5_init_15 : decode cX5_init 15 = .ok (.aload_n 0, 1) := by decide +kernel
theorem dX5_init_16 : decode cX5_init 16 = .ok (.new 16, 3) := by decide +kernel
theorem dX5_init_19 : decode cX5_init 19 = .ok (.dup, 1) := by decide +kernel
theorem dX5_init_20 : decode cX5_init 20 = .ok (.aload_n 0, 1) := by decide +kernel
theorem dX5_init_21 : decode cX5_init 21 = .ok (.getfield 10, 3) := by decide +kernel
theorem dX5_init_24 : decode cX5_init 24 = .ok (.invokespecial 18, 3) := by decide +kernel
theorem dX5_init_27 : decode cX5_init 27 = .ok (.putfield 21, 3) := by decide +kernel
theorem dX5_init_30 : decode cX5_init 30 = .ok (.aload_n 0, 1) := by decide +kernel
theorem dX5_init_31 : decode cX5_init 31 = .ok (.new 25, 3) := by decide +kernel
theorem dX5_init_34 : decode cX5_init 34 = .ok (.dup, 1) := by decide +kernel
theorem dX5_init_35 : decode cX5_init 35 = .ok (.new 7, 3) := by decide +kernel
theorem dX5_init_38 : decode cX5_init 38 = .ok (.dup, 1) := by decide +kernel
theorem dX5_init_39 : decode cX5_init 39 = .ok (.invokespecial 9, 3) := by decide +kernel
theorem dX5_init_42 : decode cX5_init 42 = .ok (.invokespecial 27, 3) := by decide +kernel
theorem dX5_init_45 : decode cX5_init 45 = .ok (.putfield 28, 3) := by decide +kernel
theorem dX5_init_48 : decode cX5_init 48 = .ok (.aload_n 0, 1) := by decide +kernel
theorem dX5_init_49 : decode cX5_init 49 = .ok (.new 32, 3) := by decide +kernel
theorem dX5_init_52 : decode cX5_init 52 = .ok (.dup, 1) := by decide +kernel
theorem dX5_init_53 : decode cX5_init 53 = .ok (.invokespecial 34, 3) := by decide +kernel
theorem dX5_init_56 : decode cX5_init 56 = .ok (.putfield 35, 3) := by decide +kernel
theorem dX5_init_59 : decode cX5_init 59 = .ok (.aload_n 0, 1) := by decide +kernel
theorem dX5_init_60 : decode cX5_init 60 = .ok (.iconst 2, 1) := by decide +kernel
theorem dX5_init_61 : decode cX5_init 61 = .ok (.anewarray 7, 3) := by decide +kernel
theorem dX5_init_64 : decode cX5_init 64 = .ok (.putfield 39, 3) := by decide +kernel
theorem dX5_init_67 : decode cX5_init 67 = .ok (.aload_n 0, 1) := by decide +kernel
theorem dX5_init_68 : decode cX5_init 68 = .ok (.bipush 13, 2) := by decide +kernel
theorem dX5_init_70 : decode cX5_init 70 = .ok (.newarray .byte, 2) := by decide +kernel
theorem dX5_init_72 : decode cX5_init 72 = .ok (.putfield 43, 3) := by decide +kernel
theorem dX5_init_75 : decode cX5_init 75 = .ok (.return_, 1) := by decide +kernel
theorem dX5_append_0 : decode cX5_append 0 = .ok (.aload_n 0, 1) := by decide +kernel
theorem dX5_append_1 : decode cX5_append 1 = .ok (.getfield 28, 3) := by decide +kernel
theorem dX5_append_4 : decode cX5_append 4 = .ok (.getfield 47, 3) := by decide +kernel
theorem dX5_append_7 : decode cX5_append 7 = .ok (.bipush 20, 2) := by decide +kernel
theorem dX5_append_9 : decode cX5_append 9 = .ok (.iadd, 1) := by decide +kernel
theorem dX5_append_10 : decode cX5_append 10 = .ok (.sipush 500, 3) := by decide +kernel
theorem dX5_append_13 : decode cX5_append 13 = .ok (.if_icmp .le 13, 3) := by decide +kernel
theorem dX5_append_16 : decode cX5_append 16 = .ok (.new 51, 3) := by decide +kernel
theorem dX5_append_19 : decode cX5_append 19 = .ok (.dup, 1) := by decide +kernel
theorem dX5_append_20 : decode cX5_append 20 = .ok (.ldc 53, 2) := by decide +kernel
theorem dX5_append_22 : decode cX5_append 22 = .ok (.invokespecial 55, 3) := by decide +kernel
theorem dX5_append_25 : decode cX5_append 25 = .ok (.athrow, 1) := by decide +kernel
theorem dX5_append_26 : decode cX5_append 26 = .ok (.aload_n 0, 1) := by decide +kernel
theorem dX5_append_27 : decode cX5_append 27 = .ok (.getfield 28, 3) := by decide +kernel
theorem dX5_append_30 : decode cX5_append 30 = .ok (.iload_n 1, 1) := by decide +kernel
theorem dX5_append_31 : decode cX5_append 31 = .ok (.invokevirtual 58, 3) := by decide +kernel
theorem dX5_append_34 : decode cX5_append 34 = .ok (.aload_n 0, 1) := by decide +kernel
theorem dX5_append_35 : decode cX5_append 35 = .ok (.getfield 28, 3) := by decide +kernel
theorem dX5_append_38 : decode cX5_append 38 = .ok (.iload_n 2, 1) := by decide +kernel
theorem dX5_append_39 : decode cX5_append 39 = .ok (.invokevirtual 58, 3) := by decide +kernel
theorem dX5_append_42 : decode cX5_append 42 = .ok (.aload_n 0, 1) := by decide +kernel
theorem dX5_append_43 : decode cX5_append 43 = .ok (.getfield 28, 3) := by decide +kernel
theorem dX5_append_46 : decode cX5_append 46 = .ok (.iload_n 3, 1) := by decide +kernel
theorem dX5_append_47 : decode cX5_append 47 = .ok (.invokevirtual 58, 3) := by decide +kernel
theorem dX5_append_50 : decode cX5_append 50 = .ok (.aload_n 0, 1) := by decide +kernel
theorem dX5_append_51 : decode cX5_append 51 = .ok (.getfield 28, 3) := by decide +kernel
theorem dX5_append_54 : decode cX5_append 54 = .ok (.iload 4, 2) := by decide +kernel
theorem dX5_append_56 : decode cX5_append 56 = .ok (.invokevirtual 58, 3) := by decide +kernel
theorem dX5_append_59 : decode cX5_append 59 = .ok (.aload_n 0, 1) := by decide +kernel
theorem dX5_append_60 : decode cX5_append 60 = .ok (.getfield 28, 3) := by decide +kernel
theorem dX5_append_63 : decode cX5_append 63 = .ok (.iload 5, 2) := by decide +kernel
theorem dX5_append_65 : decode cX5_append 65 = .ok (.invokevirtual 58, 3) := by decide +kernel
theorem dX5_append_68 : decode cX5_append 68 = .ok (.aload_n 0, 1) := by decide +kernel
theorem dX5_append_69 : decode cX5_append 69 = .ok (.getfield 28, 3) := by decide +kernel
theorem dX5_append_72 : decode cX5_append 72 = .ok (.getfield 47, 3) := by decide +kernel
theorem dX5_append_75 : decode cX5_append 75 = .ok (.ireturn, 1) := by decide +kernel
theorem dX5_load_0 : decode cX5_load 0 = .ok (.iload_n 1, 1) := by decide +kernel
theorem dX5_load_1 : decode cX5_load 1 = .ok (.ifCond .lt 14, 3) := by decide +kernel
theorem dX5_load_4 : decode cX5_load 4 = .ok (.iload_n 1, 1) := by decide +kernel
theorem dX5_load_5 : decode cX5_load 5 = .ok (.aload_n 0, 1) := by decide +kernel
theorem dX5_load_6 : decode cX5_load 6 = .ok (.getfield 28, 3) := by decide +kernel
theorem dX5_load_9 : decode cX5_load 9 = .ok (.getfield 47, 3) := by decide +kernel
theorem dX5_load_12 : decode cX5_load 12 = .ok (.if_icmp .le 13, 3) := by decide +kernel
theorem dX5_load_15 : decode cX5_load 15 = .ok (.new 62, 3) := by decide +kernel
theorem dX5_load_18 : decode cX5_load 18 = .ok (.dup, 1) := by decide +kernel
theorem dX5_load_19 : decode cX5_load 19 = .ok (.ldc 64, 2) := by decide +kernel
theorem dX5_load_21 : decode cX5_load 21 = .ok (.invokespecial 66, 3) := by decide +kernel
theorem dX5_load_24 : decode cX5_load 24 = .ok (.athrow, 1) := by decide +kernel
theorem dX5_load_25 : decode cX5_load 25 = .ok (.aload_n 0, 1) := by decide +kernel
theorem dX5_load_26 : decode cX5_load 26 = .ok (.getfield 28, 3) := by decide +kernel
theorem dX5_load_29 : decode cX5_load 29 = .ok (.iload_n 1, 1) := by decide +kernel
theorem dX5_load_30 : decode cX5_load 30 = .ok (.invokevirtual 67, 3) := by decide +kernel
theorem dX5_load_33 : decode cX5_load 33 = .ok (.istore_n 2, 1) := by decide +kernel
theorem dX5_load_34 : decode cX5_load 34 = .ok (.iload_n 2, 1) := by decide +kernel
theorem dX5_load_35 : decode cX5_load 35 = .ok (.ifCond .eq 5, 3) := by decide +kernel
theorem dX5_load_38 : decode cX5_load 38 = .ok (.iload_n 2, 1) := by decide +kernel
theorem dX5_load_39 : decode cX5_load 39 = .ok (.ireturn, 1) := by decide +kernel
theorem dX5_load_40 : decode cX5_load 40 = .ok (.aload_n 0, 1) := by decide +kernel
theorem dX5_load_41 : decode cX5_load 41 = .ok (.getfield 35, 3) := by decide +kernel
theorem dX5_load_44 : decode cX5_load 44 = .ok (.aload_n 0, 1) := by decide +kernel
theorem dX5_load_45 : decode cX5_load 45 = .ok (.getfield 10, 3) := by decide +kernel
theorem dX5_load_48 : decode cX5_load 48 = .ok (.invokevirtual 71, 3) := by decide +kernel
theorem dX5_load_51 : decode cX5_load 51 = .ok (.aload_n 0, 1) := by decide +kernel
theorem dX5_load_52 : decode cX5_load 52 = .ok (.dup, 1) := by decide +kernel
theorem dX5_load_53 : decode cX5_load 53 = .ok (.getfield 74, 3) := by decide +kernel
theorem dX5_load_56 : decode cX5_load 56 = .ok (.iconst 1, 1) := by decide +kernel
theorem dX5_load_57 : decode cX5_load 57 = .ok (.iadd, 1) := by decide +kernel
theorem dX5_load_58 : decode cX5_load 58 = .ok (.putfield 74, 3) := by decide +kernel
theorem dX5_load_61 : decode cX5_load 61 = .ok (.aload_n 0, 1) := by decide +kernel
theorem dX5_load_62 : decode cX5_load 62 = .ok (.getfield 10, 3) := by decide +kernel
theorem dX5_load_65 : decode cX5_load 65 = .ok (.aload_n 0, 1) := by decide +kernel
theorem dX5_load_66 : decode cX5_load 66 = .ok (.getfield 28, 3) := by decide +kernel
theorem dX5_load_69 : decode cX5_load 69 = .ok (.getfield 77, 3) := by decide +kernel
theorem dX5_load_72 : decode cX5_load 72 = .ok (.invokevirtual 80, 3) := by decide +kernel
theorem dX5_load_75 : decode cX5_load 75 = .ok (.aload_n 0, 1) := by decide +kernel
theorem dX5_load_76 : decode cX5_load 76 = .ok (.getfield 10, 3) := by decide +kernel
theorem dX5_load_79 : decode cX5_load 79 = .ok (.aload_n 0, 1) := by decide +kernel
theorem dX5_load_80 : decode cX5_load 80 = .ok (.getfield 74, 3) := by decide +kernel
theorem dX5_load_83 : decode cX5_load 83 = .ok (.putfield 83, 3) := by decide +kernel
theorem dX5_load_86 : decode cX5_load 86 = .ok (.aload_n 0, 1) := by decide +kernel
theorem dX5_load_87 : decode cX5_load 87 = .ok (.getfield 10, 3) := by decide +kernel
theorem dX5_load_90 : decode cX5_load 90 = .ok (.getfield 86, 3) := by decide +kernel
theorem dX5_load_93 : decode cX5_load 93 = .ok (.ireturn, 1) := by decide +kernel
theorem dX5_errorPosition_0 : decode cX5_errorPosition 0 = .ok (.aload_n 0, 1) := by decide +kernel
theorem dX5_errorPosition_1 : decode cX5_errorPosition 1 = .ok (.getfield 28, 3) := by decide +kernel
theorem dX5_errorPosition_4 : decode cX5_errorPosition 4 = .ok (.getfield 89, 3) := by decide +kernel
theorem dX5_errorPosition_7 : decode cX5_errorPosition 7 = .ok (.ireturn, 1) := by decide +kernel
theorem dX5_count_0 : decode cX5_count 0 = .ok (.iload_n 1, 1) := by decide +kernel
theorem dX5_count_1 : decode cX5_count 1 = .ok (.tableswitch 219 0 12 #[67, 75, 90, 98, 106, 117, 132, 140, 148, 164, 188, 203, 211], 67) := by decide +kernel
theorem dX5_count_68 : decode cX5_count 68 = .ok (.aload_n 0, 1) := by decide +kernel
theorem dX5_count_69 : decode cX5_count 69 = .ok (.getfield 10, 3) := by decide +kernel
theorem dX5_count_72 : decode cX5_count 72 = .ok (.getfield 86, 3) := by decide +kernel
theorem dX5_count_75 : decode cX5_count 75 = .ok (.ireturn, 1) := by decide +kernel
theorem dX5_count_76 : decode cX5_count 76 = .ok (.aload_n 0, 1) := by decide +kernel
theorem dX5_count_77 : decode cX5_count 77 = .ok (.getfield 10, 3) := by decide +kernel
theorem dX5_count_80 : decode cX5_count 80 = .ok (.aload_n 0, 1) := by decide +kernel
theorem dX5_count_81 : decode cX5_count 81 = .ok (.getfield 10, 3) := by decide +kernel
theorem dX5_count_84 : decode cX5_count 84 = .ok (.invokevirtual 92, 3) := by decide +kernel
theorem dX5_count_87 : decode cX5_count 87 = .ok (.invokevirtual 96, 3) := by decide +kernel
theorem dX5_count_90 : decode cX5_count 90 = .ok (.ireturn, 1) := by decide +kernel
theorem dX5_count_91 : decode cX5_count 91 = .ok (.aload_n 0, 1) := by decide +kernel
theorem dX5_count_92 : decode cX5_count 92 = .ok (.getfield 10, 3) := by decide +kernel
theorem dX5_count_95 : decode cX5_count 95 = .ok (.getfield 99, 3) := by decide +kernel
theorem dX5_count_98 : decode cX5_count 98 = .ok (.ireturn, 1) := by decide +kernel
theorem dX5_count_99 : decode cX5_count 99 = .ok (.aload_n 0, 1) := by decide +kernel
theorem dX5_count_100 : decode cX5_count 100 = .ok (.getfield 10, 3) := by decide +kernel
theorem dX5_count_103 : decode cX5_count 103 = .ok (.getfield 102, 3) := by decide +kernel
theorem dX5_count_106 : decode cX5_count 106 = .ok (.ireturn, 1) := by decide +kernel
theorem dX5_count_107 : decode cX5_count 107 = .ok (.aload_n 0, 1) := by decide +kernel
theorem dX5_count_108 : decode cX5_count 108 = .ok (.getfield 10, 3) := by decide +kernel
theorem dX5_count_111 : decode cX5_count 111 = .ok (.getfield 105, 3) := by decide +kernel
theorem dX5_count_114 : decode cX5_count 114 = .ok (.invokestatic 108, 3) := by decide +kernel
theorem dX5_count_117 : decode cX5_count 117 = .ok (.ireturn, 1) := by decide +kernel
theorem dX5_count_118 : decode cX5_count 118 = .ok (.aload_n 0, 1) := by decide +kernel
theorem dX5_count_119 : decode cX5_count 119 = .ok (.getfield 10, 3) := by decide +kernel
theorem dX5_count_122 : decode cX5_count 122 = .ok (.aload_n 0, 1) := by decide +kernel
theorem dX5_count_123 : decode cX5_count 123 = .ok (.getfield 10, 3) := by decide +kernel
theorem dX5_count_126 : decode cX5_count 126 = .ok (.getfield 105, 3) := by decide +kernel
theorem dX5_count_129 : decode cX5_count 129 = .ok (.invokevirtual 113, 3) := by decide +kernel
theorem dX5_count_132 : decode cX5_count 132 = .ok (.ireturn, 1) := by decide +kernel
theorem dX5_count_133 : decode cX5_count 133 = .ok (.aload_n 0, 1) := by decide +kernel
theorem dX5_count_134 : decode cX5_count 134 = .ok (.getfield 10, 3) := by decide +kernel
theorem dX5_count_137 : decode cX5_count 137 = .ok (.invokevirtual 116, 3) := by decide +kernel
theorem dX5_count_140 : decode cX5_count 140 = .ok (.ireturn, 1) := by decide +kernel
theorem dX5_count_141 : decode cX5_count 141 = .ok (.aload_n 0, 1) := by decide +kernel
theorem dX5_count_142 : decode cX5_count 142 = .ok (.getfield 10, 3) := by decide +kernel
theorem dX5_count_145 : decode cX5_count 145 = .ok (.getfield 119, 3) := by decide +kernel
theorem dX5_count_148 : decode cX5_count 148 = .ok (.ireturn, 1) := by decide +kernel
theorem dX5_count_149 : decode cX5_count 149 = .ok (.aload_n 0, 1) := by decide +kernel
theorem dX5_count_150 : decode cX5_count 150 = .ok (.getfield 10, 3) := by decide +kernel
theorem dX5_count_153 : decode cX5_count 153 = .ok (.invokevirtual 122, 3) := by decide +kernel
theorem dX5_count_156 : decode cX5_count 156 = .ok (.ifCond .eq 7, 3) := by decide +kernel
theorem dX5_count_159 : decode cX5_count 159 = .ok (.iconst 1, 1) := by decide +kernel
theorem dX5_count_160 : decode cX5_count 160 = .ok (.goto 4, 3) := by decide +kernel
theorem dX5_count_163 : decode cX5_count 163 = .ok (.iconst 0, 1) := by decide +kernel
theorem dX5_count_164 : decode cX5_count 164 = .ok (.ireturn, 1) := by decide +kernel
theorem dX5_count_165 : decode cX5_count 165 = .ok (.aload_n 0, 1) := by decide +kernel
theorem dX5_count_166 : decode cX5_count 166 = .ok (.getfield 10, 3) := by decide +kernel
theorem dX5_count_169 : decode cX5_count 169 = .ok (.invokevirtual 122, 3) := by decide +kernel
theorem dX5_count_172 : decode cX5_count 172 = .ok (.ifCond .eq 15, 3) := by decide +kernel
theorem dX5_count_175 : decode cX5_count 175 = .ok (.iconst 1, 1) := by decide +kernel
theorem dX5_count_176 : decode cX5_count 176 = .ok (.aload_n 0, 1) := by decide +kernel
theorem dX5_count_177 : decode cX5_count 177 = .ok (.getfield 10, 3) := by decide +kernel
theorem dX5_count_180 : decode cX5_count 180 = .ok (.invokevirtual 116, 3) := by decide +kernel
theorem dX5_count_183 : decode cX5_count 183 = .ok (.isub, 1) := by decide +kernel
theorem dX5_count_184 : decode cX5_count 184 = .ok (.goto 4, 3) := by decide +kernel
theorem dX5_count_187 : decode cX5_count 187 = .ok (.iconst (-1), 1) := by decide +kernel
theorem dX5_count_188 : decode cX5_count 188 = .ok (.ireturn, 1) := by decide +kernel
theorem dX5_count_189 : decode cX5_count 189 = .ok (.aload_n 0, 1) := by decide +kernel
theorem dX5_count_190 : decode cX5_count 190 = .ok (.getfield 10, 3) := by decide +kernel
theorem dX5_count_193 : decode cX5_count 193 = .ok (.aload_n 0, 1) := by decide +kernel
theorem dX5_count_194 : decode cX5_count 194 = .ok (.getfield 10, 3) := by decide +kernel
theorem dX5_count_197 : decode cX5_count 197 = .ok (.getfield 105, 3) := by decide +kernel
theorem dX5_count_200 : decode cX5_count 200 = .ok (.invokevirtual 126, 3) := by decide +kernel
theorem dX5_count_203 : decode cX5_count 203 = .ok (.ireturn, 1) := by decide +kernel
theorem dX5_count_204 : decode cX5_count 204 = .ok (.aload_n 0, 1) := by decide +kernel
theorem dX5_count_205 : decode cX5_count 205 = .ok (.getfield 10, 3) := by decide +kernel
theorem dX5_count_208 : decode cX5_count 208 = .ok (.invokevirtual 129, 3) := by decide +kernel
theorem dX5_count_211 : decode cX5_count 211 = .ok (.ireturn, 1) := by decide +kernel
theorem dX5_count_212 : decode cX5_count 212 = .ok (.aload_n 0, 1) := by decide +kernel
theorem dX5_count_213 : decode cX5_count 213 = .ok (.getfield 10, 3) := by decide +kernel
theorem dX5_count_216 : decode cX5_count 216 = .ok (.invokevirtual 132, 3) := by decide +kernel
theorem dX5_count_219 : decode cX5_count 219 = .ok (.ireturn, 1) := by decide +kernel
theorem dX5_count_220 : decode cX5_count 220 = .ok (.new 62, 3) := by decide +kernel
theorem dX5_count_223 : decode cX5_count 223 = .ok (.dup, 1) := by decide +kernel
theorem dX5_count_224 : decode cX5_count 224 = .ok (.ldc 135, 2) := by decide +kernel
theorem dX5_count_226 : decode cX5_count 226 = .ok (.invokespecial 66, 3) := by decide +kernel
theorem dX5_count_229 : decode cX5_count 229 = .ok (.athrow, 1) := by decide +kernel
theorem dX5_vertex_0 : decode cX5_vertex 0 = .ok (.aload_n 0, 1) := by decide +kernel
theorem dX5_vertex_1 : decode cX5_vertex 1 = .ok (.getfield 10, 3) := by decide +kernel
theorem dX5_vertex_4 : decode cX5_vertex 4 = .ok (.iload_n 1, 1) := by decide +kernel
theorem dX5_vertex_5 : decode cX5_vertex 5 = .ok (.invokevirtual 137, 3) := by decide +kernel
theorem dX5_vertex_8 : decode cX5_vertex 8 = .ok (.ifCond .ne 13, 3) := by decide +kernel
theorem dX5_vertex_11 : decode cX5_vertex 11 = .ok (.new 141, 3) := by decide +kernel
theorem dX5_vertex_14 : decode cX5_vertex 14 = .ok (.dup, 1) := by decide +kernel
theorem dX5_vertex_15 : decode cX5_vertex 15 = .ok (.ldc 143, 2) := by decide +kernel
theorem dX5_vertex_17 : decode cX5_vertex 17 = .ok (.invokespecial 145, 3) := by decide +kernel
theorem dX5_vertex_20 : decode cX5_vertex 20 = .ok (.athrow, 1) := by decide +kernel
theorem dX5_vertex_21 : decode cX5_vertex 21 = .ok (.iload_n 2, 1) := by decide +kernel
theorem dX5_vertex_22 : decode cX5_vertex 22 = .ok (.tableswitch 121 0 5 #[38, 47, 56, 65, 77, 101], 38) := by decide +kernel
theorem dX5_vertex_60 : decode cX5_vertex 60 = .ok (.aload_n 0, 1) := by decide +kernel
theorem dX5_vertex_61 : decode cX5_vertex 61 = .ok (.getfield 10, 3) := by decide +kernel
theorem dX5_vertex_64 : decode cX5_vertex 64 = .ok (.iload_n 1, 1) := by decide +kernel
theorem dX5_vertex_65 : decode cX5_vertex 65 = .ok (.invokevirtual 146, 3) := by decide +kernel
theorem dX5_vertex_68 : decode cX5_vertex 68 = .ok (.ireturn, 1) := by decide +kernel
theorem dX5_vertex_69 : decode cX5_vertex 69 = .ok (.aload_n 0, 1) := by decide +kernel
theorem dX5_vertex_70 : decode cX5_vertex 70 = .ok (.getfield 10, 3) := by decide +kernel
theorem dX5_vertex_73 : decode cX5_vertex 73 = .ok (.iload_n 1, 1) := by decide +kernel
theorem dX5_vertex_74 : decode cX5_vertex 74 = .ok (.invokevirtual 149, 3) := by decide +kernel
theorem dX5_vertex_77 : decode cX5_vertex 77 = .ok (.ireturn, 1) := by decide +kernel
theorem dX5_vertex_78 : decode cX5_vertex 78 = .ok (.aload_n 0, 1) := by decide +kernel
theorem dX5_vertex_79 : decode cX5_vertex 79 = .ok (.getfield 10, 3) := by decide +kernel
theorem dX5_vertex_82 : decode cX5_vertex 82 = .ok (.iload_n 1, 1) := by decide +kernel
theorem dX5_vertex_83 : decode cX5_vertex 83 = .ok (.invokevirtual 152, 3) := by decide +kernel
theorem dX5_vertex_86 : decode cX5_vertex 86 = .ok (.ireturn, 1) := by decide +kernel
theorem dX5_vertex_87 : decode cX5_vertex 87 = .ok (.aload_n 0, 1) := by decide +kernel
theorem dX5_vertex_88 : decode cX5_vertex 88 = .ok (.getfield 10, 3) := by decide +kernel
theorem dX5_vertex_91 : decode cX5_vertex 91 = .ok (.iload_n 1, 1) := by decide +kernel
theorem dX5_vertex_92 : decode cX5_vertex 92 = .ok (.invokevirtual 155, 3) := by decide +kernel
theorem dX5_vertex_95 : decode cX5_vertex 95 = .ok (.invokestatic 108, 3) := by decide +kernel
theorem dX5_vertex_98 : decode cX5_vertex 98 = .ok (.ireturn, 1) := by decide +kernel
theorem dX5_vertex_99 : decode cX5_vertex 99 = .ok (.aload_n 0, 1) := by decide +kernel
theorem dX5_vertex_100 : decode cX5_vertex 100 = .ok (.getfield 10, 3) := by decide +kernel
theorem dX5_vertex_103 : decode cX5_vertex 103 = .ok (.iload_n 1, 1) := by decide +kernel
theorem dX5_vertex_104 : decode cX5_vertex 104 = .ok (.invokevirtual 158, 3) := by decide +kernel
theorem dX5_vertex_107 : decode cX5_vertex 107 = .ok (.ifCond .eq 14, 3) := by decide +kernel
theorem dX5_vertex_110 : decode cX5_vertex 110 = .ok (.aload_n 0, 1) := by decide +kernel
theorem dX5_vertex_111 : decode cX5_vertex 111 = .ok (.getfield 10, 3) := by decide +kernel
theorem dX5_vertex_114 : decode cX5_vertex 114 = .ok (.iload_n 1, 1) := by decide +kernel
theorem dX5_vertex_115 : decode cX5_vertex 115 = .ok (.invokevirtual 161, 3) := by decide +kernel
theorem dX5_vertex_118 : decode cX5_vertex 118 = .ok (.goto 4, 3) := by decide +kernel
theorem dX5_vertex_121 : decode cX5_vertex 121 = .ok (.iconst (-1), 1) := by decide +kernel
theorem dX5_vertex_122 : decode cX5_vertex 122 = .ok (.ireturn, 1) := by decide +kernel
theorem dX5_vertex_123 : decode cX5_vertex 123 = .ok (.aload_n 0, 1) := by decide +kernel
theorem dX5_vertex_124 : decode cX5_vertex 124 = .ok (.getfield 10, 3) := by decide +kernel
theorem dX5_vertex_127 : decode cX5_vertex 127 = .ok (.iload_n 1, 1) := by decide +kernel
theorem dX5_vertex_128 : decode cX5_vertex 128 = .ok (.invokevirtual 155, 3) := by decide +kernel
theorem dX5_vertex_131 : decode cX5_vertex 131 = .ok (.aload_n 0, 1) := by decide +kernel
theorem dX5_vertex_132 : decode cX5_vertex 132 = .ok (.getfield 10, 3) := by decide +kernel
theorem dX5_vertex_135 : decode cX5_vertex 135 = .ok (.getfield 105, 3) := by decide +kernel
theorem dX5_vertex_138 : decode cX5_vertex 138 = .ok (.iand, 1) := by decide +kernel
theorem dX5_vertex_139 : decode cX5_vertex 139 = .ok (.invokestatic 108, 3) := by decide +kernel
theorem dX5_vertex_142 : decode cX5_vertex 142 = .ok (.ireturn, 1) := by decide +kernel
theorem dX5_vertex_143 : decode cX5_vertex 143 = .ok (.new 62, 3) := by decide +kernel
theorem dX5_vertex_146 : decode cX5_vertex 146 = .ok (.dup, 1) := by decide +kernel
theorem dX5_vertex_147 : decode cX5_vertex 147 = .ok (.ldc 164, 2) := by decide +kernel
theorem dX5_vertex_149 : decode cX5_vertex 149 = .ok (.invokespecial 66, 3) := by decide +kernel
theorem dX5_vertex_152 : decode cX5_vertex 152 = .ok (.athrow, 1) := by decide +kernel
theorem dX5_reason_0 : decode cX5_reason 0 = .ok (.aload_n 0, 1) := by decide +kernel
theorem dX5_reason_1 : decode cX5_reason 1 = .ok (.getfield 10, 3) := by decide +kernel
theorem dX5_reason_4 : decode cX5_reason 4 = .ok (.iload_n 1, 1) := by decide +kernel
theorem dX5_reason_5 : decode cX5_reason 5 = .ok (.iload_n 2, 1) := by decide +kernel
theorem dX5_reason_6 : decode cX5_reason 6 = .ok (.invokevirtual 166, 3) := by decide +kernel
theorem dX5_reason_9 : decode cX5_reason 9 = .ok (.ifCond .ne 13, 3) := by decide +kernel
theorem dX5_reason_12 : decode cX5_reason 12 = .ok (.new 141, 3) := by decide +kernel
theorem dX5_reason_15 : decode cX5_reason 15 = .ok (.dup, 1) := by decide +kernel
theorem dX5_reason_16 : decode cX5_reason 16 = .ok (.ldc 170, 2) := by decide +kernel
theorem dX5_reason_18 : decode cX5_reason 18 = .ok (.invokespecial 145, 3) := by decide +kernel
theorem dX5_reason_21 : decode cX5_reason 21 = .ok (.athrow, 1) := by decide +kernel
theorem dX5_reason_22 : decode cX5_reason 22 = .ok (.aload_n 0, 1) := by decide +kernel
theorem dX5_reason_23 : decode cX5_reason 23 = .ok (.getfield 10, 3) := by decide +kernel
theorem dX5_reason_26 : decode cX5_reason 26 = .ok (.iload_n 1, 1) := by decide +kernel
theorem dX5_reason_27 : decode cX5_reason 27 = .ok (.iload_n 2, 1) := by decide +kernel
theorem dX5_reason_28 : decode cX5_reason 28 = .ok (.invokevirtual 172, 3) := by decide +kernel
theorem dX5_reason_31 : decode cX5_reason 31 = .ok (.ireturn, 1) := by decide +kernel
theorem dX5_part_0 : decode cX5_part 0 = .ok (.aload_n 0, 1) := by decide +kernel
theorem dX5_part_1 : decode cX5_part 1 = .ok (.getfield 10, 3) := by decide +kernel
theorem dX5_part_4 : decode cX5_part 4 = .ok (.iload_n 1, 1) := by decide +kernel
theorem dX5_part_5 : decode cX5_part 5 = .ok (.invokevirtual 176, 3) := by decide +kernel
theorem dX5_part_8 : decode cX5_part 8 = .ok (.istore_n 3, 1) := by decide +kernel
theorem dX5_part_9 : decode cX5_part 9 = .ok (.iload_n 3, 1) := by decide +kernel
theorem dX5_part_10 : decode cX5_part 10 = .ok (.ifCond .ne 13, 3) := by decide +kernel
theorem dX5_part_13 : decode cX5_part 13 = .ok (.new 141, 3) := by decide +kernel
theorem dX5_part_16 : decode cX5_part 16 = .ok (.dup, 1) := by decide +kernel
theorem dX5_part_17 : decode cX5_part 17 = .ok (.ldc 179, 2) := by decide +kernel
theorem dX5_part_19 : decode cX5_part 19 = .ok (.invokespecial 145, 3) := by decide +kernel
theorem dX5_part_22 : decode cX5_part 22 = .ok (.athrow, 1) := by decide +kernel
theorem dX5_part_23 : decode cX5_part 23 = .ok (.iload_n 2, 1) := by decide +kernel
theorem dX5_part_24 : decode cX5_part 24 = .ok (.tableswitch 121 0 7 #[48, 53, 58, 67, 76, 85, 97, 109], 48) := by decide +kernel
theorem dX5_part_72 : decode cX5_part 72 = .ok (.iload_n 3, 1) := by decide +kernel
theorem dX5_part_73 : decode cX5_part 73 = .ok (.invokestatic 108, 3) := by decide +kernel
theorem dX5_part_76 : decode cX5_part 76 = .ok (.ireturn, 1) := by decide +kernel
theorem dX5_part_77 : decode cX5_part 77 = .ok (.iload_n 3, 1) := by decide +kernel
theorem dX5_part_78 : decode cX5_part 78 = .ok (.invokestatic 181, 3) := by decide +kernel
theorem dX5_part_81 : decode cX5_part 81 = .ok (.ireturn, 1) := by decide +kernel
theorem dX5_part_82 : decode cX5_part 82 = .ok (.aload_n 0, 1) := by decide +kernel
theorem dX5_part_83 : decode cX5_part 83 = .ok (.getfield 10, 3) := by decide +kernel
theorem dX5_part_86 : decode cX5_part 86 = .ok (.iload_n 3, 1) := by decide +kernel
theorem dX5_part_87 : decode cX5_part 87 = .ok (.invokevirtual 184, 3) := by decide +kernel
theorem dX5_part_90 : decode cX5_part 90 = .ok (.ireturn, 1) := by decide +kernel
theorem dX5_part_91 : decode cX5_part 91 = .ok (.aload_n 0, 1) := by decide +kernel
theorem dX5_part_92 : decode cX5_part 92 = .ok (.getfield 10, 3) := by decide +kernel
theorem dX5_part_95 : decode cX5_part 95 = .ok (.iload_n 3, 1) := by decide +kernel
theorem dX5_part_96 : decode cX5_part 96 = .ok (.invokevirtual 96, 3) := by decide +kernel
theorem dX5_part_99 : decode cX5_part 99 = .ok (.ireturn, 1) := by decide +kernel
theorem dX5_part_100 : decode cX5_part 100 = .ok (.aload_n 0, 1) := by decide +kernel
theorem dX5_part_101 : decode cX5_part 101 = .ok (.getfield 10, 3) := by decide +kernel
theorem dX5_part_104 : decode cX5_part 104 = .ok (.iload_n 3, 1) := by decide +kernel
theorem dX5_part_105 : decode cX5_part 105 = .ok (.invokevirtual 126, 3) := by decide +kernel
theorem dX5_part_108 : decode cX5_part 108 = .ok (.ireturn, 1) := by decide +kernel
theorem dX5_part_109 : decode cX5_part 109 = .ok (.aload_n 0, 1) := by decide +kernel
theorem dX5_part_110 : decode cX5_part 110 = .ok (.getfield 21, 3) := by decide +kernel
theorem dX5_part_113 : decode cX5_part 113 = .ok (.iload_n 3, 1) := by decide +kernel
theorem dX5_part_114 : decode cX5_part 114 = .ok (.invokevirtual 187, 3) := by decide +kernel
theorem dX5_part_117 : decode cX5_part 117 = .ok (.invokestatic 190, 3) := by decide +kernel
theorem dX5_part_120 : decode cX5_part 120 = .ok (.ireturn, 1) := by decide +kernel
theorem dX5_part_121 : decode cX5_part 121 = .ok (.aload_n 0, 1) := by decide +kernel
theorem dX5_part_122 : decode cX5_part 122 = .ok (.getfield 21, 3) := by decide +kernel
theorem dX5_part_125 : decode cX5_part 125 = .ok (.iload_n 3, 1) := by decide +kernel
theorem dX5_part_126 : decode cX5_part 126 = .ok (.invokevirtual 187, 3) := by decide +kernel
theorem dX5_part_129 : decode cX5_part 129 = .ok (.invokestatic 193, 3) := by decide +kernel
theorem dX5_part_132 : decode cX5_part 132 = .ok (.ireturn, 1) := by decide +kernel
theorem dX5_part_133 : decode cX5_part 133 = .ok (.aload_n 0, 1) := by decide +kernel
theorem dX5_part_134 : decode cX5_part 134 = .ok (.getfield 21, 3) := by decide +kernel
theorem dX5_part_137 : decode cX5_part 137 = .ok (.iload_n 3, 1) := by decide +kernel
theorem dX5_part_138 : decode cX5_part 138 = .ok (.invokevirtual 187, 3) := by decide +kernel
theorem dX5_part_141 : decode cX5_part 141 = .ok (.invokestatic 196, 3) := by decide +kernel
theorem dX5_part_144 : decode cX5_part 144 = .ok (.ireturn, 1) := by decide +kernel
theorem dX5_part_145 : decode cX5_part 145 = .ok (.new 62, 3) := by decide +kernel
theorem dX5_part_148 : decode cX5_part 148 = .ok (.dup, 1) := by decide +kernel
theorem dX5_part_149 : decode cX5_part 149 = .ok (.ldc 199, 2) := by decide +kernel
theorem dX5_part_151 : decode cX5_part 151 = .ok (.invokespecial 66, 3) := by decide +kernel
theorem dX5_part_154 : decode cX5_part 154 = .ok (.athrow, 1) := by decide +kernel
theorem dX5_value_0 : decode cX5_value 0 = .ok (.aload_n 0, 1) := by decide +kernel
theorem dX5_value_1 : decode cX5_value 1 = .ok (.getfield 21, 3) := by decide +kernel
theorem dX5_value_4 : decode cX5_value 4 = .ok (.aload_n 0, 1) := by decide +kernel
theorem dX5_value_5 : decode cX5_value 5 = .ok (.getfield 10, 3) := by decide +kernel
theorem dX5_value_8 : decode cX5_value 8 = .ok (.getfield 105, 3) := by decide +kernel
theorem dX5_value_11 : decode cX5_value 11 = .ok (.invokevirtual 187, 3) := by decide +kernel
theorem dX5_value_14 : decode cX5_value 14 = .ok (.invokestatic 190, 3) := by decide +kernel
theorem dX5_value_17 : decode cX5_value 17 = .ok (.aload_n 0, 1) := by decide +kernel
theorem dX5_value_18 : decode cX5_value 18 = .ok (.getfield 10, 3) := by decide +kernel
theorem dX5_value_21 : decode cX5_value 21 = .ok (.invokevirtual 132, 3) := by decide +kernel
theorem dX5_value_24 : decode cX5_value 24 = .ok (.ixor, 1) := by decide +kernel
theorem dX5_value_25 : decode cX5_value 25 = .ok (.ireturn, 1) := by decide +kernel
theorem dX5_valueIf_0 : decode cX5_valueIf 0 = .ok (.aload_n 0, 1) := by decide +kernel
theorem dX5_valueIf_1 : decode cX5_valueIf 1 = .ok (.getfield 10, 3) := by decide +kernel
theorem dX5_valueIf_4 : decode cX5_valueIf 4 = .ok (.iload_n 1, 1) := by decide +kernel
theorem dX5_valueIf_5 : decode cX5_valueIf 5 = .ok (.iload_n 2, 1) := by decide +kernel
theorem dX5_valueIf_6 : decode cX5_valueIf 6 = .ok (.invokevirtual 166, 3) := by decide +kernel
theorem dX5_valueIf_9 : decode cX5_valueIf 9 = .ok (.ifCond .ne 13, 3) := by decide +kernel
theorem dX5_valueIf_12 : decode cX5_valueIf 12 = .ok (.new 141, 3) := by decide +kernel
theorem dX5_valueIf_15 : decode cX5_valueIf 15 = .ok (.dup, 1) := by decide +kernel
theorem dX5_valueIf_16 : decode cX5_valueIf 16 = .ok (.ldc 170, 2) := by decide +kernel
theorem dX5_valueIf_18 : decode cX5_valueIf 18 = .ok (.invokespecial 145, 3) := by decide +kernel
theorem dX5_valueIf_21 : decode cX5_valueIf 21 = .ok (.athrow, 1) := by decide +kernel
theorem dX5_valueIf_22 : decode cX5_valueIf 22 = .ok (.aload_n 0, 1) := by decide +kernel
theorem dX5_valueIf_23 : decode cX5_valueIf 23 = .ok (.getfield 10, 3) := by decide +kernel
theorem dX5_valueIf_26 : decode cX5_valueIf 26 = .ok (.iload_n 1, 1) := by decide +kernel
theorem dX5_valueIf_27 : decode cX5_valueIf 27 = .ok (.iload_n 2, 1) := by decide +kernel
theorem dX5_valueIf_28 : decode cX5_valueIf 28 = .ok (.invokevirtual 172, 3) := by decide +kernel
theorem dX5_valueIf_31 : decode cX5_valueIf 31 = .ok (.ifCond .eq 13, 3) := by decide +kernel
theorem dX5_valueIf_34 : decode cX5_valueIf 34 = .ok (.new 201, 3) := by decide +kernel
theorem dX5_valueIf_37 : decode cX5_valueIf 37 = .ok (.dup, 1) := by decide +kernel
theorem dX5_valueIf_38 : decode cX5_valueIf 38 = .ok (.ldc 203, 2) := by decide +kernel
theorem dX5_valueIf_40 : decode cX5_valueIf 40 = .ok (.invokespecial 205, 3) := by decide +kernel
theorem dX5_valueIf_43 : decode cX5_valueIf 43 = .ok (.athrow, 1) := by decide +kernel
theorem dX5_valueIf_44 : decode cX5_valueIf 44 = .ok (.aload_n 0, 1) := by decide +kernel
theorem dX5_valueIf_45 : decode cX5_valueIf 45 = .ok (.getfield 21, 3) := by decide +kernel
theorem dX5_valueIf_48 : decode cX5_valueIf 48 = .ok (.iload_n 1, 1) := by decide +kernel
theorem dX5_valueIf_49 : decode cX5_valueIf 49 = .ok (.iload_n 2, 1) := by decide +kernel
theorem dX5_valueIf_50 : decode cX5_valueIf 50 = .ok (.invokevirtual 206, 3) := by decide +kernel
theorem dX5_valueIf_53 : decode cX5_valueIf 53 = .ok (.invokestatic 190, 3) := by decide +kernel
theorem dX5_valueIf_56 : decode cX5_valueIf 56 = .ok (.aload_n 0, 1) := by decide +kernel
theorem dX5_valueIf_57 : decode cX5_valueIf 57 = .ok (.getfield 10, 3) := by decide +kernel
theorem dX5_valueIf_60 : decode cX5_valueIf 60 = .ok (.invokevirtual 132, 3) := by decide +kernel
theorem dX5_valueIf_63 : decode cX5_valueIf 63 = .ok (.ixor, 1) := by decide +kernel
theorem dX5_valueIf_64 : decode cX5_valueIf 64 = .ok (.ireturn, 1) := by decide +kernel
theorem dX5_winningMoves_0 : decode cX5_winningMoves 0 = .ok (.aload_n 0, 1) := by decide +kernel
theorem dX5_winningMoves_1 : decode cX5_winningMoves 1 = .ok (.invokevirtual 209, 3) := by decide +kernel
theorem dX5_winningMoves_4 : decode cX5_winningMoves 4 = .ok (.ifCond .eq 7, 3) := by decide +kernel
theorem dX5_winningMoves_7 : decode cX5_winningMoves 7 = .ok (.iconst 1, 1) := by decide +kernel
theorem dX5_winningMoves_8 : decode cX5_winningMoves 8 = .ok (.goto 4, 3) := by decide +kernel
theorem dX5_winningMoves_11 : decode cX5_winningMoves 11 = .ok (.iconst 0, 1) := by decide +kernel
theorem dX5_winningMoves_12 : decode cX5_winningMoves 12 = .ok (.istore_n 1, 1) := by decide +kernel
theorem dX5_winningMoves_13 : decode cX5_winningMoves 13 = .ok (.iconst 0, 1) := by decide +kernel
theorem dX5_winningMoves_14 : decode cX5_winningMoves 14 = .ok (.istore_n 2, 1) := by decide +kernel
theorem dX5_winningMoves_15 : decode cX5_winningMoves 15 = .ok (.iload_n 2, 1) := by decide +kernel
theorem dX5_winningMoves_16 : decode cX5_winningMoves 16 = .ok (.aload_n 0, 1) := by decide +kernel
theorem dX5_winningMoves_17 : decode cX5_winningMoves 17 = .ok (.getfield 10, 3) := by decide +kernel
theorem dX5_winningMoves_20 : decode cX5_winningMoves 20 = .ok (.getfield 86, 3) := by decide +kernel
theorem dX5_winningMoves_23 : decode cX5_winningMoves 23 = .ok (.if_icmp .ge 20, 3) := by decide +kernel
theorem dX5_winningMoves_26 : decode cX5_winningMoves 26 = .ok (.iload_n 1, 1) := by decide +kernel
theorem dX5_winningMoves_27 : decode cX5_winningMoves 27 = .ok (.aload_n 0, 1) := by decide +kernel
theorem dX5_winningMoves_28 : decode cX5_winningMoves 28 = .ok (.iload_n 2, 1) := by decide +kernel
theorem dX5_winningMoves_29 : decode cX5_winningMoves 29 = .ok (.invokevirtual 212, 3) := by decide +kernel
theorem dX5_winningMoves_32 : decode cX5_winningMoves 32 = .ok (.invokestatic 108, 3) := by decide +kernel
theorem dX5_winningMoves_35 : decode cX5_winningMoves 35 = .ok (.iadd, 1) := by decide +kernel
theorem dX5_winningMoves_36 : decode cX5_winningMoves 36 = .ok (.istore_n 1, 1) := by decide +kernel
theorem dX5_winningMoves_37 : decode cX5_winningMoves 37 = .ok (.iinc 2 1, 3) := by decide +kernel
theorem dX5_winningMoves_40 : decode cX5_winningMoves 40 = .ok (.goto (-25), 3) := by decide +kernel
theorem dX5_winningMoves_43 : decode cX5_winningMoves 43 = .ok (.iload_n 1, 1) := by decide +kernel
theorem dX5_winningMoves_44 : decode cX5_winningMoves 44 = .ok (.ireturn, 1) := by decide +kernel
theorem dX5_bestMove_0 : decode cX5_bestMove 0 = .ok (.aload_n 0, 1) := by decide +kernel
theorem dX5_bestMove_1 : decode cX5_bestMove 1 = .ok (.getfield 10, 3) := by decide +kernel
theorem dX5_bestMove_4 : decode cX5_bestMove 4 = .ok (.invokevirtual 122, 3) := by decide +kernel
theorem dX5_bestMove_7 : decode cX5_bestMove 7 = .ok (.ifCond .eq 13, 3) := by decide +kernel
theorem dX5_bestMove_10 : decode cX5_bestMove 10 = .ok (.new 201, 3) := by decide +kernel
theorem dX5_bestMove_13 : decode cX5_bestMove 13 = .ok (.dup, 1) := by decide +kernel
theorem dX5_bestMove_14 : decode cX5_bestMove 14 = .ok (.ldc 215, 2) := by decide +kernel
theorem dX5_bestMove_16 : decode cX5_bestMove 16 = .ok (.invokespecial 205, 3) := by decide +kernel
theorem dX5_bestMove_19 : decode cX5_bestMove 19 = .ok (.athrow, 1) := by decide +kernel
theorem dX5_bestMove_20 : decode cX5_bestMove 20 = .ok (.aload_n 0, 1) := by decide +kernel
theorem dX5_bestMove_21 : decode cX5_bestMove 21 = .ok (.invokevirtual 217, 3) := by decide +kernel
theorem dX5_bestMove_24 : decode cX5_bestMove 24 = .ok (.ireturn, 1) := by decide +kernel
theorem dX5_longest_0 : decode cX5_longest 0 = .ok (.aload_n 0, 1) := by decide +kernel
theorem dX5_longest_1 : decode cX5_longest 1 = .ok (.getfield 21, 3) := by decide +kernel
theorem dX5_longest_4 : decode cX5_longest 4 = .ok (.aload_n 0, 1) := by decide +kernel
theorem dX5_longest_5 : decode cX5_longest 5 = .ok (.getfield 10, 3) := by decide +kernel
theorem dX5_longest_8 : decode cX5_longest 8 = .ok (.getfield 105, 3) := by decide +kernel
theorem dX5_longest_11 : decode cX5_longest 11 = .ok (.invokevirtual 187, 3) := by decide +kernel
theorem dX5_longest_14 : decode cX5_longest 14 = .ok (.invokestatic 193, 3) := by decide +kernel
theorem dX5_longest_17 : decode cX5_longest 17 = .ok (.aload_n 0, 1) := by decide +kernel
theorem dX5_longest_18 : decode cX5_longest 18 = .ok (.getfield 10, 3) := by decide +kernel
theorem dX5_longest_21 : decode cX5_longest 21 = .ok (.getfield 102, 3) := by decide +kernel
theorem dX5_longest_24 : decode cX5_longest 24 = .ok (.iadd, 1) := by decide +kernel
theorem dX5_longest_25 : decode cX5_longest 25 = .ok (.ireturn, 1) := by decide +kernel
theorem dX5_shortest_0 : decode cX5_shortest 0 = .ok (.aload_n 0, 1) := by decide +kernel
theorem dX5_shortest_1 : decode cX5_shortest 1 = .ok (.getfield 21, 3) := by decide +kernel
theorem dX5_shortest_4 : decode cX5_shortest 4 = .ok (.aload_n 0, 1) := by decide +kernel
theorem dX5_shortest_5 : decode cX5_shortest 5 = .ok (.getfield 10, 3) := by decide +kernel
theorem dX5_shortest_8 : decode cX5_shortest 8 = .ok (.getfield 105, 3) := by decide +kernel
theorem dX5_shortest_11 : decode cX5_shortest 11 = .ok (.invokevirtual 187, 3) := by decide +kernel
theorem dX5_shortest_14 : decode cX5_shortest 14 = .ok (.invokestatic 196, 3) := by decide +kernel
theorem dX5_shortest_17 : decode cX5_shortest 17 = .ok (.aload_n 0, 1) := by decide +kernel
theorem dX5_shortest_18 : decode cX5_shortest 18 = .ok (.getfield 10, 3) := by decide +kernel
theorem dX5_shortest_21 : decode cX5_shortest 21 = .ok (.getfield 102, 3) := by decide +kernel
theorem dX5_shortest_24 : decode cX5_shortest 24 = .ok (.iadd, 1) := by decide +kernel
theorem dX5_shortest_25 : decode cX5_shortest 25 = .ok (.ireturn, 1) := by decide +kernel
theorem dX5_meanValue_0 : decode cX5_meanValue 0 = .ok (.aload_n 0, 1) := by decide +kernel
theorem dX5_meanValue_1 : decode cX5_meanValue 1 = .ok (.getfield 10, 3) := by decide +kernel
theorem dX5_meanValue_4 : decode cX5_meanValue 4 = .ok (.aload_n 0, 1) := by decide +kernel
theorem dX5_meanValue_5 : decode cX5_meanValue 5 = .ok (.getfield 10, 3) := by decide +kernel
theorem dX5_meanValue_8 : decode cX5_meanValue 8 = .ok (.getfield 105, 3) := by decide +kernel
theorem dX5_meanValue_11 : decode cX5_meanValue 11 = .ok (.invokevirtual 113, 3) := by decide +kernel
theorem dX5_meanValue_14 : decode cX5_meanValue 14 = .ok (.istore_n 1, 1) := by decide +kernel
theorem dX5_meanValue_15 : decode cX5_meanValue 15 = .ok (.iload_n 1, 1) := by decide +kernel
theorem dX5_meanValue_16 : decode cX5_meanValue 16 = .ok (.ifCond .ne 5, 3) := by decide +kernel
theorem dX5_meanValue_19 : decode cX5_meanValue 19 = .ok (.fconst 0, 1) := by decide +kernel
theorem dX5_meanValue_20 : decode cX5_meanValue 20 = .ok (.freturn, 1) := by decide +kernel
theorem dX5_meanValue_21 : decode cX5_meanValue 21 = .ok (.iconst 0, 1) := by decide +kernel
theorem dX5_meanValue_22 : decode cX5_meanValue 22 = .ok (.istore_n 2, 1) := by decide +kernel
theorem dX5_meanValue_23 : decode cX5_meanValue 23 = .ok (.iconst 0, 1) := by decide +kernel
theorem dX5_meanValue_24 : decode cX5_meanValue 24 = .ok (.istore_n 3, 1) := by decide +kernel
theorem dX5_meanValue_25 : decode cX5_meanValue 25 = .ok (.iload_n 3, 1) := by decide +kernel
theorem dX5_meanValue_26 : decode cX5_meanValue 26 = .ok (.iload_n 1, 1) := by decide +kernel
theorem dX5_meanValue_27 : decode cX5_meanValue 27 = .ok (.if_icmp .ge 30, 3) := by decide +kernel
theorem dX5_meanValue_30 : decode cX5_meanValue 30 = .ok (.iload_n 2, 1) := by decide +kernel
theorem dX5_meanValue_31 : decode cX5_meanValue 31 = .ok (.aload_n 0, 1) := by decide +kernel
theorem dX5_meanValue_32 : decode cX5_meanValue 32 = .ok (.getfield 21, 3) := by decide +kernel
theorem dX5_meanValue_35 : decode cX5_meanValue 35 = .ok (.aload_n 0, 1) := by decide +kernel
theorem dX5_meanValue_36 : decode cX5_meanValue 36 = .ok (.getfield 10, 3) := by decide +kernel
theorem dX5_meanValue_39 : decode cX5_meanValue 39 = .ok (.iload_n 3, 1) := by decide +kernel
theorem dX5_meanValue_40 : decode cX5_meanValue 40 = .ok (.invokevirtual 176, 3) := by decide +kernel
theorem dX5_meanValue_43 : decode cX5_meanValue 43 = .ok (.invokevirtual 187, 3) := by decide +kernel
theorem dX5_meanValue_46 : decode cX5_meanValue 46 = .ok (.invokestatic 190, 3) := by decide +kernel
theorem dX5_meanValue_49 : decode cX5_meanValue 49 = .ok (.iadd, 1) := by decide +kernel
theorem dX5_meanValue_50 : decode cX5_meanValue 50 = .ok (.istore_n 2, 1) := by decide +kernel
theorem dX5_meanValue_51 : decode cX5_meanValue 51 = .ok (.iinc 3 1, 3) := by decide +kernel
theorem dX5_meanValue_54 : decode cX5_meanValue 54 = .ok (.goto (-29), 3) := by decide +kernel
theorem dX5_meanValue_57 : decode cX5_meanValue 57 = .ok (.iload_n 2, 1) := by decide +kernel
theorem dX5_meanValue_58 : decode cX5_meanValue 58 = .ok (.i2f, 1) := by decide +kernel
theorem dX5_meanValue_59 : decode cX5_meanValue 59 = .ok (.iload_n 1, 1) := by decide +kernel
theorem dX5_meanValue_60 : decode cX5_meanValue 60 = .ok (.i2f, 1) := by decide +kernel
theorem dX5_meanValue_61 : decode cX5_meanValue 61 = .ok (.fdiv, 1) := by decide +kernel
theorem dX5_meanValue_62 : decode cX5_meanValue 62 = .ok (.freturn, 1) := by decide +kernel
theorem dX5_winningColours_0 : decode cX5_winningColours 0 = .ok (.aload_n 0, 1) := by decide +kernel
theorem dX5_winningColours_1 : decode cX5_winningColours 1 = .ok (.getfield 10, 3) := by decide +kernel
theorem dX5_winningColours_4 : decode cX5_winningColours 4 = .ok (.iload_n 1, 1) := by decide +kernel
theorem dX5_winningColours_5 : decode cX5_winningColours 5 = .ok (.invokevirtual 137, 3) := by decide +kernel
theorem dX5_winningColours_8 : decode cX5_winningColours 8 = .ok (.ifCond .ne 13, 3) := by decide +kernel
theorem dX5_winningColours_11 : decode cX5_winningColours 11 = .ok (.new 141, 3) := by decide +kernel
theorem dX5_winningColours_14 : decode cX5_winningColours 14 = .ok (.dup, 1) := by decide +kernel
theorem dX5_winningColours_15 : decode cX5_winningColours 15 = .ok (.ldc 143, 2) := by decide +kernel
theorem dX5_winningColours_17 : decode cX5_winningColours 17 = .ok (.invokespecial 145, 3) := by decide +kernel
theorem dX5_winningColours_20 : decode cX5_winningColours 20 = .ok (.athrow, 1) := by decide +kernel
theorem dX5_winningColours_21 : decode cX5_winningColours 21 = .ok (.aload_n 0, 1) := by decide +kernel
theorem dX5_winningColours_22 : decode cX5_winningColours 22 = .ok (.iload_n 1, 1) := by decide +kernel
theorem dX5_winningColours_23 : decode cX5_winningColours 23 = .ok (.invokevirtual 212, 3) := by decide +kernel
theorem dX5_winningColours_26 : decode cX5_winningColours 26 = .ok (.ireturn, 1) := by decide +kernel
theorem dX5_falls_0 : decode cX5_falls 0 = .ok (.aload_n 0, 1) := by decide +kernel
theorem dX5_falls_1 : decode cX5_falls 1 = .ok (.getfield 10, 3) := by decide +kernel
theorem dX5_falls_4 : decode cX5_falls 4 = .ok (.iload_n 1, 1) := by decide +kernel
theorem dX5_falls_5 : decode cX5_falls 5 = .ok (.invokevirtual 137, 3) := by decide +kernel
theorem dX5_falls_8 : decode cX5_falls 8 = .ok (.ifCond .ne 13, 3) := by decide +kernel
theorem dX5_falls_11 : decode cX5_falls 11 = .ok (.new 141, 3) := by decide +kernel
theorem dX5_falls_14 : decode cX5_falls 14 = .ok (.dup, 1) := by decide +kernel
theorem dX5_falls_15 : decode cX5_falls 15 = .ok (.ldc 143, 2) := by decide +kernel
theorem dX5_falls_17 : decode cX5_falls 17 = .ok (.invokespecial 145, 3) := by decide +kernel
theorem dX5_falls_20 : decode cX5_falls 20 = .ok (.athrow, 1) := by decide +kernel
theorem dX5_falls_21 : decode cX5_falls 21 = .ok (.aload_n 0, 1) := by decide +kernel
theorem dX5_falls_22 : decode cX5_falls 22 = .ok (.getfield 10, 3) := by decide +kernel
theorem dX5_falls_25 : decode cX5_falls 25 = .ok (.iload_n 1, 1) := by decide +kernel
theorem dX5_falls_26 : decode cX5_falls 26 = .ok (.invokevirtual 158, 3) := by decide +kernel
theorem dX5_falls_29 : decode cX5_falls 29 = .ok (.ifCond .ne 13, 3) := by decide +kernel
theorem dX5_falls_32 : decode cX5_falls 32 = .ok (.new 201, 3) := by decide +kernel
theorem dX5_falls_35 : decode cX5_falls 35 = .ok (.dup, 1) := by decide +kernel
theorem dX5_falls_36 : decode cX5_falls 36 = .ok (.ldc 220, 2) := by decide +kernel
theorem dX5_falls_38 : decode cX5_falls 38 = .ok (.invokespecial 205, 3) := by decide +kernel
theorem dX5_falls_41 : decode cX5_falls 41 = .ok (.athrow, 1) := by decide +kernel
theorem dX5_falls_42 : decode cX5_falls 42 = .ok (.aload_n 0, 1) := by decide +kernel
theorem dX5_falls_43 : decode cX5_falls 43 = .ok (.getfield 10, 3) := by decide +kernel
theorem dX5_falls_46 : decode cX5_falls 46 = .ok (.aload_n 0, 1) := by decide +kernel
theorem dX5_falls_47 : decode cX5_falls 47 = .ok (.getfield 10, 3) := by decide +kernel
theorem dX5_falls_50 : decode cX5_falls 50 = .ok (.iload_n 1, 1) := by decide +kernel
theorem dX5_falls_51 : decode cX5_falls 51 = .ok (.invokevirtual 222, 3) := by decide +kernel
theorem dX5_falls_54 : decode cX5_falls 54 = .ok (.iconst 1, 1) := by decide +kernel
theorem dX5_falls_55 : decode cX5_falls 55 = .ok (.iload_n 1, 1) := by decide +kernel
theorem dX5_falls_56 : decode cX5_falls 56 = .ok (.ishl, 1) := by decide +kernel
theorem dX5_falls_57 : decode cX5_falls 57 = .ok (.iconst (-1), 1) := by decide +kernel
theorem dX5_falls_58 : decode cX5_falls 58 = .ok (.ixor, 1) := by decide +kernel
theorem dX5_falls_59 : decode cX5_falls 59 = .ok (.iand, 1) := by decide +kernel
theorem dX5_falls_60 : decode cX5_falls 60 = .ok (.invokevirtual 113, 3) := by decide +kernel
theorem dX5_falls_63 : decode cX5_falls 63 = .ok (.ireturn, 1) := by decide +kernel
theorem dX5_valueWithout_0 : decode cX5_valueWithout 0 = .ok (.aload_n 0, 1) := by decide +kernel
theorem dX5_valueWithout_1 : decode cX5_valueWithout 1 = .ok (.getfield 10, 3) := by decide +kernel
theorem dX5_valueWithout_4 : decode cX5_valueWithout 4 = .ok (.iload_n 1, 1) := by decide +kernel
theorem dX5_valueWithout_5 : decode cX5_valueWithout 5 = .ok (.invokevirtual 137, 3) := by decide +kernel
theorem dX5_valueWithout_8 : decode cX5_valueWithout 8 = .ok (.ifCond .ne 13, 3) := by decide +kernel
theorem dX5_valueWithout_11 : decode cX5_valueWithout 11 = .ok (.new 141, 3) := by decide +kernel
theorem dX5_valueWithout_14 : decode cX5_valueWithout 14 = .ok (.dup, 1) := by decide +kernel
theorem dX5_valueWithout_15 : decode cX5_valueWithout 15 = .ok (.ldc 143, 2) := by decide +kernel
theorem dX5_valueWithout_17 : decode cX5_valueWithout 17 = .ok (.invokespecial 145, 3) := by decide +kernel
theorem dX5_valueWithout_20 : decode cX5_valueWithout 20 = .ok (.athrow, 1) := by decide +kernel
theorem dX5_valueWithout_21 : decode cX5_valueWithout 21 = .ok (.aload_n 0, 1) := by decide +kernel
theorem dX5_valueWithout_22 : decode cX5_valueWithout 22 = .ok (.getfield 10, 3) := by decide +kernel
theorem dX5_valueWithout_25 : decode cX5_valueWithout 25 = .ok (.iload_n 1, 1) := by decide +kernel
theorem dX5_valueWithout_26 : decode cX5_valueWithout 26 = .ok (.invokevirtual 158, 3) := by decide +kernel
theorem dX5_valueWithout_29 : decode cX5_valueWithout 29 = .ok (.ifCond .ne 13, 3) := by decide +kernel
theorem dX5_valueWithout_32 : decode cX5_valueWithout 32 = .ok (.new 201, 3) := by decide +kernel
theorem dX5_valueWithout_35 : decode cX5_valueWithout 35 = .ok (.dup, 1) := by decide +kernel
theorem dX5_valueWithout_36 : decode cX5_valueWithout 36 = .ok (.ldc 220, 2) := by decide +kernel
theorem dX5_valueWithout_38 : decode cX5_valueWithout 38 = .ok (.invokespecial 205, 3) := by decide +kernel
theorem dX5_valueWithout_41 : decode cX5_valueWithout 41 = .ok (.athrow, 1) := by decide +kernel
theorem dX5_valueWithout_42 : decode cX5_valueWithout 42 = .ok (.aload_n 0, 1) := by decide +kernel
theorem dX5_valueWithout_43 : decode cX5_valueWithout 43 = .ok (.getfield 21, 3) := by decide +kernel
theorem dX5_valueWithout_46 : decode cX5_valueWithout 46 = .ok (.iload_n 1, 1) := by decide +kernel
theorem dX5_valueWithout_47 : decode cX5_valueWithout 47 = .ok (.invokevirtual 225, 3) := by decide +kernel
theorem dX5_valueWithout_50 : decode cX5_valueWithout 50 = .ok (.invokestatic 190, 3) := by decide +kernel
theorem dX5_valueWithout_53 : decode cX5_valueWithout 53 = .ok (.aload_n 0, 1) := by decide +kernel
theorem dX5_valueWithout_54 : decode cX5_valueWithout 54 = .ok (.getfield 10, 3) := by decide +kernel
theorem dX5_valueWithout_57 : decode cX5_valueWithout 57 = .ok (.invokevirtual 132, 3) := by decide +kernel
theorem dX5_valueWithout_60 : decode cX5_valueWithout 60 = .ok (.ixor, 1) := by decide +kernel
theorem dX5_valueWithout_61 : decode cX5_valueWithout 61 = .ok (.ireturn, 1) := by decide +kernel
theorem dX5_lay_0 : decode cX5_lay 0 = .ok (.aload_n 0, 1) := by decide +kernel
theorem dX5_lay_1 : decode cX5_lay 1 = .ok (.getfield 10, 3) := by decide +kernel
theorem dX5_lay_4 : decode cX5_lay 4 = .ok (.iload_n 1, 1) := by decide +kernel
theorem dX5_lay_5 : decode cX5_lay 5 = .ok (.iload_n 2, 1) := by decide +kernel
theorem dX5_lay_6 : decode cX5_lay 6 = .ok (.invokevirtual 166, 3) := by decide +kernel
theorem dX5_lay_9 : decode cX5_lay 9 = .ok (.ifCond .ne 13, 3) := by decide +kernel
theorem dX5_lay_12 : decode cX5_lay 12 = .ok (.new 141, 3) := by decide +kernel
theorem dX5_lay_15 : decode cX5_lay 15 = .ok (.dup, 1) := by decide +kernel
theorem dX5_lay_16 : decode cX5_lay 16 = .ok (.ldc 170, 2) := by decide +kernel
theorem dX5_lay_18 : decode cX5_lay 18 = .ok (.invokespecial 145, 3) := by decide +kernel
theorem dX5_lay_21 : decode cX5_lay 21 = .ok (.athrow, 1) := by decide +kernel
theorem dX5_lay_22 : decode cX5_lay 22 = .ok (.aload_n 0, 1) := by decide +kernel
theorem dX5_lay_23 : decode cX5_lay 23 = .ok (.getfield 10, 3) := by decide +kernel
theorem dX5_lay_26 : decode cX5_lay 26 = .ok (.iload_n 1, 1) := by decide +kernel
theorem dX5_lay_27 : decode cX5_lay 27 = .ok (.iload_n 2, 1) := by decide +kernel
theorem dX5_lay_28 : decode cX5_lay 28 = .ok (.invokevirtual 172, 3) := by decide +kernel
theorem dX5_lay_31 : decode cX5_lay 31 = .ok (.ifCond .eq 13, 3) := by decide +kernel
theorem dX5_lay_34 : decode cX5_lay 34 = .ok (.new 51, 3) := by decide +kernel
theorem dX5_lay_37 : decode cX5_lay 37 = .ok (.dup, 1) := by decide +kernel
theorem dX5_lay_38 : decode cX5_lay 38 = .ok (.ldc 203, 2) := by decide +kernel
theorem dX5_lay_40 : decode cX5_lay 40 = .ok (.invokespecial 55, 3) := by decide +kernel
theorem dX5_lay_43 : decode cX5_lay 43 = .ok (.athrow, 1) := by decide +kernel
theorem dX5_lay_44 : decode cX5_lay 44 = .ok (.aload_n 0, 1) := by decide +kernel
theorem dX5_lay_45 : decode cX5_lay 45 = .ok (.getfield 35, 3) := by decide +kernel
end
section
theorem dX5_lay_48 : decode cX5_lay 48 = .ok (.aload_n 0, 1) := by decide +kernel
theorem dX5_lay_49 : decode cX5_lay 49 = .ok (.getfield 10, 3) := by decide +kernel
theorem dX5_lay_52 : decode cX5_lay 52 = .ok (.invokevirtual 71, 3) := by decide +kernel
theorem dX5_lay_55 : decode cX5_lay 55 = .ok (.aload_n 0, 1) := by decide +kernel
theorem dX5_lay_56 : decode cX5_lay 56 = .ok (.getfield 10, 3) := by decide +kernel
theorem dX5_lay_59 : decode cX5_lay 59 = .ok (.iload_n 1, 1) := by decide +kernel
theorem dX5_lay_60 : decode cX5_lay 60 = .ok (.iload_n 2, 1) := by decide +kernel
theorem dX5_lay_61 : decode cX5_lay 61 = .ok (.invokevirtual 228, 3) := by decide +kernel
theorem dX5_lay_64 : decode cX5_lay 64 = .ok (.aload_n 0, 1) := by decide +kernel
theorem dX5_lay_65 : decode cX5_lay 65 = .ok (.getfield 10, 3) := by decide +kernel
theorem dX5_lay_68 : decode cX5_lay 68 = .ok (.aload_n 0, 1) := by decide +kernel
theorem dX5_lay_69 : decode cX5_lay 69 = .ok (.getfield 10, 3) := by decide +kernel
theorem dX5_lay_72 : decode cX5_lay 72 = .ok (.getfield 105, 3) := by decide +kernel
theorem dX5_lay_75 : decode cX5_lay 75 = .ok (.invokevirtual 113, 3) := by decide +kernel
theorem dX5_lay_78 : decode cX5_lay 78 = .ok (.ireturn, 1) := by decide +kernel
theorem dX5_pass_0 : decode cX5_pass 0 = .ok (.aload_n 0, 1) := by decide +kernel
theorem dX5_pass_1 : decode cX5_pass 1 = .ok (.getfield 10, 3) := by decide +kernel
theorem dX5_pass_4 : decode cX5_pass 4 = .ok (.getfield 102, 3) := by decide +kernel
theorem dX5_pass_7 : decode cX5_pass 7 = .ok (.ifCond .ne 13, 3) := by decide +kernel
theorem dX5_pass_10 : decode cX5_pass 10 = .ok (.new 51, 3) := by decide +kernel
theorem dX5_pass_13 : decode cX5_pass 13 = .ok (.dup, 1) := by decide +kernel
theorem dX5_pass_14 : decode cX5_pass 14 = .ok (.ldc 232, 2) := by decide +kernel
theorem dX5_pass_16 : decode cX5_pass 16 = .ok (.invokespecial 55, 3) := by decide +kernel
theorem dX5_pass_19 : decode cX5_pass 19 = .ok (.athrow, 1) := by decide +kernel
theorem dX5_pass_20 : decode cX5_pass 20 = .ok (.aload_n 0, 1) := by decide +kernel
theorem dX5_pass_21 : decode cX5_pass 21 = .ok (.getfield 35, 3) := by decide +kernel
theorem dX5_pass_24 : decode cX5_pass 24 = .ok (.aload_n 0, 1) := by decide +kernel
theorem dX5_pass_25 : decode cX5_pass 25 = .ok (.getfield 10, 3) := by decide +kernel
theorem dX5_pass_28 : decode cX5_pass 28 = .ok (.invokevirtual 71, 3) := by decide +kernel
theorem dX5_pass_31 : decode cX5_pass 31 = .ok (.aload_n 0, 1) := by decide +kernel
theorem dX5_pass_32 : decode cX5_pass 32 = .ok (.getfield 10, 3) := by decide +kernel
theorem dX5_pass_35 : decode cX5_pass 35 = .ok (.invokevirtual 234, 3) := by decide +kernel
theorem dX5_pass_38 : decode cX5_pass 38 = .ok (.aload_n 0, 1) := by decide +kernel
theorem dX5_pass_39 : decode cX5_pass 39 = .ok (.getfield 10, 3) := by decide +kernel
theorem dX5_pass_42 : decode cX5_pass 42 = .ok (.getfield 102, 3) := by decide +kernel
theorem dX5_pass_45 : decode cX5_pass 45 = .ok (.ireturn, 1) := by decide +kernel
theorem dX5_playOut_0 : decode cX5_playOut 0 = .ok (.iload_n 1, 1) := by decide +kernel
theorem dX5_playOut_1 : decode cX5_playOut 1 = .ok (.iconst 1, 1) := by decide +kernel
theorem dX5_playOut_2 : decode cX5_playOut 2 = .ok (.if_icmp .lt 9, 3) := by decide +kernel
theorem dX5_playOut_5 : decode cX5_playOut 5 = .ok (.iload_n 1, 1) := by decide +kernel
theorem dX5_playOut_6 : decode cX5_playOut 6 = .ok (.bipush 20, 2) := by decide +kernel
theorem dX5_playOut_8 : decode cX5_playOut 8 = .ok (.if_icmp .le 13, 3) := by decide +kernel
theorem dX5_playOut_11 : decode cX5_playOut 11 = .ok (.new 62, 3) := by decide +kernel
theorem dX5_playOut_14 : decode cX5_playOut 14 = .ok (.dup, 1) := by decide +kernel
theorem dX5_playOut_15 : decode cX5_playOut 15 = .ok (.ldc 237, 2) := by decide +kernel
theorem dX5_playOut_17 : decode cX5_playOut 17 = .ok (.invokespecial 66, 3) := by decide +kernel
theorem dX5_playOut_20 : decode cX5_playOut 20 = .ok (.athrow, 1) := by decide +kernel
theorem dX5_playOut_21 : decode cX5_playOut 21 = .ok (.aload_n 0, 1) := by decide +kernel
theorem dX5_playOut_22 : decode cX5_playOut 22 = .ok (.getfield 35, 3) := by decide +kernel
theorem dX5_playOut_25 : decode cX5_playOut 25 = .ok (.aload_n 0, 1) := by decide +kernel
theorem dX5_playOut_26 : decode cX5_playOut 26 = .ok (.getfield 10, 3) := by decide +kernel
theorem dX5_playOut_29 : decode cX5_playOut 29 = .ok (.invokevirtual 71, 3) := by decide +kernel
theorem dX5_playOut_32 : decode cX5_playOut 32 = .ok (.iconst 0, 1) := by decide +kernel
theorem dX5_playOut_33 : decode cX5_playOut 33 = .ok (.istore_n 2, 1) := by decide +kernel
theorem dX5_playOut_34 : decode cX5_playOut 34 = .ok (.iload_n 2, 1) := by decide +kernel
theorem dX5_playOut_35 : decode cX5_playOut 35 = .ok (.iload_n 1, 1) := by decide +kernel
theorem dX5_playOut_36 : decode cX5_playOut 36 = .ok (.if_icmp .ge 53, 3) := by decide +kernel
theorem dX5_playOut_39 : decode cX5_playOut 39 = .ok (.aload_n 0, 1) := by decide +kernel
theorem dX5_playOut_40 : decode cX5_playOut 40 = .ok (.getfield 10, 3) := by decide +kernel
theorem dX5_playOut_43 : decode cX5_playOut 43 = .ok (.invokevirtual 122, 3) := by decide +kernel
theorem dX5_playOut_46 : decode cX5_playOut 46 = .ok (.ifCond .ne 43, 3) := by decide +kernel
theorem dX5_playOut_49 : decode cX5_playOut 49 = .ok (.aload_n 0, 1) := by decide +kernel
theorem dX5_playOut_50 : decode cX5_playOut 50 = .ok (.invokevirtual 217, 3) := by decide +kernel
theorem dX5_playOut_53 : decode cX5_playOut 53 = .ok (.istore_n 3, 1) := by decide +kernel
theorem dX5_playOut_54 : decode cX5_playOut 54 = .ok (.iload_n 3, 1) := by decide +kernel
theorem dX5_playOut_55 : decode cX5_playOut 55 = .ok (.bipush 100, 2) := by decide +kernel
theorem dX5_playOut_57 : decode cX5_playOut 57 = .ok (.if_icmp .ne 13, 3) := by decide +kernel
theorem dX5_playOut_60 : decode cX5_playOut 60 = .ok (.aload_n 0, 1) := by decide +kernel
theorem dX5_playOut_61 : decode cX5_playOut 61 = .ok (.getfield 10, 3) := by decide +kernel
theorem dX5_playOut_64 : decode cX5_playOut 64 = .ok (.invokevirtual 234, 3) := by decide +kernel
theorem dX5_playOut_67 : decode cX5_playOut 67 = .ok (.goto 16, 3) := by decide +kernel
theorem dX5_playOut_70 : decode cX5_playOut 70 = .ok (.aload_n 0, 1) := by decide +kernel
theorem dX5_playOut_71 : decode cX5_playOut 71 = .ok (.getfield 10, 3) := by decide +kernel
theorem dX5_playOut_74 : decode cX5_playOut 74 = .ok (.iload_n 3, 1) := by decide +kernel
theorem dX5_playOut_75 : decode cX5_playOut 75 = .ok (.iconst 4, 1) := by decide +kernel
theorem dX5_playOut_76 : decode cX5_playOut 76 = .ok (.idiv, 1) := by decide +kernel
theorem dX5_playOut_77 : decode cX5_playOut 77 = .ok (.iload_n 3, 1) := by decide +kernel
theorem dX5_playOut_78 : decode cX5_playOut 78 = .ok (.iconst 4, 1) := by decide +kernel
theorem dX5_playOut_79 : decode cX5_playOut 79 = .ok (.irem, 1) := by decide +kernel
theorem dX5_playOut_80 : decode cX5_playOut 80 = .ok (.invokevirtual 228, 3) := by decide +kernel
theorem dX5_playOut_83 : decode cX5_playOut 83 = .ok (.iinc 2 1, 3) := by decide +kernel
theorem dX5_playOut_86 : decode cX5_playOut 86 = .ok (.goto (-52), 3) := by decide +kernel
theorem dX5_playOut_89 : decode cX5_playOut 89 = .ok (.iload_n 2, 1) := by decide +kernel
theorem dX5_playOut_90 : decode cX5_playOut 90 = .ok (.ireturn, 1) := by decide +kernel
theorem dX5_setPasses_0 : decode cX5_setPasses 0 = .ok (.iload_n 1, 1) := by decide +kernel
theorem dX5_setPasses_1 : decode cX5_setPasses 1 = .ok (.ifCond .lt 9, 3) := by decide +kernel
theorem dX5_setPasses_4 : decode cX5_setPasses 4 = .ok (.iload_n 1, 1) := by decide +kernel
theorem dX5_setPasses_5 : decode cX5_setPasses 5 = .ok (.bipush 9, 2) := by decide +kernel
theorem dX5_setPasses_7 : decode cX5_setPasses 7 = .ok (.if_icmp .le 13, 3) := by decide +kernel
theorem dX5_setPasses_10 : decode cX5_setPasses 10 = .ok (.new 62, 3) := by decide +kernel
theorem dX5_setPasses_13 : decode cX5_setPasses 13 = .ok (.dup, 1) := by decide +kernel
theorem dX5_setPasses_14 : decode cX5_setPasses 14 = .ok (.ldc 239, 2) := by decide +kernel
theorem dX5_setPasses_16 : decode cX5_setPasses 16 = .ok (.invokespecial 66, 3) := by decide +kernel
theorem dX5_setPasses_19 : decode cX5_setPasses 19 = .ok (.athrow, 1) := by decide +kernel
theorem dX5_setPasses_20 : decode cX5_setPasses 20 = .ok (.aload_n 0, 1) := by decide +kernel
theorem dX5_setPasses_21 : decode cX5_setPasses 21 = .ok (.getfield 35, 3) := by decide +kernel
theorem dX5_setPasses_24 : decode cX5_setPasses 24 = .ok (.aload_n 0, 1) := by decide +kernel
theorem dX5_setPasses_25 : decode cX5_setPasses 25 = .ok (.getfield 10, 3) := by decide +kernel
theorem dX5_setPasses_28 : decode cX5_setPasses 28 = .ok (.invokevirtual 71, 3) := by decide +kernel
theorem dX5_setPasses_31 : decode cX5_setPasses 31 = .ok (.aload_n 0, 1) := by decide +kernel
theorem dX5_setPasses_32 : decode cX5_setPasses 32 = .ok (.getfield 10, 3) := by decide +kernel
theorem dX5_setPasses_35 : decode cX5_setPasses 35 = .ok (.getfield 102, 3) := by decide +kernel
theorem dX5_setPasses_38 : decode cX5_setPasses 38 = .ok (.istore_n 2, 1) := by decide +kernel
theorem dX5_setPasses_39 : decode cX5_setPasses 39 = .ok (.aload_n 0, 1) := by decide +kernel
theorem dX5_setPasses_40 : decode cX5_setPasses 40 = .ok (.getfield 10, 3) := by decide +kernel
theorem dX5_setPasses_43 : decode cX5_setPasses 43 = .ok (.iload_n 1, 1) := by decide +kernel
theorem dX5_setPasses_44 : decode cX5_setPasses 44 = .ok (.putfield 102, 3) := by decide +kernel
theorem dX5_setPasses_47 : decode cX5_setPasses 47 = .ok (.iload_n 2, 1) := by decide +kernel
theorem dX5_setPasses_48 : decode cX5_setPasses 48 = .ok (.ireturn, 1) := by decide +kernel
theorem dX5_move_0 : decode cX5_move 0 = .ok (.aload_n 0, 1) := by decide +kernel
theorem dX5_move_1 : decode cX5_move 1 = .ok (.getfield 10, 3) := by decide +kernel
theorem dX5_move_4 : decode cX5_move 4 = .ok (.iload_n 1, 1) := by decide +kernel
theorem dX5_move_5 : decode cX5_move 5 = .ok (.invokevirtual 241, 3) := by decide +kernel
theorem dX5_move_8 : decode cX5_move 8 = .ok (.astore_n 3, 1) := by decide +kernel
theorem dX5_move_9 : decode cX5_move 9 = .ok (.aload_n 3, 1) := by decide +kernel
theorem dX5_move_10 : decode cX5_move 10 = .ok (.ifnonnull 13, 3) := by decide +kernel
theorem dX5_move_13 : decode cX5_move 13 = .ok (.new 141, 3) := by decide +kernel
theorem dX5_move_16 : decode cX5_move 16 = .ok (.dup, 1) := by decide +kernel
theorem dX5_move_17 : decode cX5_move 17 = .ok (.ldc 245, 2) := by decide +kernel
theorem dX5_move_19 : decode cX5_move 19 = .ok (.invokespecial 145, 3) := by decide +kernel
theorem dX5_move_22 : decode cX5_move 22 = .ok (.athrow, 1) := by decide +kernel
theorem dX5_move_23 : decode cX5_move 23 = .ok (.iload_n 2, 1) := by decide +kernel
theorem dX5_move_24 : decode cX5_move 24 = .ok (.tableswitch 51 0 3 #[32, 36, 41, 46], 32) := by decide +kernel
theorem dX5_move_56 : decode cX5_move 56 = .ok (.iload_n 1, 1) := by decide +kernel
theorem dX5_move_57 : decode cX5_move 57 = .ok (.iconst 2, 1) := by decide +kernel
theorem dX5_move_58 : decode cX5_move 58 = .ok (.irem, 1) := by decide +kernel
theorem dX5_move_59 : decode cX5_move 59 = .ok (.ireturn, 1) := by decide +kernel
theorem dX5_move_60 : decode cX5_move 60 = .ok (.aload_n 3, 1) := by decide +kernel
theorem dX5_move_61 : decode cX5_move 61 = .ok (.getfield 247, 3) := by decide +kernel
theorem dX5_move_64 : decode cX5_move 64 = .ok (.ireturn, 1) := by decide +kernel
theorem dX5_move_65 : decode cX5_move 65 = .ok (.aload_n 3, 1) := by decide +kernel
theorem dX5_move_66 : decode cX5_move 66 = .ok (.getfield 252, 3) := by decide +kernel
theorem dX5_move_69 : decode cX5_move 69 = .ok (.ireturn, 1) := by decide +kernel
theorem dX5_move_70 : decode cX5_move 70 = .ok (.aload_n 3, 1) := by decide +kernel
theorem dX5_move_71 : decode cX5_move 71 = .ok (.getfield 255, 3) := by decide +kernel
theorem dX5_move_74 : decode cX5_move 74 = .ok (.ireturn, 1) := by decide +kernel
theorem dX5_move_75 : decode cX5_move 75 = .ok (.new 62, 3) := by decide +kernel
theorem dX5_move_78 : decode cX5_move 78 = .ok (.dup, 1) := by decide +kernel
theorem dX5_move_79 : decode cX5_move 79 = .ok (.ldc_w 258, 3) := by decide +kernel
theorem dX5_move_82 : decode cX5_move 82 = .ok (.invokespecial 66, 3) := by decide +kernel
theorem dX5_move_85 : decode cX5_move 85 = .ok (.athrow, 1) := by decide +kernel
theorem dX5_account_0 : decode cX5_account 0 = .ok (.iload_n 1, 1) := by decide +kernel
theorem dX5_account_1 : decode cX5_account 1 = .ok (.ifCond .lt 8, 3) := by decide +kernel
theorem dX5_account_4 : decode cX5_account 4 = .ok (.iload_n 1, 1) := by decide +kernel
theorem dX5_account_5 : decode cX5_account 5 = .ok (.iconst 1, 1) := by decide +kernel
theorem dX5_account_6 : decode cX5_account 6 = .ok (.if_icmp .le 14, 3) := by decide +kernel
theorem dX5_account_9 : decode cX5_account 9 = .ok (.new 141, 3) := by decide +kernel
theorem dX5_account_12 : decode cX5_account 12 = .ok (.dup, 1) := by decide +kernel
theorem dX5_account_13 : decode cX5_account 13 = .ok (.ldc_w 260, 3) := by decide +kernel
theorem dX5_account_16 : decode cX5_account 16 = .ok (.invokespecial 145, 3) := by decide +kernel
theorem dX5_account_19 : decode cX5_account 19 = .ok (.athrow, 1) := by decide +kernel
theorem dX5_account_20 : decode cX5_account 20 = .ok (.iload_n 2, 1) := by decide +kernel
theorem dX5_account_21 : decode cX5_account 21 = .ok (.ifCond .lt 8, 3) := by decide +kernel
theorem dX5_account_24 : decode cX5_account 24 = .ok (.iload_n 2, 1) := by decide +kernel
theorem dX5_account_25 : decode cX5_account 25 = .ok (.iconst 4, 1) := by decide +kernel
theorem dX5_account_26 : decode cX5_account 26 = .ok (.if_icmp .le 14, 3) := by decide +kernel
theorem dX5_account_29 : decode cX5_account 29 = .ok (.new 62, 3) := by decide +kernel
theorem dX5_account_32 : decode cX5_account 32 = .ok (.dup, 1) := by decide +kernel
theorem dX5_account_33 : decode cX5_account 33 = .ok (.ldc_w 262, 3) := by decide +kernel
theorem dX5_account_36 : decode cX5_account 36 = .ok (.invokespecial 66, 3) := by decide +kernel
theorem dX5_account_39 : decode cX5_account 39 = .ok (.athrow, 1) := by decide +kernel
theorem dX5_account_40 : decode cX5_account 40 = .ok (.iload_n 2, 1) := by decide +kernel
theorem dX5_account_41 : decode cX5_account 41 = .ok (.iconst 4, 1) := by decide +kernel
theorem dX5_account_42 : decode cX5_account 42 = .ok (.if_icmp .ne 17, 3) := by decide +kernel
theorem dX5_account_45 : decode cX5_account 45 = .ok (.aload_n 0, 1) := by decide +kernel
theorem dX5_account_46 : decode cX5_account 46 = .ok (.getfield 10, 3) := by decide +kernel
theorem dX5_account_49 : decode cX5_account 49 = .ok (.iload_n 1, 1) := by decide +kernel
theorem dX5_account_50 : decode cX5_account 50 = .ok (.invokevirtual 264, 3) := by decide +kernel
theorem dX5_account_53 : decode cX5_account 53 = .ok (.invokestatic 108, 3) := by decide +kernel
theorem dX5_account_56 : decode cX5_account 56 = .ok (.goto 12, 3) := by decide +kernel
theorem dX5_account_59 : decode cX5_account 59 = .ok (.aload_n 0, 1) := by decide +kernel
theorem dX5_account_60 : decode cX5_account 60 = .ok (.getfield 10, 3) := by decide +kernel
theorem dX5_account_63 : decode cX5_account 63 = .ok (.iload_n 1, 1) := by decide +kernel
theorem dX5_account_64 : decode cX5_account 64 = .ok (.iload_n 2, 1) := by decide +kernel
theorem dX5_account_65 : decode cX5_account 65 = .ok (.invokevirtual 267, 3) := by decide +kernel
theorem dX5_account_68 : decode cX5_account 68 = .ok (.ireturn, 1) := by decide +kernel
theorem dX5_writeBoard_0 : decode cX5_writeBoard 0 = .ok (.aload_n 0, 1) := by decide +kernel
theorem dX5_writeBoard_1 : decode cX5_writeBoard 1 = .ok (.iconst 0, 1) := by decide +kernel
theorem dX5_writeBoard_2 : decode cX5_writeBoard 2 = .ok (.putfield 270, 3) := by decide +kernel
theorem dX5_writeBoard_5 : decode cX5_writeBoard 5 = .ok (.iconst 0, 1) := by decide +kernel
theorem dX5_writeBoard_6 : decode cX5_writeBoard 6 = .ok (.istore_n 1, 1) := by decide +kernel
theorem dX5_writeBoard_7 : decode cX5_writeBoard 7 = .ok (.iload_n 1, 1) := by decide +kernel
theorem dX5_writeBoard_8 : decode cX5_writeBoard 8 = .ok (.aload_n 0, 1) := by decide +kernel
theorem dX5_writeBoard_9 : decode cX5_writeBoard 9 = .ok (.getfield 10, 3) := by decide +kernel
theorem dX5_writeBoard_12 : decode cX5_writeBoard 12 = .ok (.getfield 86, 3) := by decide +kernel
theorem dX5_writeBoard_15 : decode cX5_writeBoard 15 = .ok (.if_icmp .ge 40, 3) := by decide +kernel
theorem dX5_writeBoard_18 : decode cX5_writeBoard 18 = .ok (.aload_n 0, 1) := by decide +kernel
theorem dX5_writeBoard_19 : decode cX5_writeBoard 19 = .ok (.aload_n 0, 1) := by decide +kernel
theorem dX5_writeBoard_20 : decode cX5_writeBoard 20 = .ok (.getfield 10, 3) := by decide +kernel
theorem dX5_writeBoard_23 : decode cX5_writeBoard 23 = .ok (.iload_n 1, 1) := by decide +kernel
theorem dX5_writeBoard_24 : decode cX5_writeBoard 24 = .ok (.invokevirtual 158, 3) := by decide +kernel
theorem dX5_writeBoard_27 : decode cX5_writeBoard 27 = .ok (.ifCond .eq 8, 3) := by decide +kernel
theorem dX5_writeBoard_30 : decode cX5_writeBoard 30 = .ok (.bipush 46, 2) := by decide +kernel
theorem dX5_writeBoard_32 : decode cX5_writeBoard 32 = .ok (.goto 14, 3) := by decide +kernel
theorem dX5_writeBoard_35 : decode cX5_writeBoard 35 = .ok (.bipush 97, 2) := by decide +kernel
theorem dX5_writeBoard_37 : decode cX5_writeBoard 37 = .ok (.aload_n 0, 1) := by decide +kernel
theorem dX5_writeBoard_38 : decode cX5_writeBoard 38 = .ok (.getfield 10, 3) := by decide +kernel
theorem dX5_writeBoard_41 : decode cX5_writeBoard 41 = .ok (.iload_n 1, 1) := by decide +kernel
theorem dX5_writeBoard_42 : decode cX5_writeBoard 42 = .ok (.invokevirtual 146, 3) := by decide +kernel
theorem dX5_writeBoard_45 : decode cX5_writeBoard 45 = .ok (.iadd, 1) := by decide +kernel
theorem dX5_writeBoard_46 : decode cX5_writeBoard 46 = .ok (.invokevirtual 273, 3) := by decide +kernel
theorem dX5_writeBoard_49 : decode cX5_writeBoard 49 = .ok (.iinc 1 1, 3) := by decide +kernel
theorem dX5_writeBoard_52 : decode cX5_writeBoard 52 = .ok (.goto (-45), 3) := by decide +kernel
theorem dX5_writeBoard_55 : decode cX5_writeBoard 55 = .ok (.aload_n 0, 1) := by decide +kernel
theorem dX5_writeBoard_56 : decode cX5_writeBoard 56 = .ok (.bipush 47, 2) := by decide +kernel
theorem dX5_writeBoard_58 : decode cX5_writeBoard 58 = .ok (.invokevirtual 273, 3) := by decide +kernel
theorem dX5_writeBoard_61 : decode cX5_writeBoard 61 = .ok (.aload_n 0, 1) := by decide +kernel
theorem dX5_writeBoard_62 : decode cX5_writeBoard 62 = .ok (.bipush 48, 2) := by decide +kernel
theorem dX5_writeBoard_64 : decode cX5_writeBoard 64 = .ok (.aload_n 0, 1) := by decide +kernel
theorem dX5_writeBoard_65 : decode cX5_writeBoard 65 = .ok (.getfield 10, 3) := by decide +kernel
theorem dX5_writeBoard_68 : decode cX5_writeBoard 68 = .ok (.invokevirtual 116, 3) := by decide +kernel
theorem dX5_writeBoard_71 : decode cX5_writeBoard 71 = .ok (.iadd, 1) := by decide +kernel
theorem dX5_writeBoard_72 : decode cX5_writeBoard 72 = .ok (.invokevirtual 273, 3) := by decide +kernel
theorem dX5_writeBoard_75 : decode cX5_writeBoard 75 = .ok (.aload_n 0, 1) := by decide +kernel
theorem dX5_writeBoard_76 : decode cX5_writeBoard 76 = .ok (.bipush 47, 2) := by decide +kernel
theorem dX5_writeBoard_78 : decode cX5_writeBoard 78 = .ok (.invokevirtual 273, 3) := by decide +kernel
theorem dX5_writeBoard_81 : decode cX5_writeBoard 81 = .ok (.aload_n 0, 1) := by decide +kernel
theorem dX5_writeBoard_82 : decode cX5_writeBoard 82 = .ok (.bipush 48, 2) := by decide +kernel
theorem dX5_writeBoard_84 : decode cX5_writeBoard 84 = .ok (.aload_n 0, 1) := by decide +kernel
theorem dX5_writeBoard_85 : decode cX5_writeBoard 85 = .ok (.getfield 10, 3) := by decide +kernel
theorem dX5_writeBoard_88 : decode cX5_writeBoard 88 = .ok (.getfield 102, 3) := by decide +kernel
theorem dX5_writeBoard_91 : decode cX5_writeBoard 91 = .ok (.iadd, 1) := by decide +kernel
theorem dX5_writeBoard_92 : decode cX5_writeBoard 92 = .ok (.invokevirtual 273, 3) := by decide +kernel
theorem dX5_writeBoard_95 : decode cX5_writeBoard 95 = .ok (.aload_n 0, 1) := by decide +kernel
theorem dX5_writeBoard_96 : decode cX5_writeBoard 96 = .ok (.getfield 270, 3) := by decide +kernel
theorem dX5_writeBoard_99 : decode cX5_writeBoard 99 = .ok (.ireturn, 1) := by decide +kernel
theorem dX5_writtenByte_0 : decode cX5_writtenByte 0 = .ok (.iload_n 1, 1) := by decide +kernel
theorem dX5_writtenByte_1 : decode cX5_writtenByte 1 = .ok (.ifCond .lt 20, 3) := by decide +kernel
theorem dX5_writtenByte_4 : decode cX5_writtenByte 4 = .ok (.iload_n 1, 1) := by decide +kernel
theorem dX5_writtenByte_5 : decode cX5_writtenByte 5 = .ok (.aload_n 0, 1) := by decide +kernel
theorem dX5_writtenByte_6 : decode cX5_writtenByte 6 = .ok (.getfield 270, 3) := by decide +kernel
theorem dX5_writtenByte_9 : decode cX5_writtenByte 9 = .ok (.if_icmp .ge 12, 3) := by decide +kernel
theorem dX5_writtenByte_12 : decode cX5_writtenByte 12 = .ok (.iload_n 1, 1) := by decide +kernel
theorem dX5_writtenByte_13 : decode cX5_writtenByte 13 = .ok (.aload_n 0, 1) := by decide +kernel
theorem dX5_writtenByte_14 : decode cX5_writtenByte 14 = .ok (.getfield 43, 3) := by decide +kernel
theorem dX5_writtenByte_17 : decode cX5_writtenByte 17 = .ok (.arraylength, 1) := by decide +kernel
theorem dX5_writtenByte_18 : decode cX5_writtenByte 18 = .ok (.if_icmp .lt 14, 3) := by decide +kernel
theorem dX5_writtenByte_21 : decode cX5_writtenByte 21 = .ok (.new 141, 3) := by decide +kernel
theorem dX5_writtenByte_24 : decode cX5_writtenByte 24 = .ok (.dup, 1) := by decide +kernel
theorem dX5_writtenByte_25 : decode cX5_writtenByte 25 = .ok (.ldc_w 276, 3) := by decide +kernel
theorem dX5_writtenByte_28 : decode cX5_writtenByte 28 = .ok (.invokespecial 145, 3) := by decide +kernel
theorem dX5_writtenByte_31 : decode cX5_writtenByte 31 = .ok (.athrow, 1) := by decide +kernel
theorem dX5_writtenByte_32 : decode cX5_writtenByte 32 = .ok (.aload_n 0, 1) := by decide +kernel
theorem dX5_writtenByte_33 : decode cX5_writtenByte 33 = .ok (.getfield 43, 3) := by decide +kernel
theorem dX5_writtenByte_36 : decode cX5_writtenByte 36 = .ok (.iload_n 1, 1) := by decide +kernel
theorem dX5_writtenByte_37 : decode cX5_writtenByte 37 = .ok (.baload, 1) := by decide +kernel
theorem dX5_writtenByte_38 : decode cX5_writtenByte 38 = .ok (.ireturn, 1) := by decide +kernel
theorem dX5_undo_0 : decode cX5_undo 0 = .ok (.aload_n 0, 1) := by decide +kernel
theorem dX5_undo_1 : decode cX5_undo 1 = .ok (.getfield 35, 3) := by decide +kernel
theorem dX5_undo_4 : decode cX5_undo 4 = .ok (.getfield 278, 3) := by decide +kernel
theorem dX5_undo_7 : decode cX5_undo 7 = .ok (.ifCond .ne 14, 3) := by decide +kernel
theorem dX5_undo_10 : decode cX5_undo 10 = .ok (.new 51, 3) := by decide +kernel
theorem dX5_undo_13 : decode cX5_undo 13 = .ok (.dup, 1) := by decide +kernel
theorem dX5_undo_14 : decode cX5_undo 14 = .ok (.ldc_w 281, 3) := by decide +kernel
theorem dX5_undo_17 : decode cX5_undo 17 = .ok (.invokespecial 55, 3) := by decide +kernel
theorem dX5_undo_20 : decode cX5_undo 20 = .ok (.athrow, 1) := by decide +kernel
theorem dX5_undo_21 : decode cX5_undo 21 = .ok (.aload_n 0, 1) := by decide +kernel
theorem dX5_undo_22 : decode cX5_undo 22 = .ok (.getfield 35, 3) := by decide +kernel
theorem dX5_undo_25 : decode cX5_undo 25 = .ok (.aload_n 0, 1) := by decide +kernel
theorem dX5_undo_26 : decode cX5_undo 26 = .ok (.getfield 10, 3) := by decide +kernel
theorem dX5_undo_29 : decode cX5_undo 29 = .ok (.invokevirtual 283, 3) := by decide +kernel
theorem dX5_undo_32 : decode cX5_undo 32 = .ok (.aload_n 0, 1) := by decide +kernel
theorem dX5_undo_33 : decode cX5_undo 33 = .ok (.getfield 35, 3) := by decide +kernel
theorem dX5_undo_36 : decode cX5_undo 36 = .ok (.getfield 278, 3) := by decide +kernel
theorem dX5_undo_39 : decode cX5_undo 39 = .ok (.ireturn, 1) := by decide +kernel
theorem dX5_save_0 : decode cX5_save 0 = .ok (.iload_n 1, 1) := by decide +kernel
theorem dX5_save_1 : decode cX5_save 1 = .ok (.ifCond .lt 12, 3) := by decide +kernel
theorem dX5_save_4 : decode cX5_save 4 = .ok (.iload_n 1, 1) := by decide +kernel
theorem dX5_save_5 : decode cX5_save 5 = .ok (.aload_n 0, 1) := by decide +kernel
theorem dX5_save_6 : decode cX5_save 6 = .ok (.getfield 39, 3) := by decide +kernel
theorem dX5_save_9 : decode cX5_save 9 = .ok (.arraylength, 1) := by decide +kernel
theorem dX5_save_10 : decode cX5_save 10 = .ok (.if_icmp .lt 14, 3) := by decide +kernel
theorem dX5_save_13 : decode cX5_save 13 = .ok (.new 141, 3) := by decide +kernel
theorem dX5_save_16 : decode cX5_save 16 = .ok (.dup, 1) := by decide +kernel
theorem dX5_save_17 : decode cX5_save 17 = .ok (.ldc_w 286, 3) := by decide +kernel
theorem dX5_save_20 : decode cX5_save 20 = .ok (.invokespecial 145, 3) := by decide +kernel
theorem dX5_save_23 : decode cX5_save 23 = .ok (.athrow, 1) := by decide +kernel
theorem dX5_save_24 : decode cX5_save 24 = .ok (.aload_n 0, 1) := by decide +kernel
theorem dX5_save_25 : decode cX5_save 25 = .ok (.getfield 39, 3) := by decide +kernel
theorem dX5_save_28 : decode cX5_save 28 = .ok (.iload_n 1, 1) := by decide +kernel
theorem dX5_save_29 : decode cX5_save 29 = .ok (.aload_n 0, 1) := by decide +kernel
theorem dX5_save_30 : decode cX5_save 30 = .ok (.getfield 10, 3) := by decide +kernel
theorem dX5_save_33 : decode cX5_save 33 = .ok (.invokestatic 288, 3) := by decide +kernel
theorem dX5_save_36 : decode cX5_save 36 = .ok (.aload_n 0, 1) := by decide +kernel
theorem dX5_save_37 : decode cX5_save 37 = .ok (.getfield 10, 3) := by decide +kernel
theorem dX5_save_40 : decode cX5_save 40 = .ok (.getfield 119, 3) := by decide +kernel
theorem dX5_save_43 : decode cX5_save 43 = .ok (.ireturn, 1) := by decide +kernel
theorem dX5_restore_0 : decode cX5_restore 0 = .ok (.iload_n 1, 1) := by decide +kernel
theorem dX5_restore_1 : decode cX5_restore 1 = .ok (.ifCond .lt 12, 3) := by decide +kernel
theorem dX5_restore_4 : decode cX5_restore 4 = .ok (.iload_n 1, 1) := by decide +kernel
theorem dX5_restore_5 : decode cX5_restore 5 = .ok (.aload_n 0, 1) := by decide +kernel
theorem dX5_restore_6 : decode cX5_restore 6 = .ok (.getfield 39, 3) := by decide +kernel
theorem dX5_restore_9 : decode cX5_restore 9 = .ok (.arraylength, 1) := by decide +kernel
theorem dX5_restore_10 : decode cX5_restore 10 = .ok (.if_icmp .lt 14, 3) := by decide +kernel
theorem dX5_restore_13 : decode cX5_restore 13 = .ok (.new 141, 3) := by decide +kernel
theorem dX5_restore_16 : decode cX5_restore 16 = .ok (.dup, 1) := by decide +kernel
theorem dX5_restore_17 : decode cX5_restore 17 = .ok (.ldc_w 286, 3) := by decide +kernel
theorem dX5_restore_20 : decode cX5_restore 20 = .ok (.invokespecial 145, 3) := by decide +kernel
theorem dX5_restore_23 : decode cX5_restore 23 = .ok (.athrow, 1) := by decide +kernel
theorem dX5_restore_24 : decode cX5_restore 24 = .ok (.aload_n 0, 1) := by decide +kernel
theorem dX5_restore_25 : decode cX5_restore 25 = .ok (.getfield 39, 3) := by decide +kernel
theorem dX5_restore_28 : decode cX5_restore 28 = .ok (.iload_n 1, 1) := by decide +kernel
theorem dX5_restore_29 : decode cX5_restore 29 = .ok (.aaload, 1) := by decide +kernel
theorem dX5_restore_30 : decode cX5_restore 30 = .ok (.astore_n 2, 1) := by decide +kernel
theorem dX5_restore_31 : decode cX5_restore 31 = .ok (.aload_n 2, 1) := by decide +kernel
theorem dX5_restore_32 : decode cX5_restore 32 = .ok (.ifnonnull 14, 3) := by decide +kernel
theorem dX5_restore_35 : decode cX5_restore 35 = .ok (.new 51, 3) := by decide +kernel
theorem dX5_restore_38 : decode cX5_restore 38 = .ok (.dup, 1) := by decide +kernel
theorem dX5_restore_39 : decode cX5_restore 39 = .ok (.ldc_w 292, 3) := by decide +kernel
theorem dX5_restore_42 : decode cX5_restore 42 = .ok (.invokespecial 55, 3) := by decide +kernel
theorem dX5_restore_45 : decode cX5_restore 45 = .ok (.athrow, 1) := by decide +kernel
theorem dX5_restore_46 : decode cX5_restore 46 = .ok (.aload_n 0, 1) := by decide +kernel
theorem dX5_restore_47 : decode cX5_restore 47 = .ok (.getfield 35, 3) := by decide +kernel
theorem dX5_restore_50 : decode cX5_restore 50 = .ok (.aload_n 0, 1) := by decide +kernel
theorem dX5_restore_51 : decode cX5_restore 51 = .ok (.getfield 10, 3) := by decide +kernel
theorem dX5_restore_54 : decode cX5_restore 54 = .ok (.invokevirtual 71, 3) := by decide +kernel
theorem dX5_restore_57 : decode cX5_restore 57 = .ok (.aload_n 0, 1) := by decide +kernel
theorem dX5_restore_58 : decode cX5_restore 58 = .ok (.getfield 10, 3) := by decide +kernel
theorem dX5_restore_61 : decode cX5_restore 61 = .ok (.aload_n 2, 1) := by decide +kernel
theorem dX5_restore_62 : decode cX5_restore 62 = .ok (.invokevirtual 80, 3) := by decide +kernel
theorem dX5_restore_65 : decode cX5_restore 65 = .ok (.aload_n 0, 1) := by decide +kernel
theorem dX5_restore_66 : decode cX5_restore 66 = .ok (.getfield 10, 3) := by decide +kernel
theorem dX5_restore_69 : decode cX5_restore 69 = .ok (.getfield 119, 3) := by decide +kernel
theorem dX5_restore_72 : decode cX5_restore 72 = .ok (.ireturn, 1) := by decide +kernel
theorem dX5_winnersOn_0 : decode cX5_winnersOn 0 = .ok (.aload_n 0, 1) := by decide +kernel
theorem dX5_winnersOn_1 : decode cX5_winnersOn 1 = .ok (.getfield 10, 3) := by decide +kernel
theorem dX5_winnersOn_4 : decode cX5_winnersOn 4 = .ok (.iload_n 1, 1) := by decide +kernel
theorem dX5_winnersOn_5 : decode cX5_winnersOn 5 = .ok (.invokevirtual 152, 3) := by decide +kernel
theorem dX5_winnersOn_8 : decode cX5_winnersOn 8 = .ok (.istore_n 2, 1) := by decide +kernel
theorem dX5_winnersOn_9 : decode cX5_winnersOn 9 = .ok (.iconst 0, 1) := by decide +kernel
theorem dX5_winnersOn_10 : decode cX5_winnersOn 10 = .ok (.istore_n 3, 1) := by decide +kernel
theorem dX5_winnersOn_11 : decode cX5_winnersOn 11 = .ok (.iconst 0, 1) := by decide +kernel
theorem dX5_winnersOn_12 : decode cX5_winnersOn 12 = .ok (.istore 4, 2) := by decide +kernel
theorem dX5_winnersOn_14 : decode cX5_winnersOn 14 = .ok (.iload 4, 2) := by decide +kernel
theorem dX5_winnersOn_16 : decode cX5_winnersOn 16 = .ok (.iconst 3, 1) := by decide +kernel
theorem dX5_winnersOn_17 : decode cX5_winnersOn 17 = .ok (.if_icmp .ge 48, 3) := by decide +kernel
theorem dX5_winnersOn_20 : decode cX5_winnersOn 20 = .ok (.iload_n 2, 1) := by decide +kernel
theorem dX5_winnersOn_21 : decode cX5_winnersOn 21 = .ok (.iload 4, 2) := by decide +kernel
theorem dX5_winnersOn_23 : decode cX5_winnersOn 23 = .ok (.invokestatic 294, 3) := by decide +kernel
theorem dX5_winnersOn_26 : decode cX5_winnersOn 26 = .ok (.ifCond .eq 33, 3) := by decide +kernel
theorem dX5_winnersOn_29 : decode cX5_winnersOn 29 = .ok (.aload_n 0, 1) := by decide +kernel
theorem dX5_winnersOn_30 : decode cX5_winnersOn 30 = .ok (.getfield 21, 3) := by decide +kernel
theorem dX5_winnersOn_33 : decode cX5_winnersOn 33 = .ok (.iload_n 1, 1) := by decide +kernel
theorem dX5_winnersOn_34 : decode cX5_winnersOn 34 = .ok (.iload 4, 2) := by decide +kernel
theorem dX5_winnersOn_36 : decode cX5_winnersOn 36 = .ok (.invokevirtual 206, 3) := by decide +kernel
theorem dX5_winnersOn_39 : decode cX5_winnersOn 39 = .ok (.invokestatic 190, 3) := by decide +kernel
theorem dX5_winnersOn_42 : decode cX5_winnersOn 42 = .ok (.aload_n 0, 1) := by decide +kernel
theorem dX5_winnersOn_43 : decode cX5_winnersOn 43 = .ok (.getfield 10, 3) := by decide +kernel
theorem dX5_winnersOn_46 : decode cX5_winnersOn 46 = .ok (.invokevirtual 132, 3) := by decide +kernel
theorem dX5_winnersOn_49 : decode cX5_winnersOn 49 = .ok (.if_icmp .ne 10, 3) := by decide +kernel
theorem dX5_winnersOn_52 : decode cX5_winnersOn 52 = .ok (.iload_n 3, 1) := by decide +kernel
theorem dX5_winnersOn_53 : decode cX5_winnersOn 53 = .ok (.iconst 1, 1) := by decide +kernel
theorem dX5_winnersOn_54 : decode cX5_winnersOn 54 = .ok (.iload 4, 2) := by decide +kernel
theorem dX5_winnersOn_56 : decode cX5_winnersOn 56 = .ok (.ishl, 1) := by decide +kernel
theorem dX5_winnersOn_57 : decode cX5_winnersOn 57 = .ok (.ior, 1) := by decide +kernel
theorem dX5_winnersOn_58 : decode cX5_winnersOn 58 = .ok (.istore_n 3, 1) := by decide +kernel
theorem dX5_winnersOn_59 : decode cX5_winnersOn 59 = .ok (.iinc 4 1, 3) := by decide +kernel
theorem dX5_winnersOn_62 : decode cX5_winnersOn 62 = .ok (.goto (-48), 3) := by decide +kernel
theorem dX5_winnersOn_65 : decode cX5_winnersOn 65 = .ok (.iload_n 3, 1) := by decide +kernel
theorem dX5_winnersOn_66 : decode cX5_winnersOn 66 = .ok (.ireturn, 1) := by decide +kernel
theorem dX5_passWins_0 : decode cX5_passWins 0 = .ok (.aload_n 0, 1) := by decide +kernel
theorem dX5_passWins_1 : decode cX5_passWins 1 = .ok (.getfield 21, 3) := by decide +kernel
theorem dX5_passWins_4 : decode cX5_passWins 4 = .ok (.aload_n 0, 1) := by decide +kernel
theorem dX5_passWins_5 : decode cX5_passWins 5 = .ok (.getfield 10, 3) := by decide +kernel
theorem dX5_passWins_8 : decode cX5_passWins 8 = .ok (.getfield 105, 3) := by decide +kernel
theorem dX5_passWins_11 : decode cX5_passWins 11 = .ok (.invokevirtual 187, 3) := by decide +kernel
theorem dX5_passWins_14 : decode cX5_passWins 14 = .ok (.invokestatic 190, 3) := by decide +kernel
theorem dX5_passWins_17 : decode cX5_passWins 17 = .ok (.aload_n 0, 1) := by decide +kernel
theorem dX5_passWins_18 : decode cX5_passWins 18 = .ok (.getfield 10, 3) := by decide +kernel
theorem dX5_passWins_21 : decode cX5_passWins 21 = .ok (.invokevirtual 132, 3) := by decide +kernel
theorem dX5_passWins_24 : decode cX5_passWins 24 = .ok (.ixor, 1) := by decide +kernel
theorem dX5_passWins_25 : decode cX5_passWins 25 = .ok (.iconst 1, 1) := by decide +kernel
theorem dX5_passWins_26 : decode cX5_passWins 26 = .ok (.ixor, 1) := by decide +kernel
theorem dX5_passWins_27 : decode cX5_passWins 27 = .ok (.istore_n 1, 1) := by decide +kernel
theorem dX5_passWins_28 : decode cX5_passWins 28 = .ok (.aload_n 0, 1) := by decide +kernel
theorem dX5_passWins_29 : decode cX5_passWins 29 = .ok (.getfield 10, 3) := by decide +kernel
theorem dX5_passWins_32 : decode cX5_passWins 32 = .ok (.getfield 102, 3) := by decide +kernel
theorem dX5_passWins_35 : decode cX5_passWins 35 = .ok (.ifCond .le 11, 3) := by decide +kernel
theorem dX5_passWins_38 : decode cX5_passWins 38 = .ok (.iload_n 1, 1) := by decide +kernel
theorem dX5_passWins_39 : decode cX5_passWins 39 = .ok (.ifCond .ne 7, 3) := by decide +kernel
theorem dX5_passWins_42 : decode cX5_passWins 42 = .ok (.iconst 1, 1) := by decide +kernel
theorem dX5_passWins_43 : decode cX5_passWins 43 = .ok (.goto 4, 3) := by decide +kernel
theorem dX5_passWins_46 : decode cX5_passWins 46 = .ok (.iconst 0, 1) := by decide +kernel
theorem dX5_passWins_47 : decode cX5_passWins 47 = .ok (.ireturn, 1) := by decide +kernel
theorem dX5_chosenMove_0 : decode cX5_chosenMove 0 = .ok (.bipush 100, 2) := by decide +kernel
theorem dX5_chosenMove_2 : decode cX5_chosenMove 2 = .ok (.istore_n 1, 1) := by decide +kernel
theorem dX5_chosenMove_3 : decode cX5_chosenMove 3 = .ok (.iconst (-1), 1) := by decide +kernel
theorem dX5_chosenMove_4 : decode cX5_chosenMove 4 = .ok (.istore_n 2, 1) := by decide +kernel
theorem dX5_chosenMove_5 : decode cX5_chosenMove 5 = .ok (.iconst 0, 1) := by decide +kernel
theorem dX5_chosenMove_6 : decode cX5_chosenMove 6 = .ok (.istore_n 3, 1) := by decide +kernel
theorem dX5_chosenMove_7 : decode cX5_chosenMove 7 = .ok (.iload_n 3, 1) := by decide +kernel
theorem dX5_chosenMove_8 : decode cX5_chosenMove 8 = .ok (.aload_n 0, 1) := by decide +kernel
theorem dX5_chosenMove_9 : decode cX5_chosenMove 9 = .ok (.getfield 10, 3) := by decide +kernel
theorem dX5_chosenMove_12 : decode cX5_chosenMove 12 = .ok (.getfield 86, 3) := by decide +kernel
theorem dX5_chosenMove_15 : decode cX5_chosenMove 15 = .ok (.if_icmp .ge 116, 3) := by decide +kernel
theorem dX5_chosenMove_18 : decode cX5_chosenMove 18 = .ok (.aload_n 0, 1) := by decide +kernel
theorem dX5_chosenMove_19 : decode cX5_chosenMove 19 = .ok (.getfield 10, 3) := by decide +kernel
theorem dX5_chosenMove_22 : decode cX5_chosenMove 22 = .ok (.iload_n 3, 1) := by decide +kernel
theorem dX5_chosenMove_23 : decode cX5_chosenMove 23 = .ok (.invokevirtual 152, 3) := by decide +kernel
theorem dX5_chosenMove_26 : decode cX5_chosenMove 26 = .ok (.istore 4, 2) := by decide +kernel
theorem dX5_chosenMove_28 : decode cX5_chosenMove 28 = .ok (.iconst 0, 1) := by decide +kernel
theorem dX5_chosenMove_29 : decode cX5_chosenMove 29 = .ok (.istore 5, 2) := by decide +kernel
theorem dX5_chosenMove_31 : decode cX5_chosenMove 31 = .ok (.iload 5, 2) := by decide +kernel
theorem dX5_chosenMove_33 : decode cX5_chosenMove 33 = .ok (.iconst 3, 1) := by decide +kernel
theorem dX5_chosenMove_34 : decode cX5_chosenMove 34 = .ok (.if_icmp .ge 91, 3) := by decide +kernel
theorem dX5_chosenMove_37 : decode cX5_chosenMove 37 = .ok (.iload 4, 2) := by decide +kernel
theorem dX5_chosenMove_39 : decode cX5_chosenMove 39 = .ok (.iload 5, 2) := by decide +kernel
theorem dX5_chosenMove_41 : decode cX5_chosenMove 41 = .ok (.invokestatic 294, 3) := by decide +kernel
theorem dX5_chosenMove_44 : decode cX5_chosenMove 44 = .ok (.ifCond .eq 75, 3) := by decide +kernel
theorem dX5_chosenMove_47 : decode cX5_chosenMove 47 = .ok (.aload_n 0, 1) := by decide +kernel
theorem dX5_chosenMove_48 : decode cX5_chosenMove 48 = .ok (.getfield 21, 3) := by decide +kernel
theorem dX5_chosenMove_51 : decode cX5_chosenMove 51 = .ok (.iload_n 3, 1) := by decide +kernel
theorem dX5_chosenMove_52 : decode cX5_chosenMove 52 = .ok (.iload 5, 2) := by decide +kernel
theorem dX5_chosenMove_54 : decode cX5_chosenMove 54 = .ok (.invokevirtual 206, 3) := by decide +kernel
theorem dX5_chosenMove_57 : decode cX5_chosenMove 57 = .ok (.istore 6, 2) := by decide +kernel
theorem dX5_chosenMove_59 : decode cX5_chosenMove 59 = .ok (.iload 6, 2) := by decide +kernel
theorem dX5_chosenMove_61 : decode cX5_chosenMove 61 = .ok (.invokestatic 190, 3) := by decide +kernel
theorem dX5_chosenMove_64 : decode cX5_chosenMove 64 = .ok (.aload_n 0, 1) := by decide +kernel
theorem dX5_chosenMove_65 : decode cX5_chosenMove 65 = .ok (.getfield 10, 3) := by decide +kernel
theorem dX5_chosenMove_68 : decode cX5_chosenMove 68 = .ok (.invokevirtual 132, 3) := by decide +kernel
theorem dX5_chosenMove_71 : decode cX5_chosenMove 71 = .ok (.if_icmp .ne 10, 3) := by decide +kernel
theorem dX5_chosenMove_74 : decode cX5_chosenMove 74 = .ok (.iconst 4, 1) := by decide +kernel
theorem dX5_chosenMove_75 : decode cX5_chosenMove 75 = .ok (.iload_n 3, 1) := by decide +kernel
theorem dX5_chosenMove_76 : decode cX5_chosenMove 76 = .ok (.imul, 1) := by decide +kernel
theorem dX5_chosenMove_77 : decode cX5_chosenMove 77 = .ok (.iload 5, 2) := by decide +kernel
theorem dX5_chosenMove_79 : decode cX5_chosenMove 79 = .ok (.iadd, 1) := by decide +kernel
theorem dX5_chosenMove_80 : decode cX5_chosenMove 80 = .ok (.ireturn, 1) := by decide +kernel
theorem dX5_chosenMove_81 : decode cX5_chosenMove 81 = .ok (.iload 6, 2) := by decide +kernel
theorem dX5_chosenMove_83 : decode cX5_chosenMove 83 = .ok (.invokestatic 193, 3) := by decide +kernel
theorem dX5_chosenMove_86 : decode cX5_chosenMove 86 = .ok (.aload_n 0, 1) := by decide +kernel
theorem dX5_chosenMove_87 : decode cX5_chosenMove 87 = .ok (.getfield 10, 3) := by decide +kernel
theorem dX5_chosenMove_90 : decode cX5_chosenMove 90 = .ok (.getfield 102, 3) := by decide +kernel
theorem dX5_chosenMove_93 : decode cX5_chosenMove 93 = .ok (.iadd, 1) := by decide +kernel
theorem dX5_chosenMove_94 : decode cX5_chosenMove 94 = .ok (.iload_n 2, 1) := by decide +kernel
theorem dX5_chosenMove_95 : decode cX5_chosenMove 95 = .ok (.if_icmp .le 24, 3) := by decide +kernel
theorem dX5_chosenMove_98 : decode cX5_chosenMove 98 = .ok (.iload 6, 2) := by decide +kernel
theorem dX5_chosenMove_100 : decode cX5_chosenMove 100 = .ok (.invokestatic 193, 3) := by decide +kernel
theorem dX5_chosenMove_103 : decode cX5_chosenMove 103 = .ok (.aload_n 0, 1) := by decide +kernel
theorem dX5_chosenMove_104 : decode cX5_chosenMove 104 = .ok (.getfield 10, 3) := by decide +kernel
theorem dX5_chosenMove_107 : decode cX5_chosenMove 107 = .ok (.getfield 102, 3) := by decide +kernel
theorem dX5_chosenMove_110 : decode cX5_chosenMove 110 = .ok (.iadd, 1) := by decide +kernel
theorem dX5_chosenMove_111 : decode cX5_chosenMove 111 = .ok (.istore_n 2, 1) := by decide +kernel
theorem dX5_chosenMove_112 : decode cX5_chosenMove 112 = .ok (.iconst 4, 1) := by decide +kernel
theorem dX5_chosenMove_113 : decode cX5_chosenMove 113 = .ok (.iload_n 3, 1) := by decide +kernel
theorem dX5_chosenMove_114 : decode cX5_chosenMove 114 = .ok (.imul, 1) := by decide +kernel
theorem dX5_chosenMove_115 : decode cX5_chosenMove 115 = .ok (.iload 5, 2) := by decide +kernel
theorem dX5_chosenMove_117 : decode cX5_chosenMove 117 = .ok (.iadd, 1) := by decide +kernel
theorem dX5_chosenMove_118 : decode cX5_chosenMove 118 = .ok (.istore_n 1, 1) := by decide +kernel
theorem dX5_chosenMove_119 : decode cX5_chosenMove 119 = .ok (.iinc 5 1, 3) := by decide +kernel
theorem dX5_chosenMove_122 : decode cX5_chosenMove 122 = .ok (.goto (-91), 3) := by decide +kernel
theorem dX5_chosenMove_125 : decode cX5_chosenMove 125 = .ok (.iinc 3 1, 3) := by decide +kernel
theorem dX5_chosenMove_128 : decode cX5_chosenMove 128 = .ok (.goto (-121), 3) := by decide +kernel
theorem dX5_chosenMove_131 : decode cX5_chosenMove 131 = .ok (.aload_n 0, 1) := by decide +kernel
theorem dX5_chosenMove_132 : decode cX5_chosenMove 132 = .ok (.invokevirtual 209, 3) := by decide +kernel
theorem dX5_chosenMove_135 : decode cX5_chosenMove 135 = .ok (.ifCond .ne 13, 3) := by decide +kernel
theorem dX5_chosenMove_138 : decode cX5_chosenMove 138 = .ok (.aload_n 0, 1) := by decide +kernel
theorem dX5_chosenMove_139 : decode cX5_chosenMove 139 = .ok (.invokevirtual 297, 3) := by decide +kernel
theorem dX5_chosenMove_142 : decode cX5_chosenMove 142 = .ok (.iconst 1, 1) := by decide +kernel
theorem dX5_chosenMove_143 : decode cX5_chosenMove 143 = .ok (.isub, 1) := by decide +kernel
theorem dX5_chosenMove_144 : decode cX5_chosenMove 144 = .ok (.iload_n 2, 1) := by decide +kernel
theorem dX5_chosenMove_145 : decode cX5_chosenMove 145 = .ok (.if_icmp .le 7, 3) := by decide +kernel
theorem dX5_chosenMove_148 : decode cX5_chosenMove 148 = .ok (.iconst 1, 1) := by decide +kernel
theorem dX5_chosenMove_149 : decode cX5_chosenMove 149 = .ok (.goto 4, 3) := by decide +kernel
theorem dX5_chosenMove_152 : decode cX5_chosenMove 152 = .ok (.iconst 0, 1) := by decide +kernel
theorem dX5_chosenMove_153 : decode cX5_chosenMove 153 = .ok (.istore_n 3, 1) := by decide +kernel
theorem dX5_chosenMove_154 : decode cX5_chosenMove 154 = .ok (.aload_n 0, 1) := by decide +kernel
theorem dX5_chosenMove_155 : decode cX5_chosenMove 155 = .ok (.getfield 10, 3) := by decide +kernel
theorem dX5_chosenMove_158 : decode cX5_chosenMove 158 = .ok (.getfield 102, 3) := by decide +kernel
theorem dX5_chosenMove_161 : decode cX5_chosenMove 161 = .ok (.ifCond .le 12, 3) := by decide +kernel
theorem dX5_chosenMove_164 : decode cX5_chosenMove 164 = .ok (.iload_n 3, 1) := by decide +kernel
theorem dX5_chosenMove_165 : decode cX5_chosenMove 165 = .ok (.ifCond .eq 8, 3) := by decide +kernel
theorem dX5_chosenMove_168 : decode cX5_chosenMove 168 = .ok (.bipush 100, 2) := by decide +kernel
theorem dX5_chosenMove_170 : decode cX5_chosenMove 170 = .ok (.goto 4, 3) := by decide +kernel
theorem dX5_chosenMove_173 : decode cX5_chosenMove 173 = .ok (.iload_n 1, 1) := by decide +kernel
theorem dX5_chosenMove_174 : decode cX5_chosenMove 174 = .ok (.ireturn, 1) := by decide +kernel
theorem dX5_write_0 : decode cX5_write 0 = .ok (.aload_n 0, 1) := by decide +kernel
theorem dX5_write_1 : decode cX5_write 1 = .ok (.getfield 270, 3) := by decide +kernel
theorem dX5_write_4 : decode cX5_write 4 = .ok (.ifCond .lt 36, 3) := by decide +kernel
theorem dX5_write_7 : decode cX5_write 7 = .ok (.aload_n 0, 1) := by decide +kernel
theorem dX5_write_8 : decode cX5_write 8 = .ok (.getfield 270, 3) := by decide +kernel
theorem dX5_write_11 : decode cX5_write 11 = .ok (.aload_n 0, 1) := by decide +kernel
theorem dX5_write_12 : decode cX5_write 12 = .ok (.getfield 43, 3) := by decide +kernel
theorem dX5_write_15 : decode cX5_write 15 = .ok (.arraylength, 1) := by decide +kernel
theorem dX5_write_16 : decode cX5_write 16 = .ok (.if_icmp .ge 24, 3) := by decide +kernel
theorem dX5_write_19 : decode cX5_write 19 = .ok (.aload_n 0, 1) := by decide +kernel
theorem dX5_write_20 : decode cX5_write 20 = .ok (.getfield 43, 3) := by decide +kernel
theorem dX5_write_23 : decode cX5_write 23 = .ok (.aload_n 0, 1) := by decide +kernel
theorem dX5_write_24 : decode cX5_write 24 = .ok (.getfield 270, 3) := by decide +kernel
theorem dX5_write_27 : decode cX5_write 27 = .ok (.iload_n 1, 1) := by decide +kernel
theorem dX5_write_28 : decode cX5_write 28 = .ok (.i2b, 1) := by decide +kernel
theorem dX5_write_29 : decode cX5_write 29 = .ok (.bastore, 1) := by decide +kernel
theorem dX5_write_30 : decode cX5_write 30 = .ok (.aload_n 0, 1) := by decide +kernel
theorem dX5_write_31 : decode cX5_write 31 = .ok (.dup, 1) := by decide +kernel
theorem dX5_write_32 : decode cX5_write 32 = .ok (.getfield 270, 3) := by decide +kernel
theorem dX5_write_35 : decode cX5_write 35 = .ok (.iconst 1, 1) := by decide +kernel
theorem dX5_write_36 : decode cX5_write 36 = .ok (.iadd, 1) := by decide +kernel
theorem dX5_write_37 : decode cX5_write 37 = .ok (.putfield 270, 3) := by decide +kernel
theorem dX5_write_40 : decode cX5_write 40 = .ok (.return_, 1) := by decide +kernel
theorem dX5_has_0 : decode cX5_has 0 = .ok (.iload_n 1, 1) := by decide +kernel
theorem dX5_has_1 : decode cX5_has 1 = .ok (.ifCond .lt 21, 3) := by decide +kernel
theorem dX5_has_4 : decode cX5_has 4 = .ok (.iload_n 1, 1) := by decide +kernel
theorem dX5_has_5 : decode cX5_has 5 = .ok (.bipush 32, 2) := by decide +kernel
theorem dX5_has_7 : decode cX5_has 7 = .ok (.if_icmp .ge 15, 3) := by decide +kernel
theorem dX5_has_10 : decode cX5_has 10 = .ok (.iload_n 0, 1) := by decide +kernel
theorem dX5_has_11 : decode cX5_has 11 = .ok (.iconst 1, 1) := by decide +kernel
theorem dX5_has_12 : decode cX5_has 12 = .ok (.iload_n 1, 1) := by decide +kernel
theorem dX5_has_13 : decode cX5_has 13 = .ok (.ishl, 1) := by decide +kernel
theorem dX5_has_14 : decode cX5_has 14 = .ok (.iand, 1) := by decide +kernel
theorem dX5_has_15 : decode cX5_has 15 = .ok (.ifCond .eq 7, 3) := by decide +kernel
theorem dX5_has_18 : decode cX5_has 18 = .ok (.iconst 1, 1) := by decide +kernel
theorem dX5_has_19 : decode cX5_has 19 = .ok (.goto 4, 3) := by decide +kernel
theorem dX5_has_22 : decode cX5_has 22 = .ok (.iconst 0, 1) := by decide +kernel
theorem dX5_has_23 : decode cX5_has 23 = .ok (.ireturn, 1) := by decide +kernel
theorem dX5_least_0 : decode cX5_least 0 = .ok (.iload_n 0, 1) := by decide +kernel
theorem dX5_least_1 : decode cX5_least 1 = .ok (.iload_n 0, 1) := by decide +kernel
theorem dX5_least_2 : decode cX5_least 2 = .ok (.ineg, 1) := by decide +kernel
theorem dX5_least_3 : decode cX5_least 3 = .ok (.iand, 1) := by decide +kernel
theorem dX5_least_4 : decode cX5_least 4 = .ok (.iconst 1, 1) := by decide +kernel
theorem dX5_least_5 : decode cX5_least 5 = .ok (.isub, 1) := by decide +kernel
theorem dX5_least_6 : decode cX5_least 6 = .ok (.invokestatic 108, 3) := by decide +kernel
theorem dX5_least_9 : decode cX5_least 9 = .ok (.ireturn, 1) := by decide +kernel
theorem dX5_at_0 : decode cX5_at 0 = .ok (.iload_n 1, 1) := by decide +kernel
theorem dX5_at_1 : decode cX5_at 1 = .ok (.ifCond .lt 15, 3) := by decide +kernel
theorem dX5_at_4 : decode cX5_at 4 = .ok (.iload_n 1, 1) := by decide +kernel
theorem dX5_at_5 : decode cX5_at 5 = .ok (.aload_n 0, 1) := by decide +kernel
theorem dX5_at_6 : decode cX5_at 6 = .ok (.arraylength, 1) := by decide +kernel
theorem dX5_at_7 : decode cX5_at 7 = .ok (.if_icmp .ge 9, 3) := by decide +kernel
theorem dX5_at_10 : decode cX5_at 10 = .ok (.aload_n 0, 1) := by decide +kernel
theorem dX5_at_11 : decode cX5_at 11 = .ok (.iload_n 1, 1) := by decide +kernel
theorem dX5_at_12 : decode cX5_at 12 = .ok (.iaload, 1) := by decide +kernel
theorem dX5_at_13 : decode cX5_at 13 = .ok (.goto 4, 3) := by decide +kernel
theorem dX5_at_16 : decode cX5_at 16 = .ok (.iconst 0, 1) := by decide +kernel
theorem dX5_at_17 : decode cX5_at 17 = .ok (.ireturn, 1) := by decide +kernel
theorem dX5_add_0 : decode cX5_add 0 = .ok (.iload_n 1, 1) := by decide +kernel
theorem dX5_add_1 : decode cX5_add 1 = .ok (.ifCond .lt 16, 3) := by decide +kernel
theorem dX5_add_4 : decode cX5_add 4 = .ok (.iload_n 1, 1) := by decide +kernel
theorem dX5_add_5 : decode cX5_add 5 = .ok (.aload_n 0, 1) := by decide +kernel
theorem dX5_add_6 : decode cX5_add 6 = .ok (.arraylength, 1) := by decide +kernel
theorem dX5_add_7 : decode cX5_add 7 = .ok (.if_icmp .ge 10, 3) := by decide +kernel
theorem dX5_add_10 : decode cX5_add 10 = .ok (.aload_n 0, 1) := by decide +kernel
theorem dX5_add_11 : decode cX5_add 11 = .ok (.iload_n 1, 1) := by decide +kernel
theorem dX5_add_12 : decode cX5_add 12 = .ok (.dup2, 1) := by decide +kernel
theorem dX5_add_13 : decode cX5_add 13 = .ok (.iaload, 1) := by decide +kernel
theorem dX5_add_14 : decode cX5_add 14 = .ok (.iload_n 2, 1) := by decide +kernel
theorem dX5_add_15 : decode cX5_add 15 = .ok (.ior, 1) := by decide +kernel
theorem dX5_add_16 : decode cX5_add 16 = .ok (.iastore, 1) := by decide +kernel
theorem dX5_add_17 : decode cX5_add 17 = .ok (.return_, 1) := by decide +kernel
theorem dX5_copyRow_0 : decode cX5_copyRow 0 = .ok (.iconst 0, 1) := by decide +kernel
theorem dX5_copyRow_1 : decode cX5_copyRow 1 = .ok (.istore_n 2, 1) := by decide +kernel
theorem dX5_copyRow_2 : decode cX5_copyRow 2 = .ok (.iload_n 2, 1) := by decide +kernel
theorem dX5_copyRow_3 : decode cX5_copyRow 3 = .ok (.aload_n 1, 1) := by decide +kernel
theorem dX5_copyRow_4 : decode cX5_copyRow 4 = .ok (.arraylength, 1) := by decide +kernel
theorem dX5_copyRow_5 : decode cX5_copyRow 5 = .ok (.if_icmp .ge 21, 3) := by decide +kernel
theorem dX5_copyRow_8 : decode cX5_copyRow 8 = .ok (.iload_n 2, 1) := by decide +kernel
theorem dX5_copyRow_9 : decode cX5_copyRow 9 = .ok (.aload_n 0, 1) := by decide +kernel
theorem dX5_copyRow_10 : decode cX5_copyRow 10 = .ok (.arraylength, 1) := by decide +kernel
theorem dX5_copyRow_11 : decode cX5_copyRow 11 = .ok (.if_icmp .ge 15, 3) := by decide +kernel
theorem dX5_copyRow_14 : decode cX5_copyRow 14 = .ok (.aload_n 1, 1) := by decide +kernel
theorem dX5_copyRow_15 : decode cX5_copyRow 15 = .ok (.iload_n 2, 1) := by decide +kernel
theorem dX5_copyRow_16 : decode cX5_copyRow 16 = .ok (.aload_n 0, 1) := by decide +kernel
theorem dX5_copyRow_17 : decode cX5_copyRow 17 = .ok (.iload_n 2, 1) := by decide +kernel
theorem dX5_copyRow_18 : decode cX5_copyRow 18 = .ok (.iaload, 1) := by decide +kernel
theorem dX5_copyRow_19 : decode cX5_copyRow 19 = .ok (.iastore, 1) := by decide +kernel
theorem dX5_copyRow_20 : decode cX5_copyRow 20 = .ok (.iinc 2 1, 3) := by decide +kernel
theorem dX5_copyRow_23 : decode cX5_copyRow 23 = .ok (.goto (-21), 3) := by decide +kernel
theorem dX5_copyRow_26 : decode cX5_copyRow 26 = .ok (.return_, 1) := by decide +kernel
theorem dX5_clearRow_0 : decode cX5_clearRow 0 = .ok (.iconst 0, 1) := by decide +kernel
theorem dX5_clearRow_1 : decode cX5_clearRow 1 = .ok (.istore_n 1, 1) := by decide +kernel
theorem dX5_clearRow_2 : decode cX5_clearRow 2 = .ok (.iload_n 1, 1) := by decide +kernel
theorem dX5_clearRow_3 : decode cX5_clearRow 3 = .ok (.aload_n 0, 1) := by decide +kernel
theorem dX5_clearRow_4 : decode cX5_clearRow 4 = .ok (.arraylength, 1) := by decide +kernel
theorem dX5_clearRow_5 : decode cX5_clearRow 5 = .ok (.if_icmp .ge 13, 3) := by decide +kernel
theorem dX5_clearRow_8 : decode cX5_clearRow 8 = .ok (.aload_n 0, 1) := by decide +kernel
theorem dX5_clearRow_9 : decode cX5_clearRow 9 = .ok (.iload_n 1, 1) := by decide +kernel
theorem dX5_clearRow_10 : decode cX5_clearRow 10 = .ok (.iconst 0, 1) := by decide +kernel
theorem dX5_clearRow_11 : decode cX5_clearRow 11 = .ok (.iastore, 1) := by decide +kernel
theorem dX5_clearRow_12 : decode cX5_clearRow 12 = .ok (.iinc 1 1, 3) := by decide +kernel
theorem dX5_clearRow_15 : decode cX5_clearRow 15 = .ok (.goto (-13), 3) := by decide +kernel
theorem dX5_clearRow_18 : decode cX5_clearRow 18 = .ok (.return_, 1) := by decide +kernel
theorem dX5_keepCopy_0 : decode cX5_keepCopy 0 = .ok (.iload_n 1, 1) := by decide +kernel
theorem dX5_keepCopy_1 : decode cX5_keepCopy 1 = .ok (.ifCond .lt 38, 3) := by decide +kernel
theorem dX5_keepCopy_4 : decode cX5_keepCopy 4 = .ok (.iload_n 1, 1) := by decide +kernel
theorem dX5_keepCopy_5 : decode cX5_keepCopy 5 = .ok (.aload_n 0, 1) := by decide +kernel
theorem dX5_keepCopy_6 : decode cX5_keepCopy 6 = .ok (.arraylength, 1) := by decide +kernel
theorem dX5_keepCopy_7 : decode cX5_keepCopy 7 = .ok (.if_icmp .ge 32, 3) := by decide +kernel
theorem dX5_keepCopy_10 : decode cX5_keepCopy 10 = .ok (.aload_n 0, 1) := by decide +kernel
theorem dX5_keepCopy_11 : decode cX5_keepCopy 11 = .ok (.iload_n 1, 1) := by decide +kernel
theorem dX5_keepCopy_12 : decode cX5_keepCopy 12 = .ok (.aaload, 1) := by decide +kernel
theorem dX5_keepCopy_13 : decode cX5_keepCopy 13 = .ok (.ifnonnull 13, 3) := by decide +kernel
theorem dX5_keepCopy_16 : decode cX5_keepCopy 16 = .ok (.new 7, 3) := by decide +kernel
theorem dX5_keepCopy_19 : decode cX5_keepCopy 19 = .ok (.dup, 1) := by decide +kernel
theorem dX5_keepCopy_20 : decode cX5_keepCopy 20 = .ok (.invokespecial 9, 3) := by decide +kernel
theorem dX5_keepCopy_23 : decode cX5_keepCopy 23 = .ok (.goto 6, 3) := by decide +kernel
theorem dX5_keepCopy_26 : decode cX5_keepCopy 26 = .ok (.aload_n 0, 1) := by decide +kernel
theorem dX5_keepCopy_27 : decode cX5_keepCopy 27 = .ok (.iload_n 1, 1) := by decide +kernel
theorem dX5_keepCopy_28 : decode cX5_keepCopy 28 = .ok (.aaload, 1) := by decide +kernel
theorem dX5_keepCopy_29 : decode cX5_keepCopy 29 = .ok (.astore_n 3, 1) := by decide +kernel
theorem dX5_keepCopy_30 : decode cX5_keepCopy 30 = .ok (.aload_n 3, 1) := by decide +kernel
theorem dX5_keepCopy_31 : decode cX5_keepCopy 31 = .ok (.aload_n 2, 1) := by decide +kernel
theorem dX5_keepCopy_32 : decode cX5_keepCopy 32 = .ok (.invokevirtual 80, 3) := by decide +kernel
theorem dX5_keepCopy_35 : decode cX5_keepCopy 35 = .ok (.aload_n 0, 1) := by decide +kernel
theorem dX5_keepCopy_36 : decode cX5_keepCopy 36 = .ok (.iload_n 1, 1) := by decide +kernel
theorem dX5_keepCopy_37 : decode cX5_keepCopy 37 = .ok (.aload_n 3, 1) := by decide +kernel
theorem dX5_keepCopy_38 : decode cX5_keepCopy 38 = .ok (.aastore, 1) := by decide +kernel
theorem dX5_keepCopy_39 : decode cX5_keepCopy 39 = .ok (.return_, 1) := by decide +kernel
theorem dX5_answerOf_0 : decode cX5_answerOf 0 = .ok (.iload_n 0, 1) := by decide +kernel
theorem dX5_answerOf_1 : decode cX5_answerOf 1 = .ok (.iload_n 1, 1) := by decide +kernel
theorem dX5_answerOf_2 : decode cX5_answerOf 2 = .ok (.bipush 8, 2) := by decide +kernel
theorem dX5_answerOf_4 : decode cX5_answerOf 4 = .ok (.ishl, 1) := by decide +kernel
theorem dX5_answerOf_5 : decode cX5_answerOf 5 = .ok (.ior, 1) := by decide +kernel
theorem dX5_answerOf_6 : decode cX5_answerOf 6 = .ok (.iload_n 2, 1) := by decide +kernel
theorem dX5_answerOf_7 : decode cX5_answerOf 7 = .ok (.bipush 16, 2) := by decide +kernel
theorem dX5_answerOf_9 : decode cX5_answerOf 9 = .ok (.ishl, 1) := by decide +kernel
theorem dX5_answerOf_10 : decode cX5_answerOf 10 = .ok (.ior, 1) := by decide +kernel
theorem dX5_answerOf_11 : decode cX5_answerOf 11 = .ok (.ireturn, 1) := by decide +kernel
theorem dX5_valueIn_0 : decode cX5_valueIn 0 = .ok (.iload_n 0, 1) := by decide +kernel
theorem dX5_valueIn_1 : decode cX5_valueIn 1 = .ok (.sipush 255, 3) := by decide +kernel
theorem dX5_valueIn_4 : decode cX5_valueIn 4 = .ok (.iand, 1) := by decide +kernel
theorem dX5_valueIn_5 : decode cX5_valueIn 5 = .ok (.ireturn, 1) := by decide +kernel
theorem dX5_longestIn_0 : decode cX5_longestIn 0 = .ok (.iload_n 0, 1) := by decide +kernel
theorem dX5_longestIn_1 : decode cX5_longestIn 1 = .ok (.bipush 8, 2) := by decide +kernel
theorem dX5_longestIn_3 : decode cX5_longestIn 3 = .ok (.ishr, 1) := by decide +kernel
theorem dX5_longestIn_4 : decode cX5_longestIn 4 = .ok (.sipush 255, 3) := by decide +kernel
theorem dX5_longestIn_7 : decode cX5_longestIn 7 = .ok (.iand, 1) := by decide +kernel
theorem dX5_longestIn_8 : decode cX5_longestIn 8 = .ok (.ireturn, 1) := by decide +kernel
theorem dX5_shortestIn_0 : decode cX5_shortestIn 0 = .ok (.iload_n 0, 1) := by decide +kernel
theorem dX5_shortestIn_1 : decode cX5_shortestIn 1 = .ok (.bipush 16, 2) := by decide +kernel
theorem dX5_shortestIn_3 : decode cX5_shortestIn 3 = .ok (.ishr, 1) := by decide +kernel
theorem dX5_shortestIn_4 : decode cX5_shortestIn 4 = .ok (.sipush 255, 3) := by decide +kernel
theorem dX5_shortestIn_7 : decode cX5_shortestIn 7 = .ok (.iand, 1) := by decide +kernel
theorem dX5_shortestIn_8 : decode cX5_shortestIn 8 = .ok (.ireturn, 1) := by decide +kernel
theorem dX5_together_0 : decode cX5_together 0 = .ok (.iload_n 0, 1) := by decide +kernel
theorem dX5_together_1 : decode cX5_together 1 = .ok (.sipush (-256), 3) := by decide +kernel
theorem dX5_together_4 : decode cX5_together 4 = .ok (.iand, 1) := by decide +kernel
theorem dX5_together_5 : decode cX5_together 5 = .ok (.iload_n 1, 1) := by decide +kernel
theorem dX5_together_6 : decode cX5_together 6 = .ok (.sipush (-256), 3) := by decide +kernel
theorem dX5_together_9 : decode cX5_together 9 = .ok (.iand, 1) := by decide +kernel
theorem dX5_together_10 : decode cX5_together 10 = .ok (.iadd, 1) := by decide +kernel
theorem dX5_together_11 : decode cX5_together 11 = .ok (.istore_n 2, 1) := by decide +kernel
theorem dX5_together_12 : decode cX5_together 12 = .ok (.iload_n 0, 1) := by decide +kernel
theorem dX5_together_13 : decode cX5_together 13 = .ok (.iload_n 1, 1) := by decide +kernel
theorem dX5_together_14 : decode cX5_together 14 = .ok (.ixor, 1) := by decide +kernel
theorem dX5_together_15 : decode cX5_together 15 = .ok (.sipush 255, 3) := by decide +kernel
theorem dX5_together_18 : decode cX5_together 18 = .ok (.iand, 1) := by decide +kernel
theorem dX5_together_19 : decode cX5_together 19 = .ok (.iload_n 2, 1) := by decide +kernel
theorem dX5_together_20 : decode cX5_together 20 = .ok (.ior, 1) := by decide +kernel
theorem dX5_together_21 : decode cX5_together 21 = .ok (.ireturn, 1) := by decide +kernel
theorem dX6_init_0 : decode cX6_init 0 = .ok (.aload_n 0, 1) := by decide +kernel
theorem dX6_init_1 : decode cX6_init 1 = .ok (.invokespecial 1, 3) := by decide +kernel
theorem dX6_init_4 : decode cX6_init 4 = .ok (.aload_n 0, 1) := by decide +kernel
theorem dX6_init_5 : decode cX6_init 5 = .ok (.sipush 4136, 3) := by decide +kernel
theorem dX6_init_8 : decode cX6_init 8 = .ok (.newarray .int, 2) := by decide +kernel
theorem dX6_init_10 : decode cX6_init 10 = .ok (.putfield 7, 3) := by decide +kernel
theorem dX6_init_13 : decode cX6_init 13 = .ok (.aload_n 0, 1) := by decide +kernel
theorem dX6_init_14 : decode cX6_init 14 = .ok (.sipush 4136, 3) := by decide +kernel
theorem dX6_init_17 : decode cX6_init 17 = .ok (.newarray .int, 2) := by decide +kernel
theorem dX6_init_19 : decode cX6_init 19 = .ok (.putfield 13, 3) := by decide +kernel
theorem dX6_init_22 : decode cX6_init 22 = .ok (.aload_n 0, 1) := by decide +kernel
theorem dX6_init_23 : decode cX6_init 23 = .ok (.sipush 4136, 3) := by decide +kernel
theorem dX6_init_26 : decode cX6_init 26 = .ok (.newarray .int, 2) := by decide +kernel
theorem dX6_init_28 : decode cX6_init 28 = .ok (.putfield 16, 3) := by decide +kernel
theorem dX6_init_31 : decode cX6_init 31 = .ok (.aload_n 0, 1) := by decide +kernel
theorem dX6_init_32 : decode cX6_init 32 = .ok (.ldc 19, 2) := by decide +kernel
theorem dX6_init_34 : decode cX6_init 34 = .ok (.newarray .int, 2) := by decide +kernel
theorem dX6_init_36 : decode cX6_init 36 = .ok (.putfield 20, 3) := by decide +kernel
theorem dX6_init_39 : decode cX6_init 39 = .ok (.aload_n 0, 1) := by decide +kernel
theorem dX6_init_40 : decode cX6_init 40 = .ok (.sipush 8272, 3) := by decide +kernel
theorem dX6_init_43 : decode cX6_init 43 = .ok (.newarray .int, 2) := by decide +kernel
theorem dX6_init_45 : decode cX6_init 45 = .ok (.putfield 23, 3) := by decide +kernel
theorem dX6_init_48 : decode cX6_init 48 = .ok (.aload_n 0, 1) := by decide +kernel
theorem dX6_init_49 : decode cX6_init 49 = .ok (.iconst 2, 1) := by decide +kernel
theorem dX6_init_50 : decode cX6_init 50 = .ok (.newarray .boolean, 2) := by decide +kernel
theorem dX6_init_52 : decode cX6_init 52 = .ok (.putfield 26, 3) := by decide +kernel
theorem dX6_init_55 : decode cX6_init 55 = .ok (.aload_n 0, 1) := by decide +kernel
theorem dX6_init_56 : decode cX6_init 56 = .ok (.sipush 500, 3) := by decide +kernel
theorem dX6_init_59 : decode cX6_init 59 = .ok (.newarray .int, 2) := by decide +kernel
theorem dX6_init_61 : decode cX6_init 61 = .ok (.putfield 30, 3) := by decide +kernel
theorem dX6_init_64 : decode cX6_init 64 = .ok (.aload_n 0, 1) := by decide +kernel
theorem dX6_init_65 : decode cX6_init 65 = .ok (.iconst (-1), 1) := by decide +kernel
theorem dX6_init_66 : decode cX6_init 66 = .ok (.putfield 33, 3) := by decide +kernel
theorem dX6_init_69 : decode cX6_init 69 = .ok (.aload_n 0, 1) := by decide +kernel
theorem dX6_init_70 : decode cX6_init 70 = .ok (.ldc 37, 2) := by decide +kernel
theorem dX6_init_72 : decode cX6_init 72 = .ok (.newarray .int, 2) := by decide +kernel
theorem dX6_init_74 : decode cX6_init 74 = .ok (.putfield 38, 3) := by decide +kernel
theorem dX6_init_77 : decode cX6_init 77 = .ok (.aload_n 0, 1) := by decide +kernel
theorem dX6_init_78 : decode cX6_init 78 = .ok (.bipush 9, 2) := by decide +kernel
theorem dX6_init_80 : decode cX6_init 80 = .ok (.newarray .int, 2) := by decide +kernel
theorem dX6_init_82 : decode cX6_init 82 = .ok (.putfield 41, 3) := by decide +kernel
theorem dX6_init_85 : decode cX6_init 85 = .ok (.aload_n 0, 1) := by decide +kernel
theorem dX6_init_86 : decode cX6_init 86 = .ok (.bipush 14, 2) := by decide +kernel
theorem dX6_init_88 : decode cX6_init 88 = .ok (.newarray .int, 2) := by decide +kernel
theorem dX6_init_90 : decode cX6_init 90 = .ok (.putfield 44, 3) := by decide +kernel
theorem dX6_init_93 : decode cX6_init 93 = .ok (.aload_n 0, 1) := by decide +kernel
theorem dX6_init_94 : decode cX6_init 94 = .ok (.getfield 7, 3) := by decide +kernel
theorem dX6_init_97 : decode cX6_init 97 = .ok (.iconst 0, 1) := by decide +kernel
theorem dX6_init_98 : decode cX6_init 98 = .ok (.iconst 1, 1) := by decide +kernel
theorem dX6_init_99 : decode cX6_init 99 = .ok (.iastore, 1) := by decide +kernel
theorem dX6_init_100 : decode cX6_init 100 = .ok (.aload_n 0, 1) := by decide +kernel
theorem dX6_init_101 : decode cX6_init 101 = .ok (.getfield 7, 3) := by decide +kernel
theorem dX6_init_104 : decode cX6_init 104 = .ok (.iconst 1, 1) := by decide +kernel
theorem dX6_init_105 : decode cX6_init 105 = .ok (.iconst 1, 1) := by decide +kernel
theorem dX6_init_106 : decode cX6_init 106 = .ok (.iastore, 1) := by decide +kernel
theorem dX6_init_107 : decode cX6_init 107 = .ok (.aload_n 0, 1) := by decide +kernel
theorem dX6_init_108 : decode cX6_init 108 = .ok (.getfield 7, 3) := by decide +kernel
theorem dX6_init_111 : decode cX6_init 111 = .ok (.iconst 4, 1) := by decide +kernel
theorem dX6_init_112 : decode cX6_init 112 = .ok (.iconst 1, 1) := by decide +kernel
theorem dX6_init_113 : decode cX6_init 113 = .ok (.iastore, 1) := by decide +kernel
theorem dX6_init_114 : decode cX6_init 114 = .ok (.return_, 1) := by decide +kernel
theorem dX6_thrown_0 : decode cX6_thrown 0 = .ok (.aload_n 0, 1) := by decide +kernel
theorem dX6_thrown_1 : decode cX6_thrown 1 = .ok (.getfield 47, 3) := by decide +kernel
theorem dX6_thrown_4 : decode cX6_thrown 4 = .ok (.ireturn, 1) := by decide +kernel
theorem dX6_isIn_0 : decode cX6_isIn 0 = .ok (.iload_n 0, 1) := by decide +kernel
theorem dX6_isIn_1 : decode cX6_isIn 1 = .ok (.iload_n 1, 1) := by decide +kernel
theorem dX6_isIn_2 : decode cX6_isIn 2 = .ok (.if_icmp .lt 12, 3) := by decide +kernel
theorem dX6_isIn_5 : decode cX6_isIn 5 = .ok (.iload_n 0, 1) := by decide +kernel
theorem dX6_isIn_6 : decode cX6_isIn 6 = .ok (.iload_n 2, 1) := by decide +kernel
theorem dX6_isIn_7 : decode cX6_isIn 7 = .ok (.if_icmp .gt 7, 3) := by decide +kernel
theorem dX6_isIn_10 : decode cX6_isIn 10 = .ok (.iconst 1, 1) := by decide +kernel
theorem dX6_isIn_11 : decode cX6_isIn 11 = .ok (.goto 4, 3) := by decide +kernel
theorem dX6_isIn_14 : decode cX6_isIn 14 = .ok (.iconst 0, 1) := by decide +kernel
theorem dX6_isIn_15 : decode cX6_isIn 15 = .ok (.ireturn, 1) := by decide +kernel
theorem dX6_sets_0 : decode cX6_sets 0 = .ok (.iconst 0, 1) := by decide +kernel
theorem dX6_sets_1 : decode cX6_sets 1 = .ok (.istore 4, 2) := by decide +kernel
theorem dX6_sets_3 : decode cX6_sets 3 = .ok (.iload 4, 2) := by decide +kernel
theorem dX6_sets_5 : decode cX6_sets 5 = .ok (.sipush 4136, 3) := by decide +kernel
theorem dX6_sets_8 : decode cX6_sets 8 = .ok (.if_icmp .ge 21, 3) := by decide +kernel
theorem dX6_sets_11 : decode cX6_sets 11 = .ok (.aload_n 0, 1) := by decide +kernel
theorem dX6_sets_12 : decode cX6_sets 12 = .ok (.iload_n 1, 1) := by decide +kernel
theorem dX6_sets_13 : decode cX6_sets 13 = .ok (.iload 4, 2) := by decide +kernel
theorem dX6_sets_15 : decode cX6_sets 15 = .ok (.iadd, 1) := by decide +kernel
theorem dX6_sets_16 : decode cX6_sets 16 = .ok (.aload_n 2, 1) := by decide +kernel
theorem dX6_sets_17 : decode cX6_sets 17 = .ok (.iload_n 3, 1) := by decide +kernel
theorem dX6_sets_18 : decode cX6_sets 18 = .ok (.iload 4, 2) := by decide +kernel
theorem dX6_sets_20 : decode cX6_sets 20 = .ok (.iadd, 1) := by decide +kernel
theorem dX6_sets_21 : decode cX6_sets 21 = .ok (.iaload, 1) := by decide +kernel
theorem dX6_sets_22 : decode cX6_sets 22 = .ok (.iastore, 1) := by decide +kernel
theorem dX6_sets_23 : decode cX6_sets 23 = .ok (.iinc 4 1, 3) := by decide +kernel
theorem dX6_sets_26 : decode cX6_sets 26 = .ok (.goto (-23), 3) := by decide +kernel
theorem dX6_sets_29 : decode cX6_sets 29 = .ok (.return_, 1) := by decide +kernel
theorem dX6_keeps_0 : decode cX6_keeps 0 = .ok (.aload_n 0, 1) := by decide +kernel
theorem dX6_keeps_1 : decode cX6_keeps 1 = .ok (.getfield 50, 3) := by decide +kernel
theorem dX6_keeps_4 : decode cX6_keeps 4 = .ok (.bipush 8, 2) := by decide +kernel
theorem dX6_keeps_6 : decode cX6_keeps 6 = .ok (.if_icmp .ne 44, 3) := by decide +kernel
theorem dX6_keeps_9 : decode cX6_keeps 9 = .ok (.iconst 0, 1) := by decide +kernel
theorem dX6_keeps_10 : decode cX6_keeps 10 = .ok (.istore_n 1, 1) := by decide +kernel
theorem dX6_keeps_11 : decode cX6_keeps 11 = .ok (.iload_n 1, 1) := by decide +kernel
theorem dX6_keeps_12 : decode cX6_keeps 12 = .ok (.sipush 28952, 3) := by decide +kernel
theorem dX6_keeps_15 : decode cX6_keeps 15 = .ok (.if_icmp .ge 25, 3) := by decide +kernel
theorem dX6_keeps_18 : decode cX6_keeps 18 = .ok (.aload_n 0, 1) := by decide +kernel
theorem dX6_keeps_19 : decode cX6_keeps 19 = .ok (.getfield 20, 3) := by decide +kernel
theorem dX6_keeps_22 : decode cX6_keeps 22 = .ok (.iload_n 1, 1) := by decide +kernel
theorem dX6_keeps_23 : decode cX6_keeps 23 = .ok (.aload_n 0, 1) := by decide +kernel
theorem dX6_keeps_24 : decode cX6_keeps 24 = .ok (.getfield 20, 3) := by decide +kernel
theorem dX6_keeps_27 : decode cX6_keeps 27 = .ok (.iload_n 1, 1) := by decide +kernel
theorem dX6_keeps_28 : decode cX6_keeps 28 = .ok (.sipush 4136, 3) := by decide +kernel
theorem dX6_keeps_31 : decode cX6_keeps 31 = .ok (.iadd, 1) := by decide +kernel
theorem dX6_keeps_32 : decode cX6_keeps 32 = .ok (.iaload, 1) := by decide +kernel
theorem dX6_keeps_33 : decode cX6_keeps 33 = .ok (.iastore, 1) := by decide +kernel
theorem dX6_keeps_34 : decode cX6_keeps 34 = .ok (.iinc 1 1, 3) := by decide +kernel
theorem dX6_keeps_37 : decode cX6_keeps 37 = .ok (.goto (-26), 3) := by decide +kernel
theorem dX6_keeps_40 : decode cX6_keeps 40 = .ok (.aload_n 0, 1) := by decide +kernel
theorem dX6_keeps_41 : decode cX6_keeps 41 = .ok (.dup, 1) := by decide +kernel
theorem dX6_keeps_42 : decode cX6_keeps 42 = .ok (.getfield 50, 3) := by decide +kernel
theorem dX6_keeps_45 : decode cX6_keeps 45 = .ok (.iconst 1, 1) := by decide +kernel
theorem dX6_keeps_46 : decode cX6_keeps 46 = .ok (.isub, 1) := by decide +kernel
theorem dX6_keeps_47 : decode cX6_keeps 47 = .ok (.putfield 50, 3) := by decide +kernel
theorem dX6_keeps_50 : decode cX6_keeps 50 = .ok (.aload_n 0, 1) := by decide +kernel
theorem dX6_keeps_51 : decode cX6_keeps 51 = .ok (.getfield 20, 3) := by decide +kernel
theorem dX6_keeps_54 : decode cX6_keeps 54 = .ok (.sipush 4136, 3) := by decide +kernel
theorem dX6_keeps_57 : decode cX6_keeps 57 = .ok (.aload_n 0, 1) := by decide +kernel
theorem dX6_keeps_58 : decode cX6_keeps 58 = .ok (.getfield 50, 3) := by decide +kernel
theorem dX6_keeps_61 : decode cX6_keeps 61 = .ok (.imul, 1) := by decide +kernel
theorem dX6_keeps_62 : decode cX6_keeps 62 = .ok (.aload_n 0, 1) := by decide +kernel
theorem dX6_keeps_63 : decode cX6_keeps 63 = .ok (.getfield 7, 3) := by decide +kernel
theorem dX6_keeps_66 : decode cX6_keeps 66 = .ok (.iconst 0, 1) := by decide +kernel
theorem dX6_keeps_67 : decode cX6_keeps 67 = .ok (.invokestatic 53, 3) := by decide +kernel
theorem dX6_keeps_70 : decode cX6_keeps 70 = .ok (.aload_n 0, 1) := by decide +kernel
theorem dX6_keeps_71 : decode cX6_keeps 71 = .ok (.dup, 1) := by decide +kernel
theorem dX6_keeps_72 : decode cX6_keeps 72 = .ok (.getfield 50, 3) := by decide +kernel
theorem dX6_keeps_75 : decode cX6_keeps 75 = .ok (.iconst 1, 1) := by decide +kernel
theorem dX6_keeps_76 : decode cX6_keeps 76 = .ok (.iadd, 1) := by decide +kernel
theorem dX6_keeps_77 : decode cX6_keeps 77 = .ok (.putfield 50, 3) := by decide +kernel
theorem dX6_keeps_80 : decode cX6_keeps 80 = .ok (.return_, 1) := by decide +kernel
theorem dX6_undo_0 : decode cX6_undo 0 = .ok (.aload_n 0, 1) := by decide +kernel
theorem dX6_undo_1 : decode cX6_undo 1 = .ok (.aload_n 0, 1) := by decide +kernel
theorem dX6_undo_2 : decode cX6_undo 2 = .ok (.getfield 50, 3) := by decide +kernel
theorem dX6_undo_5 : decode cX6_undo 5 = .ok (.ifCond .ne 7, 3) := by decide +kernel
theorem dX6_undo_8 : decode cX6_undo 8 = .ok (.iconst 1, 1) := by decide +kernel
theorem dX6_undo_9 : decode cX6_undo 9 = .ok (.goto 4, 3) := by decide +kernel
theorem dX6_undo_12 : decode cX6_undo 12 = .ok (.iconst 0, 1) := by decide +kernel
theorem dX6_undo_13 : decode cX6_undo 13 = .ok (.putfield 47, 3) := by decide +kernel
theorem dX6_undo_16 : decode cX6_undo 16 = .ok (.aload_n 0, 1) := by decide +kernel
theorem dX6_undo_17 : decode cX6_undo 17 = .ok (.getfield 47, 3) := by decide +kernel
theorem dX6_undo_20 : decode cX6_undo 20 = .ok (.ifCond .le 5, 3) := by decide +kernel
theorem dX6_undo_23 : decode cX6_undo 23 = .ok (.iconst 0, 1) := by decide +kernel
theorem dX6_undo_24 : decode cX6_undo 24 = .ok (.ireturn, 1) := by decide +kernel
theorem dX6_undo_25 : decode cX6_undo 25 = .ok (.aload_n 0, 1) := by decide +kernel
theorem dX6_undo_26 : decode cX6_undo 26 = .ok (.dup, 1) := by decide +kernel
theorem dX6_undo_27 : decode cX6_undo 27 = .ok (.getfield 50, 3) := by decide +kernel
theorem dX6_undo_30 : decode cX6_undo 30 = .ok (.iconst 1, 1) := by decide +kernel
theorem dX6_undo_31 : decode cX6_undo 31 = .ok (.isub, 1) := by decide +kernel
theorem dX6_undo_32 : decode cX6_undo 32 = .ok (.putfield 50, 3) := by decide +kernel
theorem dX6_undo_35 : decode cX6_undo 35 = .ok (.aload_n 0, 1) := by decide +kernel
theorem dX6_undo_36 : decode cX6_undo 36 = .ok (.getfield 7, 3) := by decide +kernel
theorem dX6_undo_39 : decode cX6_undo 39 = .ok (.iconst 0, 1) := by decide +kernel
theorem dX6_undo_40 : decode cX6_undo 40 = .ok (.aload_n 0, 1) := by decide +kernel
theorem dX6_undo_41 : decode cX6_undo 41 = .ok (.getfield 20, 3) := by decide +kernel
theorem dX6_undo_44 : decode cX6_undo 44 = .ok (.sipush 4136, 3) := by decide +kernel
theorem dX6_undo_47 : decode cX6_undo 47 = .ok (.aload_n 0, 1) := by decide +kernel
theorem dX6_undo_48 : decode cX6_undo 48 = .ok (.getfield 50, 3) := by decide +kernel
theorem dX6_undo_51 : decode cX6_undo 51 = .ok (.imul, 1) := by decide +kernel
theorem dX6_undo_52 : decode cX6_undo 52 = .ok (.invokestatic 53, 3) := by decide +kernel
theorem dX6_undo_55 : decode cX6_undo 55 = .ok (.aload_n 0, 1) := by decide +kernel
theorem dX6_undo_56 : decode cX6_undo 56 = .ok (.getfield 50, 3) := by decide +kernel
theorem dX6_undo_59 : decode cX6_undo 59 = .ok (.ireturn, 1) := by decide +kernel
theorem dX6_append_0 : decode cX6_append 0 = .ok (.aload_n 0, 1) := by decide +kernel
theorem dX6_append_1 : decode cX6_append 1 = .ok (.aload_n 0, 1) := by decide +kernel
theorem dX6_append_2 : decode cX6_append 2 = .ok (.getfield 57, 3) := by decide +kernel
theorem dX6_append_5 : decode cX6_append 5 = .ok (.bipush 20, 2) := by decide +kernel
theorem dX6_append_7 : decode cX6_append 7 = .ok (.iadd, 1) := by decide +kernel
theorem dX6_append_8 : decode cX6_append 8 = .ok (.sipush 500, 3) := by decide +kernel
theorem dX6_append_11 : decode cX6_append 11 = .ok (.if_icmp .le 7, 3) := by decide +kernel
theorem dX6_append_14 : decode cX6_append 14 = .ok (.iconst 1, 1) := by decide +kernel
theorem dX6_append_15 : decode cX6_append 15 = .ok (.goto 4, 3) := by decide +kernel
theorem dX6_append_18 : decode cX6_append 18 = .ok (.iconst 0, 1) := by decide +kernel
theorem dX6_append_19 : decode cX6_append 19 = .ok (.putfield 47, 3) := by decide +kernel
theorem dX6_append_22 : decode cX6_append 22 = .ok (.aload_n 0, 1) := by decide +kernel
theorem dX6_append_23 : decode cX6_append 23 = .ok (.getfield 47, 3) := by decide +kernel
theorem dX6_append_26 : decode cX6_append 26 = .ok (.ifCond .le 5, 3) := by decide +kernel
theorem dX6_append_29 : decode cX6_append 29 = .ok (.iconst 0, 1) := by decide +kernel
theorem dX6_append_30 : decode cX6_append 30 = .ok (.ireturn, 1) := by decide +kernel
theorem dX6_append_31 : decode cX6_append 31 = .ok (.iconst 0, 1) := by decide +kernel
theorem dX6_append_32 : decode cX6_append 32 = .ok (.istore 6, 2) := by decide +kernel
theorem dX6_append_34 : decode cX6_append 34 = .ok (.iload 6, 2) := by decide +kernel
theorem dX6_append_36 : decode cX6_append 36 = .ok (.bipush 20, 2) := by decide +kernel
theorem dX6_append_38 : decode cX6_append 38 = .ok (.if_icmp .ge 93, 3) := by decide +kernel
theorem dX6_append_41 : decode cX6_append 41 = .ok (.iload 6, 2) := by decide +kernel
theorem dX6_append_43 : decode cX6_append 43 = .ok (.iconst 4, 1) := by decide +kernel
theorem dX6_append_44 : decode cX6_append 44 = .ok (.if_icmp .ge 7, 3) := by decide +kernel
theorem dX6_append_47 : decode cX6_append 47 = .ok (.iload_n 1, 1) := by decide +kernel
theorem dX6_append_48 : decode cX6_append 48 = .ok (.goto 39, 3) := by decide +kernel
theorem dX6_append_51 : decode cX6_append 51 = .ok (.iload 6, 2) := by decide +kernel
theorem dX6_append_53 : decode cX6_append 53 = .ok (.bipush 8, 2) := by decide +kernel
theorem dX6_append_55 : decode cX6_append 55 = .ok (.if_icmp .ge 7, 3) := by decide +kernel
theorem dX6_append_58 : decode cX6_append 58 = .ok (.iload_n 2, 1) := by decide +kernel
theorem dX6_append_59 : decode cX6_append 59 = .ok (.goto 28, 3) := by decide +kernel
theorem dX6_append_62 : decode cX6_append 62 = .ok (.iload 6, 2) := by decide +kernel
theorem dX6_append_64 : decode cX6_append 64 = .ok (.bipush 12, 2) := by decide +kernel
theorem dX6_append_66 : decode cX6_append 66 = .ok (.if_icmp .ge 7, 3) := by decide +kernel
theorem dX6_append_69 : decode cX6_append 69 = .ok (.iload_n 3, 1) := by decide +kernel
theorem dX6_append_70 : decode cX6_append 70 = .ok (.goto 17, 3) := by decide +kernel
theorem dX6_append_73 : decode cX6_append 73 = .ok (.iload 6, 2) := by decide +kernel
theorem dX6_append_75 : decode cX6_append 75 = .ok (.bipush 16, 2) := by decide +kernel
theorem dX6_append_77 : decode cX6_append 77 = .ok (.if_icmp .ge 8, 3) := by decide +kernel
theorem dX6_append_80 : decode cX6_append 80 = .ok (.iload 4, 2) := by decide +kernel
theorem dX6_append_82 : decode cX6_append 82 = .ok (.goto 5, 3) := by decide +kernel
theorem dX6_append_85 : decode cX6_append 85 = .ok (.iload 5, 2) := by decide +kernel
theorem dX6_append_87 : decode cX6_append 87 = .ok (.istore 7, 2) := by decide +kernel
theorem dX6_append_89 : decode cX6_append 89 = .ok (.aload_n 0, 1) := by decide +kernel
theorem dX6_append_90 : decode cX6_append 90 = .ok (.getfield 30, 3) := by decide +kernel
theorem dX6_append_93 : decode cX6_append 93 = .ok (.aload_n 0, 1) := by decide +kernel
theorem dX6_append_94 : decode cX6_append 94 = .ok (.getfield 57, 3) := by decide +kernel
theorem dX6_append_97 : decode cX6_append 97 = .ok (.iload 7, 2) := by decide +kernel
theorem dX6_append_99 : decode cX6_append 99 = .ok (.bipush 24, 2) := by decide +kernel
theorem dX6_append_101 : decode cX6_append 101 = .ok (.bipush 8, 2) := by decide +kernel
theorem dX6_append_103 : decode cX6_append 103 = .ok (.iload 6, 2) := by decide +kernel
theorem dX6_append_105 : decode cX6_append 105 = .ok (.iconst 4, 1) := by decide +kernel
theorem dX6_append_106 : decode cX6_append 106 = .ok (.irem, 1) := by decide +kernel
theorem dX6_append_107 : decode cX6_append 107 = .ok (.imul, 1) := by decide +kernel
theorem dX6_append_108 : decode cX6_append 108 = .ok (.isub, 1) := by decide +kernel
theorem dX6_append_109 : decode cX6_append 109 = .ok (.ishr, 1) := by decide +kernel
theorem dX6_append_110 : decode cX6_append 110 = .ok (.sipush 255, 3) := by decide +kernel
theorem dX6_append_113 : decode cX6_append 113 = .ok (.iand, 1) := by decide +kernel
theorem dX6_append_114 : decode cX6_append 114 = .ok (.iastore, 1) := by decide +kernel
theorem dX6_append_115 : decode cX6_append 115 = .ok (.aload_n 0, 1) := by decide +kernel
theorem dX6_append_116 : decode cX6_append 116 = .ok (.dup, 1) := by decide +kernel
theorem dX6_append_117 : decode cX6_append 117 = .ok (.getfield 57, 3) := by decide +kernel
theorem dX6_append_120 : decode cX6_append 120 = .ok (.iconst 1, 1) := by decide +kernel
theorem dX6_append_121 : decode cX6_append 121 = .ok (.iadd, 1) := by decide +kernel
theorem dX6_append_122 : decode cX6_append 122 = .ok (.putfield 57, 3) := by decide +kernel
theorem dX6_append_125 : decode cX6_append 125 = .ok (.iinc 6 1, 3) := by decide +kernel
theorem dX6_append_128 : decode cX6_append 128 = .ok (.goto (-94), 3) := by decide +kernel
theorem dX6_append_131 : decode cX6_append 131 = .ok (.aload_n 0, 1) := by decide +kernel
theorem dX6_append_132 : decode cX6_append 132 = .ok (.getfield 57, 3) := by decide +kernel
theorem dX6_append_135 : decode cX6_append 135 = .ok (.ireturn, 1) := by decide +kernel
theorem dX6_see_0 : decode cX6_see 0 = .ok (.iload_n 1, 1) := by decide +kernel
theorem dX6_see_1 : decode cX6_see 1 = .ok (.aload_n 0, 1) := by decide +kernel
theorem dX6_see_2 : decode cX6_see 2 = .ok (.getfield 60, 3) := by decide +kernel
theorem dX6_see_5 : decode cX6_see 5 = .ok (.if_icmp .ge 12, 3) := by decide +kernel
theorem dX6_see_8 : decode cX6_see 8 = .ok (.aload_n 0, 1) := by decide +kernel
theorem dX6_see_9 : decode cX6_see 9 = .ok (.getfield 30, 3) := by decide +kernel
theorem dX6_see_12 : decode cX6_see 12 = .ok (.iload_n 1, 1) := by decide +kernel
theorem dX6_see_13 : decode cX6_see 13 = .ok (.iaload, 1) := by decide +kernel
theorem dX6_see_14 : decode cX6_see 14 = .ok (.goto 4, 3) := by decide +kernel
theorem dX6_see_17 : decode cX6_see 17 = .ok (.iconst (-1), 1) := by decide +kernel
theorem dX6_see_18 : decode cX6_see 18 = .ok (.ireturn, 1) := by decide +kernel
theorem dX6_next_0 : decode cX6_next 0 = .ok (.aload_n 0, 1) := by decide +kernel
theorem dX6_next_1 : decode cX6_next 1 = .ok (.aload_n 0, 1) := by decide +kernel
theorem dX6_next_2 : decode cX6_next 2 = .ok (.getfield 63, 3) := by decide +kernel
theorem dX6_next_5 : decode cX6_next 5 = .ok (.putfield 66, 3) := by decide +kernel
end
section
theorem dX6_next_8 : decode cX6_next 8 = .ok (.aload_n 0, 1) := by decide +kernel
theorem dX6_next_9 : decode cX6_next 9 = .ok (.aload_n 0, 1) := by decide +kernel
theorem dX6_next_10 : decode cX6_next 10 = .ok (.getfield 66, 3) := by decide +kernel
theorem dX6_next_13 : decode cX6_next 13 = .ok (.invokevirtual 69, 3) := by decide +kernel
theorem dX6_next_16 : decode cX6_next 16 = .ok (.bipush 32, 2) := by decide +kernel
theorem dX6_next_18 : decode cX6_next 18 = .ok (.if_icmp .ne 16, 3) := by decide +kernel
theorem dX6_next_21 : decode cX6_next 21 = .ok (.aload_n 0, 1) := by decide +kernel
theorem dX6_next_22 : decode cX6_next 22 = .ok (.dup, 1) := by decide +kernel
theorem dX6_next_23 : decode cX6_next 23 = .ok (.getfield 66, 3) := by decide +kernel
theorem dX6_next_26 : decode cX6_next 26 = .ok (.iconst 1, 1) := by decide +kernel
theorem dX6_next_27 : decode cX6_next 27 = .ok (.iadd, 1) := by decide +kernel
theorem dX6_next_28 : decode cX6_next 28 = .ok (.putfield 66, 3) := by decide +kernel
theorem dX6_next_31 : decode cX6_next 31 = .ok (.goto (-23), 3) := by decide +kernel
theorem dX6_next_34 : decode cX6_next 34 = .ok (.aload_n 0, 1) := by decide +kernel
theorem dX6_next_35 : decode cX6_next 35 = .ok (.aload_n 0, 1) := by decide +kernel
theorem dX6_next_36 : decode cX6_next 36 = .ok (.getfield 66, 3) := by decide +kernel
theorem dX6_next_39 : decode cX6_next 39 = .ok (.putfield 63, 3) := by decide +kernel
theorem dX6_next_42 : decode cX6_next 42 = .ok (.aload_n 0, 1) := by decide +kernel
theorem dX6_next_43 : decode cX6_next 43 = .ok (.getfield 66, 3) := by decide +kernel
theorem dX6_next_46 : decode cX6_next 46 = .ok (.aload_n 0, 1) := by decide +kernel
theorem dX6_next_47 : decode cX6_next 47 = .ok (.getfield 60, 3) := by decide +kernel
theorem dX6_next_50 : decode cX6_next 50 = .ok (.if_icmp .lt 11, 3) := by decide +kernel
theorem dX6_next_53 : decode cX6_next 53 = .ok (.aload_n 0, 1) := by decide +kernel
theorem dX6_next_54 : decode cX6_next 54 = .ok (.iconst 3, 1) := by decide +kernel
theorem dX6_next_55 : decode cX6_next 55 = .ok (.putfield 73, 3) := by decide +kernel
theorem dX6_next_58 : decode cX6_next 58 = .ok (.goto 170, 3) := by decide +kernel
theorem dX6_next_61 : decode cX6_next 61 = .ok (.aload_n 0, 1) := by decide +kernel
theorem dX6_next_62 : decode cX6_next 62 = .ok (.aload_n 0, 1) := by decide +kernel
theorem dX6_next_63 : decode cX6_next 63 = .ok (.getfield 66, 3) := by decide +kernel
theorem dX6_next_66 : decode cX6_next 66 = .ok (.invokevirtual 69, 3) := by decide +kernel
theorem dX6_next_69 : decode cX6_next 69 = .ok (.bipush 97, 2) := by decide +kernel
theorem dX6_next_71 : decode cX6_next 71 = .ok (.bipush 122, 2) := by decide +kernel
theorem dX6_next_73 : decode cX6_next 73 = .ok (.invokestatic 76, 3) := by decide +kernel
theorem dX6_next_76 : decode cX6_next 76 = .ok (.ifCond .eq 42, 3) := by decide +kernel
theorem dX6_next_79 : decode cX6_next 79 = .ok (.aload_n 0, 1) := by decide +kernel
theorem dX6_next_80 : decode cX6_next 80 = .ok (.aload_n 0, 1) := by decide +kernel
theorem dX6_next_81 : decode cX6_next 81 = .ok (.getfield 63, 3) := by decide +kernel
theorem dX6_next_84 : decode cX6_next 84 = .ok (.invokevirtual 69, 3) := by decide +kernel
theorem dX6_next_87 : decode cX6_next 87 = .ok (.bipush 97, 2) := by decide +kernel
theorem dX6_next_89 : decode cX6_next 89 = .ok (.bipush 122, 2) := by decide +kernel
theorem dX6_next_91 : decode cX6_next 91 = .ok (.invokestatic 76, 3) := by decide +kernel
theorem dX6_next_94 : decode cX6_next 94 = .ok (.ifCond .eq 16, 3) := by decide +kernel
theorem dX6_next_97 : decode cX6_next 97 = .ok (.aload_n 0, 1) := by decide +kernel
theorem dX6_next_98 : decode cX6_next 98 = .ok (.dup, 1) := by decide +kernel
theorem dX6_next_99 : decode cX6_next 99 = .ok (.getfield 63, 3) := by decide +kernel
theorem dX6_next_102 : decode cX6_next 102 = .ok (.iconst 1, 1) := by decide +kernel
theorem dX6_next_103 : decode cX6_next 103 = .ok (.iadd, 1) := by decide +kernel
theorem dX6_next_104 : decode cX6_next 104 = .ok (.putfield 63, 3) := by decide +kernel
theorem dX6_next_107 : decode cX6_next 107 = .ok (.goto (-28), 3) := by decide +kernel
theorem dX6_next_110 : decode cX6_next 110 = .ok (.aload_n 0, 1) := by decide +kernel
theorem dX6_next_111 : decode cX6_next 111 = .ok (.iconst 0, 1) := by decide +kernel
theorem dX6_next_112 : decode cX6_next 112 = .ok (.putfield 73, 3) := by decide +kernel
theorem dX6_next_115 : decode cX6_next 115 = .ok (.goto 113, 3) := by decide +kernel
theorem dX6_next_118 : decode cX6_next 118 = .ok (.aload_n 0, 1) := by decide +kernel
theorem dX6_next_119 : decode cX6_next 119 = .ok (.aload_n 0, 1) := by decide +kernel
theorem dX6_next_120 : decode cX6_next 120 = .ok (.getfield 66, 3) := by decide +kernel
theorem dX6_next_123 : decode cX6_next 123 = .ok (.invokevirtual 69, 3) := by decide +kernel
theorem dX6_next_126 : decode cX6_next 126 = .ok (.bipush 48, 2) := by decide +kernel
theorem dX6_next_128 : decode cX6_next 128 = .ok (.bipush 57, 2) := by decide +kernel
theorem dX6_next_130 : decode cX6_next 130 = .ok (.invokestatic 76, 3) := by decide +kernel
theorem dX6_next_133 : decode cX6_next 133 = .ok (.ifCond .eq 80, 3) := by decide +kernel
theorem dX6_next_136 : decode cX6_next 136 = .ok (.aload_n 0, 1) := by decide +kernel
theorem dX6_next_137 : decode cX6_next 137 = .ok (.iconst 0, 1) := by decide +kernel
theorem dX6_next_138 : decode cX6_next 138 = .ok (.putfield 80, 3) := by decide +kernel
theorem dX6_next_141 : decode cX6_next 141 = .ok (.aload_n 0, 1) := by decide +kernel
theorem dX6_next_142 : decode cX6_next 142 = .ok (.aload_n 0, 1) := by decide +kernel
theorem dX6_next_143 : decode cX6_next 143 = .ok (.getfield 63, 3) := by decide +kernel
theorem dX6_next_146 : decode cX6_next 146 = .ok (.invokevirtual 69, 3) := by decide +kernel
theorem dX6_next_149 : decode cX6_next 149 = .ok (.bipush 48, 2) := by decide +kernel
theorem dX6_next_151 : decode cX6_next 151 = .ok (.bipush 57, 2) := by decide +kernel
theorem dX6_next_153 : decode cX6_next 153 = .ok (.invokestatic 76, 3) := by decide +kernel
theorem dX6_next_156 : decode cX6_next 156 = .ok (.ifCond .eq 49, 3) := by decide +kernel
theorem dX6_next_159 : decode cX6_next 159 = .ok (.aload_n 0, 1) := by decide +kernel
theorem dX6_next_160 : decode cX6_next 160 = .ok (.getfield 80, 3) := by decide +kernel
theorem dX6_next_163 : decode cX6_next 163 = .ok (.sipush 10000, 3) := by decide +kernel
theorem dX6_next_166 : decode cX6_next 166 = .ok (.if_icmp .ge 26, 3) := by decide +kernel
theorem dX6_next_169 : decode cX6_next 169 = .ok (.aload_n 0, 1) := by decide +kernel
theorem dX6_next_170 : decode cX6_next 170 = .ok (.bipush 10, 2) := by decide +kernel
theorem dX6_next_172 : decode cX6_next 172 = .ok (.aload_n 0, 1) := by decide +kernel
theorem dX6_next_173 : decode cX6_next 173 = .ok (.getfield 80, 3) := by decide +kernel
theorem dX6_next_176 : decode cX6_next 176 = .ok (.imul, 1) := by decide +kernel
theorem dX6_next_177 : decode cX6_next 177 = .ok (.aload_n 0, 1) := by decide +kernel
theorem dX6_next_178 : decode cX6_next 178 = .ok (.aload_n 0, 1) := by decide +kernel
theorem dX6_next_179 : decode cX6_next 179 = .ok (.getfield 63, 3) := by decide +kernel
theorem dX6_next_182 : decode cX6_next 182 = .ok (.invokevirtual 69, 3) := by decide +kernel
theorem dX6_next_185 : decode cX6_next 185 = .ok (.iadd, 1) := by decide +kernel
theorem dX6_next_186 : decode cX6_next 186 = .ok (.bipush 48, 2) := by decide +kernel
theorem dX6_next_188 : decode cX6_next 188 = .ok (.isub, 1) := by decide +kernel
theorem dX6_next_189 : decode cX6_next 189 = .ok (.putfield 80, 3) := by decide +kernel
theorem dX6_next_192 : decode cX6_next 192 = .ok (.aload_n 0, 1) := by decide +kernel
theorem dX6_next_193 : decode cX6_next 193 = .ok (.dup, 1) := by decide +kernel
theorem dX6_next_194 : decode cX6_next 194 = .ok (.getfield 63, 3) := by decide +kernel
theorem dX6_next_197 : decode cX6_next 197 = .ok (.iconst 1, 1) := by decide +kernel
theorem dX6_next_198 : decode cX6_next 198 = .ok (.iadd, 1) := by decide +kernel
theorem dX6_next_199 : decode cX6_next 199 = .ok (.putfield 63, 3) := by decide +kernel
theorem dX6_next_202 : decode cX6_next 202 = .ok (.goto (-61), 3) := by decide +kernel
theorem dX6_next_205 : decode cX6_next 205 = .ok (.aload_n 0, 1) := by decide +kernel
theorem dX6_next_206 : decode cX6_next 206 = .ok (.iconst 1, 1) := by decide +kernel
theorem dX6_next_207 : decode cX6_next 207 = .ok (.putfield 73, 3) := by decide +kernel
theorem dX6_next_210 : decode cX6_next 210 = .ok (.goto 18, 3) := by decide +kernel
theorem dX6_next_213 : decode cX6_next 213 = .ok (.aload_n 0, 1) := by decide +kernel
theorem dX6_next_214 : decode cX6_next 214 = .ok (.dup, 1) := by decide +kernel
theorem dX6_next_215 : decode cX6_next 215 = .ok (.getfield 63, 3) := by decide +kernel
theorem dX6_next_218 : decode cX6_next 218 = .ok (.iconst 1, 1) := by decide +kernel
theorem dX6_next_219 : decode cX6_next 219 = .ok (.iadd, 1) := by decide +kernel
theorem dX6_next_220 : decode cX6_next 220 = .ok (.putfield 63, 3) := by decide +kernel
theorem dX6_next_223 : decode cX6_next 223 = .ok (.aload_n 0, 1) := by decide +kernel
theorem dX6_next_224 : decode cX6_next 224 = .ok (.iconst 2, 1) := by decide +kernel
theorem dX6_next_225 : decode cX6_next 225 = .ok (.putfield 73, 3) := by decide +kernel
theorem dX6_next_228 : decode cX6_next 228 = .ok (.return_, 1) := by decide +kernel
theorem dX6_isWord_0 : decode cX6_isWord 0 = .ok (.aload_n 0, 1) := by decide +kernel
theorem dX6_isWord_1 : decode cX6_isWord 1 = .ok (.getfield 83, 3) := by decide +kernel
theorem dX6_isWord_4 : decode cX6_isWord 4 = .ok (.ifCond .ne 26, 3) := by decide +kernel
theorem dX6_isWord_7 : decode cX6_isWord 7 = .ok (.aload_n 0, 1) := by decide +kernel
theorem dX6_isWord_8 : decode cX6_isWord 8 = .ok (.getfield 73, 3) := by decide +kernel
theorem dX6_isWord_11 : decode cX6_isWord 11 = .ok (.ifCond .ne 19, 3) := by decide +kernel
theorem dX6_isWord_14 : decode cX6_isWord 14 = .ok (.aload_n 0, 1) := by decide +kernel
theorem dX6_isWord_15 : decode cX6_isWord 15 = .ok (.getfield 63, 3) := by decide +kernel
theorem dX6_isWord_18 : decode cX6_isWord 18 = .ok (.aload_n 0, 1) := by decide +kernel
theorem dX6_isWord_19 : decode cX6_isWord 19 = .ok (.getfield 66, 3) := by decide +kernel
theorem dX6_isWord_22 : decode cX6_isWord 22 = .ok (.isub, 1) := by decide +kernel
theorem dX6_isWord_23 : decode cX6_isWord 23 = .ok (.aload_n 1, 1) := by decide +kernel
theorem dX6_isWord_24 : decode cX6_isWord 24 = .ok (.invokevirtual 86, 3) := by decide +kernel
theorem dX6_isWord_27 : decode cX6_isWord 27 = .ok (.if_icmp .eq 5, 3) := by decide +kernel
theorem dX6_isWord_30 : decode cX6_isWord 30 = .ok (.iconst 0, 1) := by decide +kernel
theorem dX6_isWord_31 : decode cX6_isWord 31 = .ok (.ireturn, 1) := by decide +kernel
theorem dX6_isWord_32 : decode cX6_isWord 32 = .ok (.iconst 0, 1) := by decide +kernel
theorem dX6_isWord_33 : decode cX6_isWord 33 = .ok (.istore_n 2, 1) := by decide +kernel
theorem dX6_isWord_34 : decode cX6_isWord 34 = .ok (.iload_n 2, 1) := by decide +kernel
theorem dX6_isWord_35 : decode cX6_isWord 35 = .ok (.aload_n 1, 1) := by decide +kernel
theorem dX6_isWord_36 : decode cX6_isWord 36 = .ok (.invokevirtual 86, 3) := by decide +kernel
theorem dX6_isWord_39 : decode cX6_isWord 39 = .ok (.if_icmp .ge 30, 3) := by decide +kernel
theorem dX6_isWord_42 : decode cX6_isWord 42 = .ok (.aload_n 0, 1) := by decide +kernel
theorem dX6_isWord_43 : decode cX6_isWord 43 = .ok (.getfield 30, 3) := by decide +kernel
theorem dX6_isWord_46 : decode cX6_isWord 46 = .ok (.aload_n 0, 1) := by decide +kernel
theorem dX6_isWord_47 : decode cX6_isWord 47 = .ok (.getfield 66, 3) := by decide +kernel
theorem dX6_isWord_50 : decode cX6_isWord 50 = .ok (.iload_n 2, 1) := by decide +kernel
theorem dX6_isWord_51 : decode cX6_isWord 51 = .ok (.iadd, 1) := by decide +kernel
theorem dX6_isWord_52 : decode cX6_isWord 52 = .ok (.iaload, 1) := by decide +kernel
theorem dX6_isWord_53 : decode cX6_isWord 53 = .ok (.aload_n 1, 1) := by decide +kernel
theorem dX6_isWord_54 : decode cX6_isWord 54 = .ok (.iload_n 2, 1) := by decide +kernel
theorem dX6_isWord_55 : decode cX6_isWord 55 = .ok (.invokevirtual 92, 3) := by decide +kernel
theorem dX6_isWord_58 : decode cX6_isWord 58 = .ok (.if_icmp .eq 5, 3) := by decide +kernel
theorem dX6_isWord_61 : decode cX6_isWord 61 = .ok (.iconst 0, 1) := by decide +kernel
theorem dX6_isWord_62 : decode cX6_isWord 62 = .ok (.ireturn, 1) := by decide +kernel
theorem dX6_isWord_63 : decode cX6_isWord 63 = .ok (.iinc 2 1, 3) := by decide +kernel
theorem dX6_isWord_66 : decode cX6_isWord 66 = .ok (.goto (-32), 3) := by decide +kernel
theorem dX6_isWord_69 : decode cX6_isWord 69 = .ok (.iconst 1, 1) := by decide +kernel
theorem dX6_isWord_70 : decode cX6_isWord 70 = .ok (.ireturn, 1) := by decide +kernel
theorem dX6_fails_0 : decode cX6_fails 0 = .ok (.aload_n 0, 1) := by decide +kernel
theorem dX6_fails_1 : decode cX6_fails 1 = .ok (.getfield 83, 3) := by decide +kernel
theorem dX6_fails_4 : decode cX6_fails 4 = .ok (.ifCond .eq 4, 3) := by decide +kernel
theorem dX6_fails_7 : decode cX6_fails 7 = .ok (.return_, 1) := by decide +kernel
theorem dX6_fails_8 : decode cX6_fails 8 = .ok (.aload_n 0, 1) := by decide +kernel
theorem dX6_fails_9 : decode cX6_fails 9 = .ok (.iload_n 1, 1) := by decide +kernel
theorem dX6_fails_10 : decode cX6_fails 10 = .ok (.putfield 83, 3) := by decide +kernel
theorem dX6_fails_13 : decode cX6_fails 13 = .ok (.aload_n 0, 1) := by decide +kernel
theorem dX6_fails_14 : decode cX6_fails 14 = .ok (.aload_n 0, 1) := by decide +kernel
theorem dX6_fails_15 : decode cX6_fails 15 = .ok (.getfield 66, 3) := by decide +kernel
theorem dX6_fails_18 : decode cX6_fails 18 = .ok (.putfield 96, 3) := by decide +kernel
theorem dX6_fails_21 : decode cX6_fails 21 = .ok (.return_, 1) := by decide +kernel
theorem dX6_must_0 : decode cX6_must 0 = .ok (.iload_n 1, 1) := by decide +kernel
theorem dX6_must_1 : decode cX6_must 1 = .ok (.ifCond .ne 9, 3) := by decide +kernel
theorem dX6_must_4 : decode cX6_must 4 = .ok (.aload_n 0, 1) := by decide +kernel
theorem dX6_must_5 : decode cX6_must 5 = .ok (.bipush (-2), 2) := by decide +kernel
theorem dX6_must_7 : decode cX6_must 7 = .ok (.invokevirtual 99, 3) := by decide +kernel
theorem dX6_must_10 : decode cX6_must 10 = .ok (.aload_n 0, 1) := by decide +kernel
theorem dX6_must_11 : decode cX6_must 11 = .ok (.getfield 83, 3) := by decide +kernel
theorem dX6_must_14 : decode cX6_must 14 = .ok (.ifCond .ne 7, 3) := by decide +kernel
theorem dX6_must_17 : decode cX6_must 17 = .ok (.aload_n 0, 1) := by decide +kernel
theorem dX6_must_18 : decode cX6_must 18 = .ok (.invokevirtual 103, 3) := by decide +kernel
theorem dX6_must_21 : decode cX6_must 21 = .ok (.return_, 1) := by decide +kernel
theorem dX6_takes_0 : decode cX6_takes 0 = .ok (.aload_n 0, 1) := by decide +kernel
theorem dX6_takes_1 : decode cX6_takes 1 = .ok (.getfield 83, 3) := by decide +kernel
theorem dX6_takes_4 : decode cX6_takes 4 = .ok (.ifCond .ne 20, 3) := by decide +kernel
theorem dX6_takes_7 : decode cX6_takes 7 = .ok (.aload_n 0, 1) := by decide +kernel
theorem dX6_takes_8 : decode cX6_takes 8 = .ok (.getfield 73, 3) := by decide +kernel
theorem dX6_takes_11 : decode cX6_takes 11 = .ok (.iconst 1, 1) := by decide +kernel
theorem dX6_takes_12 : decode cX6_takes 12 = .ok (.if_icmp .eq 12, 3) := by decide +kernel
theorem dX6_takes_15 : decode cX6_takes 15 = .ok (.aload_n 0, 1) := by decide +kernel
theorem dX6_takes_16 : decode cX6_takes 16 = .ok (.bipush (-2), 2) := by decide +kernel
theorem dX6_takes_18 : decode cX6_takes 18 = .ok (.invokevirtual 99, 3) := by decide +kernel
theorem dX6_takes_21 : decode cX6_takes 21 = .ok (.goto 28, 3) := by decide +kernel
theorem dX6_takes_24 : decode cX6_takes 24 = .ok (.aload_n 0, 1) := by decide +kernel
theorem dX6_takes_25 : decode cX6_takes 25 = .ok (.getfield 83, 3) := by decide +kernel
theorem dX6_takes_28 : decode cX6_takes 28 = .ok (.ifCond .ne 21, 3) := by decide +kernel
theorem dX6_takes_31 : decode cX6_takes 31 = .ok (.aload_n 0, 1) := by decide +kernel
theorem dX6_takes_32 : decode cX6_takes 32 = .ok (.getfield 80, 3) := by decide +kernel
theorem dX6_takes_35 : decode cX6_takes 35 = .ok (.iload_n 1, 1) := by decide +kernel
theorem dX6_takes_36 : decode cX6_takes 36 = .ok (.iload_n 2, 1) := by decide +kernel
theorem dX6_takes_37 : decode cX6_takes 37 = .ok (.invokestatic 76, 3) := by decide +kernel
theorem dX6_takes_40 : decode cX6_takes 40 = .ok (.ifCond .ne 9, 3) := by decide +kernel
theorem dX6_takes_43 : decode cX6_takes 43 = .ok (.aload_n 0, 1) := by decide +kernel
theorem dX6_takes_44 : decode cX6_takes 44 = .ok (.bipush (-3), 2) := by decide +kernel
theorem dX6_takes_46 : decode cX6_takes 46 = .ok (.invokevirtual 99, 3) := by decide +kernel
theorem dX6_takes_49 : decode cX6_takes 49 = .ok (.aload_n 0, 1) := by decide +kernel
theorem dX6_takes_50 : decode cX6_takes 50 = .ok (.getfield 83, 3) := by decide +kernel
theorem dX6_takes_53 : decode cX6_takes 53 = .ok (.ifCond .ne 10, 3) := by decide +kernel
theorem dX6_takes_56 : decode cX6_takes 56 = .ok (.aload_n 0, 1) := by decide +kernel
theorem dX6_takes_57 : decode cX6_takes 57 = .ok (.getfield 80, 3) := by decide +kernel
theorem dX6_takes_60 : decode cX6_takes 60 = .ok (.goto 4, 3) := by decide +kernel
theorem dX6_takes_63 : decode cX6_takes 63 = .ok (.iconst 0, 1) := by decide +kernel
theorem dX6_takes_64 : decode cX6_takes 64 = .ok (.istore_n 3, 1) := by decide +kernel
theorem dX6_takes_65 : decode cX6_takes 65 = .ok (.aload_n 0, 1) := by decide +kernel
theorem dX6_takes_66 : decode cX6_takes 66 = .ok (.getfield 83, 3) := by decide +kernel
theorem dX6_takes_69 : decode cX6_takes 69 = .ok (.ifCond .ne 7, 3) := by decide +kernel
theorem dX6_takes_72 : decode cX6_takes 72 = .ok (.aload_n 0, 1) := by decide +kernel
theorem dX6_takes_73 : decode cX6_takes 73 = .ok (.invokevirtual 103, 3) := by decide +kernel
theorem dX6_takes_76 : decode cX6_takes 76 = .ok (.iload_n 3, 1) := by decide +kernel
theorem dX6_takes_77 : decode cX6_takes 77 = .ok (.ireturn, 1) := by decide +kernel
theorem dX6_mustEnd_0 : decode cX6_mustEnd 0 = .ok (.aload_n 0, 1) := by decide +kernel
theorem dX6_mustEnd_1 : decode cX6_mustEnd 1 = .ok (.aload_n 0, 1) := by decide +kernel
theorem dX6_mustEnd_2 : decode cX6_mustEnd 2 = .ok (.getfield 73, 3) := by decide +kernel
theorem dX6_mustEnd_5 : decode cX6_mustEnd 5 = .ok (.iconst 2, 1) := by decide +kernel
theorem dX6_mustEnd_6 : decode cX6_mustEnd 6 = .ok (.if_icmp .ne 20, 3) := by decide +kernel
theorem dX6_mustEnd_9 : decode cX6_mustEnd 9 = .ok (.aload_n 0, 1) := by decide +kernel
theorem dX6_mustEnd_10 : decode cX6_mustEnd 10 = .ok (.aload_n 0, 1) := by decide +kernel
theorem dX6_mustEnd_11 : decode cX6_mustEnd 11 = .ok (.getfield 66, 3) := by decide +kernel
theorem dX6_mustEnd_14 : decode cX6_mustEnd 14 = .ok (.invokevirtual 69, 3) := by decide +kernel
theorem dX6_mustEnd_17 : decode cX6_mustEnd 17 = .ok (.bipush 59, 2) := by decide +kernel
theorem dX6_mustEnd_19 : decode cX6_mustEnd 19 = .ok (.if_icmp .ne 7, 3) := by decide +kernel
theorem dX6_mustEnd_22 : decode cX6_mustEnd 22 = .ok (.iconst 1, 1) := by decide +kernel
theorem dX6_mustEnd_23 : decode cX6_mustEnd 23 = .ok (.goto 4, 3) := by decide +kernel
theorem dX6_mustEnd_26 : decode cX6_mustEnd 26 = .ok (.iconst 0, 1) := by decide +kernel
theorem dX6_mustEnd_27 : decode cX6_mustEnd 27 = .ok (.invokevirtual 106, 3) := by decide +kernel
theorem dX6_mustEnd_30 : decode cX6_mustEnd 30 = .ok (.return_, 1) := by decide +kernel
theorem dX6_lettersHere_0 : decode cX6_lettersHere 0 = .ok (.iconst 0, 1) := by decide +kernel
theorem dX6_lettersHere_1 : decode cX6_lettersHere 1 = .ok (.istore_n 1, 1) := by decide +kernel
theorem dX6_lettersHere_2 : decode cX6_lettersHere 2 = .ok (.aload_n 0, 1) := by decide +kernel
theorem dX6_lettersHere_3 : decode cX6_lettersHere 3 = .ok (.getfield 66, 3) := by decide +kernel
theorem dX6_lettersHere_6 : decode cX6_lettersHere 6 = .ok (.istore_n 2, 1) := by decide +kernel
theorem dX6_lettersHere_7 : decode cX6_lettersHere 7 = .ok (.iload_n 2, 1) := by decide +kernel
theorem dX6_lettersHere_8 : decode cX6_lettersHere 8 = .ok (.aload_n 0, 1) := by decide +kernel
theorem dX6_lettersHere_9 : decode cX6_lettersHere 9 = .ok (.getfield 63, 3) := by decide +kernel
theorem dX6_lettersHere_12 : decode cX6_lettersHere 12 = .ok (.if_icmp .ge 46, 3) := by decide +kernel
theorem dX6_lettersHere_15 : decode cX6_lettersHere 15 = .ok (.aload_n 0, 1) := by decide +kernel
theorem dX6_lettersHere_16 : decode cX6_lettersHere 16 = .ok (.getfield 30, 3) := by decide +kernel
theorem dX6_lettersHere_19 : decode cX6_lettersHere 19 = .ok (.iload_n 2, 1) := by decide +kernel
theorem dX6_lettersHere_20 : decode cX6_lettersHere 20 = .ok (.iaload, 1) := by decide +kernel
theorem dX6_lettersHere_21 : decode cX6_lettersHere 21 = .ok (.bipush 97, 2) := by decide +kernel
theorem dX6_lettersHere_23 : decode cX6_lettersHere 23 = .ok (.isub, 1) := by decide +kernel
theorem dX6_lettersHere_24 : decode cX6_lettersHere 24 = .ok (.istore_n 3, 1) := by decide +kernel
theorem dX6_lettersHere_25 : decode cX6_lettersHere 25 = .ok (.iload_n 3, 1) := by decide +kernel
theorem dX6_lettersHere_26 : decode cX6_lettersHere 26 = .ok (.aload_n 0, 1) := by decide +kernel
theorem dX6_lettersHere_27 : decode cX6_lettersHere 27 = .ok (.getfield 7, 3) := by decide +kernel
theorem dX6_lettersHere_30 : decode cX6_lettersHere 30 = .ok (.iconst 1, 1) := by decide +kernel
theorem dX6_lettersHere_31 : decode cX6_lettersHere 31 = .ok (.iaload, 1) := by decide +kernel
theorem dX6_lettersHere_32 : decode cX6_lettersHere 32 = .ok (.if_icmp .ge 12, 3) := by decide +kernel
theorem dX6_lettersHere_35 : decode cX6_lettersHere 35 = .ok (.iload_n 1, 1) := by decide +kernel
theorem dX6_lettersHere_36 : decode cX6_lettersHere 36 = .ok (.iload_n 3, 1) := by decide +kernel
theorem dX6_lettersHere_37 : decode cX6_lettersHere 37 = .ok (.ishr, 1) := by decide +kernel
theorem dX6_lettersHere_38 : decode cX6_lettersHere 38 = .ok (.iconst 1, 1) := by decide +kernel
theorem dX6_lettersHere_39 : decode cX6_lettersHere 39 = .ok (.iand, 1) := by decide +kernel
theorem dX6_lettersHere_40 : decode cX6_lettersHere 40 = .ok (.iconst 1, 1) := by decide +kernel
theorem dX6_lettersHere_41 : decode cX6_lettersHere 41 = .ok (.if_icmp .ne 5, 3) := by decide +kernel
theorem dX6_lettersHere_44 : decode cX6_lettersHere 44 = .ok (.iconst 0, 1) := by decide +kernel
theorem dX6_lettersHere_45 : decode cX6_lettersHere 45 = .ok (.ireturn, 1) := by decide +kernel
theorem dX6_lettersHere_46 : decode cX6_lettersHere 46 = .ok (.iload_n 1, 1) := by decide +kernel
theorem dX6_lettersHere_47 : decode cX6_lettersHere 47 = .ok (.iconst 1, 1) := by decide +kernel
theorem dX6_lettersHere_48 : decode cX6_lettersHere 48 = .ok (.iload_n 3, 1) := by decide +kernel
theorem dX6_lettersHere_49 : decode cX6_lettersHere 49 = .ok (.ishl, 1) := by decide +kernel
theorem dX6_lettersHere_50 : decode cX6_lettersHere 50 = .ok (.ior, 1) := by decide +kernel
theorem dX6_lettersHere_51 : decode cX6_lettersHere 51 = .ok (.istore_n 1, 1) := by decide +kernel
theorem dX6_lettersHere_52 : decode cX6_lettersHere 52 = .ok (.iinc 2 1, 3) := by decide +kernel
theorem dX6_lettersHere_55 : decode cX6_lettersHere 55 = .ok (.goto (-48), 3) := by decide +kernel
theorem dX6_lettersHere_58 : decode cX6_lettersHere 58 = .ok (.iload_n 1, 1) := by decide +kernel
theorem dX6_lettersHere_59 : decode cX6_lettersHere 59 = .ok (.ireturn, 1) := by decide +kernel
theorem dX6_colouringsNext_0 : decode cX6_colouringsNext 0 = .ok (.iconst 1, 1) := by decide +kernel
theorem dX6_colouringsNext_1 : decode cX6_colouringsNext 1 = .ok (.istore_n 1, 1) := by decide +kernel
theorem dX6_colouringsNext_2 : decode cX6_colouringsNext 2 = .ok (.iconst 0, 1) := by decide +kernel
theorem dX6_colouringsNext_3 : decode cX6_colouringsNext 3 = .ok (.istore_n 2, 1) := by decide +kernel
theorem dX6_colouringsNext_4 : decode cX6_colouringsNext 4 = .ok (.iload_n 2, 1) := by decide +kernel
theorem dX6_colouringsNext_5 : decode cX6_colouringsNext 5 = .ok (.aload_n 0, 1) := by decide +kernel
theorem dX6_colouringsNext_6 : decode cX6_colouringsNext 6 = .ok (.getfield 7, 3) := by decide +kernel
theorem dX6_colouringsNext_9 : decode cX6_colouringsNext 9 = .ok (.iconst 0, 1) := by decide +kernel
theorem dX6_colouringsNext_10 : decode cX6_colouringsNext 10 = .ok (.iaload, 1) := by decide +kernel
theorem dX6_colouringsNext_11 : decode cX6_colouringsNext 11 = .ok (.if_icmp .gt 20, 3) := by decide +kernel
theorem dX6_colouringsNext_14 : decode cX6_colouringsNext 14 = .ok (.iload_n 1, 1) := by decide +kernel
theorem dX6_colouringsNext_15 : decode cX6_colouringsNext 15 = .ok (.aload_n 0, 1) := by decide +kernel
theorem dX6_colouringsNext_16 : decode cX6_colouringsNext 16 = .ok (.getfield 7, 3) := by decide +kernel
theorem dX6_colouringsNext_19 : decode cX6_colouringsNext 19 = .ok (.iconst 1, 1) := by decide +kernel
theorem dX6_colouringsNext_20 : decode cX6_colouringsNext 20 = .ok (.iaload, 1) := by decide +kernel
theorem dX6_colouringsNext_21 : decode cX6_colouringsNext 21 = .ok (.iconst 1, 1) := by decide +kernel
theorem dX6_colouringsNext_22 : decode cX6_colouringsNext 22 = .ok (.iadd, 1) := by decide +kernel
theorem dX6_colouringsNext_23 : decode cX6_colouringsNext 23 = .ok (.imul, 1) := by decide +kernel
theorem dX6_colouringsNext_24 : decode cX6_colouringsNext 24 = .ok (.istore_n 1, 1) := by decide +kernel
theorem dX6_colouringsNext_25 : decode cX6_colouringsNext 25 = .ok (.iinc 2 1, 3) := by decide +kernel
theorem dX6_colouringsNext_28 : decode cX6_colouringsNext 28 = .ok (.goto (-24), 3) := by decide +kernel
theorem dX6_colouringsNext_31 : decode cX6_colouringsNext 31 = .ok (.iload_n 1, 1) := by decide +kernel
theorem dX6_colouringsNext_32 : decode cX6_colouringsNext 32 = .ok (.ireturn, 1) := by decide +kernel
theorem dX6_readsVertex_0 : decode cX6_readsVertex 0 = .ok (.aload_n 0, 1) := by decide +kernel
theorem dX6_readsVertex_1 : decode cX6_readsVertex 1 = .ok (.getfield 7, 3) := by decide +kernel
theorem dX6_readsVertex_4 : decode cX6_readsVertex 4 = .ok (.iconst 0, 1) := by decide +kernel
theorem dX6_readsVertex_5 : decode cX6_readsVertex 5 = .ok (.iaload, 1) := by decide +kernel
theorem dX6_readsVertex_6 : decode cX6_readsVertex 6 = .ok (.bipush 9, 2) := by decide +kernel
theorem dX6_readsVertex_8 : decode cX6_readsVertex 8 = .ok (.if_icmp .eq 13, 3) := by decide +kernel
theorem dX6_readsVertex_11 : decode cX6_readsVertex 11 = .ok (.aload_n 0, 1) := by decide +kernel
theorem dX6_readsVertex_12 : decode cX6_readsVertex 12 = .ok (.invokevirtual 110, 3) := by decide +kernel
theorem dX6_readsVertex_15 : decode cX6_readsVertex 15 = .ok (.sipush 20000, 3) := by decide +kernel
theorem dX6_readsVertex_18 : decode cX6_readsVertex 18 = .ok (.if_icmp .le 9, 3) := by decide +kernel
theorem dX6_readsVertex_21 : decode cX6_readsVertex 21 = .ok (.aload_n 0, 1) := by decide +kernel
theorem dX6_readsVertex_22 : decode cX6_readsVertex 22 = .ok (.bipush (-6), 2) := by decide +kernel
theorem dX6_readsVertex_24 : decode cX6_readsVertex 24 = .ok (.invokevirtual 99, 3) := by decide +kernel
theorem dX6_readsVertex_27 : decode cX6_readsVertex 27 = .ok (.aload_n 0, 1) := by decide +kernel
theorem dX6_readsVertex_28 : decode cX6_readsVertex 28 = .ok (.iconst 1, 1) := by decide +kernel
theorem dX6_readsVertex_29 : decode cX6_readsVertex 29 = .ok (.invokevirtual 106, 3) := by decide +kernel
theorem dX6_readsVertex_32 : decode cX6_readsVertex 32 = .ok (.iconst 1, 1) := by decide +kernel
theorem dX6_readsVertex_33 : decode cX6_readsVertex 33 = .ok (.aload_n 0, 1) := by decide +kernel
theorem dX6_readsVertex_34 : decode cX6_readsVertex 34 = .ok (.getfield 7, 3) := by decide +kernel
theorem dX6_readsVertex_37 : decode cX6_readsVertex 37 = .ok (.iconst 1, 1) := by decide +kernel
theorem dX6_readsVertex_38 : decode cX6_readsVertex 38 = .ok (.iaload, 1) := by decide +kernel
theorem dX6_readsVertex_39 : decode cX6_readsVertex 39 = .ok (.ishl, 1) := by decide +kernel
theorem dX6_readsVertex_40 : decode cX6_readsVertex 40 = .ok (.iconst 1, 1) := by decide +kernel
theorem dX6_readsVertex_41 : decode cX6_readsVertex 41 = .ok (.isub, 1) := by decide +kernel
theorem dX6_readsVertex_42 : decode cX6_readsVertex 42 = .ok (.istore_n 1, 1) := by decide +kernel
theorem dX6_readsVertex_43 : decode cX6_readsVertex 43 = .ok (.aload_n 0, 1) := by decide +kernel
theorem dX6_readsVertex_44 : decode cX6_readsVertex 44 = .ok (.getfield 83, 3) := by decide +kernel
theorem dX6_readsVertex_47 : decode cX6_readsVertex 47 = .ok (.ifCond .ne 36, 3) := by decide +kernel
theorem dX6_readsVertex_50 : decode cX6_readsVertex 50 = .ok (.aload_n 0, 1) := by decide +kernel
theorem dX6_readsVertex_51 : decode cX6_readsVertex 51 = .ok (.getfield 73, 3) := by decide +kernel
theorem dX6_readsVertex_54 : decode cX6_readsVertex 54 = .ok (.ifCond .ne 29, 3) := by decide +kernel
theorem dX6_readsVertex_57 : decode cX6_readsVertex 57 = .ok (.aload_n 0, 1) := by decide +kernel
theorem dX6_readsVertex_58 : decode cX6_readsVertex 58 = .ok (.invokevirtual 113, 3) := by decide +kernel
theorem dX6_readsVertex_61 : decode cX6_readsVertex 61 = .ok (.istore_n 1, 1) := by decide +kernel
theorem dX6_readsVertex_62 : decode cX6_readsVertex 62 = .ok (.iload_n 1, 1) := by decide +kernel
theorem dX6_readsVertex_63 : decode cX6_readsVertex 63 = .ok (.ifCond .ne 9, 3) := by decide +kernel
theorem dX6_readsVertex_66 : decode cX6_readsVertex 66 = .ok (.aload_n 0, 1) := by decide +kernel
theorem dX6_readsVertex_67 : decode cX6_readsVertex 67 = .ok (.bipush (-3), 2) := by decide +kernel
theorem dX6_readsVertex_69 : decode cX6_readsVertex 69 = .ok (.invokevirtual 99, 3) := by decide +kernel
theorem dX6_readsVertex_72 : decode cX6_readsVertex 72 = .ok (.aload_n 0, 1) := by decide +kernel
theorem dX6_readsVertex_73 : decode cX6_readsVertex 73 = .ok (.getfield 83, 3) := by decide +kernel
theorem dX6_readsVertex_76 : decode cX6_readsVertex 76 = .ok (.ifCond .ne 7, 3) := by decide +kernel
theorem dX6_readsVertex_79 : decode cX6_readsVertex 79 = .ok (.aload_n 0, 1) := by decide +kernel
theorem dX6_readsVertex_80 : decode cX6_readsVertex 80 = .ok (.invokevirtual 103, 3) := by decide +kernel
theorem dX6_readsVertex_83 : decode cX6_readsVertex 83 = .ok (.aload_n 0, 1) := by decide +kernel
theorem dX6_readsVertex_84 : decode cX6_readsVertex 84 = .ok (.invokevirtual 116, 3) := by decide +kernel
theorem dX6_readsVertex_87 : decode cX6_readsVertex 87 = .ok (.aload_n 0, 1) := by decide +kernel
theorem dX6_readsVertex_88 : decode cX6_readsVertex 88 = .ok (.getfield 83, 3) := by decide +kernel
theorem dX6_readsVertex_91 : decode cX6_readsVertex 91 = .ok (.ifCond .eq 4, 3) := by decide +kernel
theorem dX6_readsVertex_94 : decode cX6_readsVertex 94 = .ok (.return_, 1) := by decide +kernel
theorem dX6_readsVertex_95 : decode cX6_readsVertex 95 = .ok (.aload_n 0, 1) := by decide +kernel
theorem dX6_readsVertex_96 : decode cX6_readsVertex 96 = .ok (.getfield 7, 3) := by decide +kernel
theorem dX6_readsVertex_99 : decode cX6_readsVertex 99 = .ok (.iconst 4, 1) := by decide +kernel
theorem dX6_readsVertex_100 : decode cX6_readsVertex 100 = .ok (.aload_n 0, 1) := by decide +kernel
theorem dX6_readsVertex_101 : decode cX6_readsVertex 101 = .ok (.getfield 7, 3) := by decide +kernel
theorem dX6_readsVertex_104 : decode cX6_readsVertex 104 = .ok (.iconst 0, 1) := by decide +kernel
theorem dX6_readsVertex_105 : decode cX6_readsVertex 105 = .ok (.iaload, 1) := by decide +kernel
theorem dX6_readsVertex_106 : decode cX6_readsVertex 106 = .ok (.iadd, 1) := by decide +kernel
theorem dX6_readsVertex_107 : decode cX6_readsVertex 107 = .ok (.iload_n 1, 1) := by decide +kernel
theorem dX6_readsVertex_108 : decode cX6_readsVertex 108 = .ok (.iastore, 1) := by decide +kernel
theorem dX6_readsVertex_109 : decode cX6_readsVertex 109 = .ok (.aload_n 0, 1) := by decide +kernel
theorem dX6_readsVertex_110 : decode cX6_readsVertex 110 = .ok (.getfield 7, 3) := by decide +kernel
theorem dX6_readsVertex_113 : decode cX6_readsVertex 113 = .ok (.iconst 0, 1) := by decide +kernel
theorem dX6_readsVertex_114 : decode cX6_readsVertex 114 = .ok (.dup2, 1) := by decide +kernel
theorem dX6_readsVertex_115 : decode cX6_readsVertex 115 = .ok (.iaload, 1) := by decide +kernel
theorem dX6_readsVertex_116 : decode cX6_readsVertex 116 = .ok (.iconst 1, 1) := by decide +kernel
theorem dX6_readsVertex_117 : decode cX6_readsVertex 117 = .ok (.iadd, 1) := by decide +kernel
theorem dX6_readsVertex_118 : decode cX6_readsVertex 118 = .ok (.iastore, 1) := by decide +kernel
theorem dX6_readsVertex_119 : decode cX6_readsVertex 119 = .ok (.return_, 1) := by decide +kernel
theorem dX6_readsEdge_0 : decode cX6_readsEdge 0 = .ok (.aload_n 0, 1) := by decide +kernel
theorem dX6_readsEdge_1 : decode cX6_readsEdge 1 = .ok (.iconst 1, 1) := by decide +kernel
theorem dX6_readsEdge_2 : decode cX6_readsEdge 2 = .ok (.invokevirtual 106, 3) := by decide +kernel
theorem dX6_readsEdge_5 : decode cX6_readsEdge 5 = .ok (.aload_n 0, 1) := by decide +kernel
theorem dX6_readsEdge_6 : decode cX6_readsEdge 6 = .ok (.iconst 0, 1) := by decide +kernel
theorem dX6_readsEdge_7 : decode cX6_readsEdge 7 = .ok (.aload_n 0, 1) := by decide +kernel
theorem dX6_readsEdge_8 : decode cX6_readsEdge 8 = .ok (.getfield 7, 3) := by decide +kernel
theorem dX6_readsEdge_11 : decode cX6_readsEdge 11 = .ok (.iconst 0, 1) := by decide +kernel
theorem dX6_readsEdge_12 : decode cX6_readsEdge 12 = .ok (.iaload, 1) := by decide +kernel
theorem dX6_readsEdge_13 : decode cX6_readsEdge 13 = .ok (.iconst 1, 1) := by decide +kernel
theorem dX6_readsEdge_14 : decode cX6_readsEdge 14 = .ok (.isub, 1) := by decide +kernel
theorem dX6_readsEdge_15 : decode cX6_readsEdge 15 = .ok (.invokevirtual 119, 3) := by decide +kernel
theorem dX6_readsEdge_18 : decode cX6_readsEdge 18 = .ok (.istore_n 1, 1) := by decide +kernel
theorem dX6_readsEdge_19 : decode cX6_readsEdge 19 = .ok (.aload_n 0, 1) := by decide +kernel
theorem dX6_readsEdge_20 : decode cX6_readsEdge 20 = .ok (.getfield 83, 3) := by decide +kernel
theorem dX6_readsEdge_23 : decode cX6_readsEdge 23 = .ok (.ifCond .ne 25, 3) := by decide +kernel
theorem dX6_readsEdge_26 : decode cX6_readsEdge 26 = .ok (.aload_n 0, 1) := by decide +kernel
theorem dX6_readsEdge_27 : decode cX6_readsEdge 27 = .ok (.getfield 73, 3) := by decide +kernel
theorem dX6_readsEdge_30 : decode cX6_readsEdge 30 = .ok (.iconst 1, 1) := by decide +kernel
theorem dX6_readsEdge_31 : decode cX6_readsEdge 31 = .ok (.if_icmp .ne 17, 3) := by decide +kernel
theorem dX6_readsEdge_34 : decode cX6_readsEdge 34 = .ok (.aload_n 0, 1) := by decide +kernel
theorem dX6_readsEdge_35 : decode cX6_readsEdge 35 = .ok (.getfield 80, 3) := by decide +kernel
theorem dX6_readsEdge_38 : decode cX6_readsEdge 38 = .ok (.iload_n 1, 1) := by decide +kernel
theorem dX6_readsEdge_39 : decode cX6_readsEdge 39 = .ok (.if_icmp .ne 9, 3) := by decide +kernel
theorem dX6_readsEdge_42 : decode cX6_readsEdge 42 = .ok (.aload_n 0, 1) := by decide +kernel
theorem dX6_readsEdge_43 : decode cX6_readsEdge 43 = .ok (.bipush (-3), 2) := by decide +kernel
theorem dX6_readsEdge_45 : decode cX6_readsEdge 45 = .ok (.invokevirtual 99, 3) := by decide +kernel
theorem dX6_readsEdge_48 : decode cX6_readsEdge 48 = .ok (.aload_n 0, 1) := by decide +kernel
theorem dX6_readsEdge_49 : decode cX6_readsEdge 49 = .ok (.getfield 83, 3) := by decide +kernel
theorem dX6_readsEdge_52 : decode cX6_readsEdge 52 = .ok (.ifCond .ne 42, 3) := by decide +kernel
theorem dX6_readsEdge_55 : decode cX6_readsEdge 55 = .ok (.aload_n 0, 1) := by decide +kernel
theorem dX6_readsEdge_56 : decode cX6_readsEdge 56 = .ok (.getfield 73, 3) := by decide +kernel
theorem dX6_readsEdge_59 : decode cX6_readsEdge 59 = .ok (.iconst 1, 1) := by decide +kernel
theorem dX6_readsEdge_60 : decode cX6_readsEdge 60 = .ok (.if_icmp .ne 34, 3) := by decide +kernel
theorem dX6_readsEdge_63 : decode cX6_readsEdge 63 = .ok (.aload_n 0, 1) := by decide +kernel
theorem dX6_readsEdge_64 : decode cX6_readsEdge 64 = .ok (.getfield 80, 3) := by decide +kernel
theorem dX6_readsEdge_67 : decode cX6_readsEdge 67 = .ok (.aload_n 0, 1) := by decide +kernel
theorem dX6_readsEdge_68 : decode cX6_readsEdge 68 = .ok (.getfield 7, 3) := by decide +kernel
theorem dX6_readsEdge_71 : decode cX6_readsEdge 71 = .ok (.iconst 0, 1) := by decide +kernel
theorem dX6_readsEdge_72 : decode cX6_readsEdge 72 = .ok (.iaload, 1) := by decide +kernel
theorem dX6_readsEdge_73 : decode cX6_readsEdge 73 = .ok (.if_icmp .ge 21, 3) := by decide +kernel
theorem dX6_readsEdge_76 : decode cX6_readsEdge 76 = .ok (.aload_n 0, 1) := by decide +kernel
theorem dX6_readsEdge_77 : decode cX6_readsEdge 77 = .ok (.iload_n 1, 1) := by decide +kernel
theorem dX6_readsEdge_78 : decode cX6_readsEdge 78 = .ok (.aload_n 0, 1) := by decide +kernel
theorem dX6_readsEdge_79 : decode cX6_readsEdge 79 = .ok (.getfield 80, 3) := by decide +kernel
theorem dX6_readsEdge_82 : decode cX6_readsEdge 82 = .ok (.invokevirtual 123, 3) := by decide +kernel
theorem dX6_readsEdge_85 : decode cX6_readsEdge 85 = .ok (.ifCond .eq 9, 3) := by decide +kernel
theorem dX6_readsEdge_88 : decode cX6_readsEdge 88 = .ok (.aload_n 0, 1) := by decide +kernel
theorem dX6_readsEdge_89 : decode cX6_readsEdge 89 = .ok (.bipush (-4), 2) := by decide +kernel
theorem dX6_readsEdge_91 : decode cX6_readsEdge 91 = .ok (.invokevirtual 99, 3) := by decide +kernel
theorem dX6_readsEdge_94 : decode cX6_readsEdge 94 = .ok (.aload_n 0, 1) := by decide +kernel
theorem dX6_readsEdge_95 : decode cX6_readsEdge 95 = .ok (.iconst 0, 1) := by decide +kernel
theorem dX6_readsEdge_96 : decode cX6_readsEdge 96 = .ok (.aload_n 0, 1) := by decide +kernel
theorem dX6_readsEdge_97 : decode cX6_readsEdge 97 = .ok (.getfield 7, 3) := by decide +kernel
theorem dX6_readsEdge_100 : decode cX6_readsEdge 100 = .ok (.iconst 0, 1) := by decide +kernel
theorem dX6_readsEdge_101 : decode cX6_readsEdge 101 = .ok (.iaload, 1) := by decide +kernel
theorem dX6_readsEdge_102 : decode cX6_readsEdge 102 = .ok (.iconst 1, 1) := by decide +kernel
theorem dX6_readsEdge_103 : decode cX6_readsEdge 103 = .ok (.isub, 1) := by decide +kernel
theorem dX6_readsEdge_104 : decode cX6_readsEdge 104 = .ok (.invokevirtual 119, 3) := by decide +kernel
theorem dX6_readsEdge_107 : decode cX6_readsEdge 107 = .ok (.istore_n 2, 1) := by decide +kernel
theorem dX6_readsEdge_108 : decode cX6_readsEdge 108 = .ok (.aload_n 0, 1) := by decide +kernel
theorem dX6_readsEdge_109 : decode cX6_readsEdge 109 = .ok (.invokevirtual 116, 3) := by decide +kernel
theorem dX6_readsEdge_112 : decode cX6_readsEdge 112 = .ok (.aload_n 0, 1) := by decide +kernel
theorem dX6_readsEdge_113 : decode cX6_readsEdge 113 = .ok (.getfield 83, 3) := by decide +kernel
theorem dX6_readsEdge_116 : decode cX6_readsEdge 116 = .ok (.ifCond .eq 4, 3) := by decide +kernel
theorem dX6_readsEdge_119 : decode cX6_readsEdge 119 = .ok (.return_, 1) := by decide +kernel
theorem dX6_readsEdge_120 : decode cX6_readsEdge 120 = .ok (.aload_n 0, 1) := by decide +kernel
theorem dX6_readsEdge_121 : decode cX6_readsEdge 121 = .ok (.getfield 7, 3) := by decide +kernel
theorem dX6_readsEdge_124 : decode cX6_readsEdge 124 = .ok (.bipush 13, 2) := by decide +kernel
theorem dX6_readsEdge_126 : decode cX6_readsEdge 126 = .ok (.iload_n 1, 1) := by decide +kernel
theorem dX6_readsEdge_127 : decode cX6_readsEdge 127 = .ok (.iadd, 1) := by decide +kernel
theorem dX6_readsEdge_128 : decode cX6_readsEdge 128 = .ok (.dup2, 1) := by decide +kernel
theorem dX6_readsEdge_129 : decode cX6_readsEdge 129 = .ok (.iaload, 1) := by decide +kernel
theorem dX6_readsEdge_130 : decode cX6_readsEdge 130 = .ok (.iconst 1, 1) := by decide +kernel
theorem dX6_readsEdge_131 : decode cX6_readsEdge 131 = .ok (.iload_n 2, 1) := by decide +kernel
theorem dX6_readsEdge_132 : decode cX6_readsEdge 132 = .ok (.ishl, 1) := by decide +kernel
theorem dX6_readsEdge_133 : decode cX6_readsEdge 133 = .ok (.ior, 1) := by decide +kernel
theorem dX6_readsEdge_134 : decode cX6_readsEdge 134 = .ok (.iastore, 1) := by decide +kernel
theorem dX6_readsEdge_135 : decode cX6_readsEdge 135 = .ok (.aload_n 0, 1) := by decide +kernel
theorem dX6_readsEdge_136 : decode cX6_readsEdge 136 = .ok (.getfield 7, 3) := by decide +kernel
theorem dX6_readsEdge_139 : decode cX6_readsEdge 139 = .ok (.bipush 13, 2) := by decide +kernel
theorem dX6_readsEdge_141 : decode cX6_readsEdge 141 = .ok (.iload_n 2, 1) := by decide +kernel
theorem dX6_readsEdge_142 : decode cX6_readsEdge 142 = .ok (.iadd, 1) := by decide +kernel
theorem dX6_readsEdge_143 : decode cX6_readsEdge 143 = .ok (.dup2, 1) := by decide +kernel
theorem dX6_readsEdge_144 : decode cX6_readsEdge 144 = .ok (.iaload, 1) := by decide +kernel
theorem dX6_readsEdge_145 : decode cX6_readsEdge 145 = .ok (.iconst 1, 1) := by decide +kernel
theorem dX6_readsEdge_146 : decode cX6_readsEdge 146 = .ok (.iload_n 1, 1) := by decide +kernel
theorem dX6_readsEdge_147 : decode cX6_readsEdge 147 = .ok (.ishl, 1) := by decide +kernel
theorem dX6_readsEdge_148 : decode cX6_readsEdge 148 = .ok (.ior, 1) := by decide +kernel
theorem dX6_readsEdge_149 : decode cX6_readsEdge 149 = .ok (.iastore, 1) := by decide +kernel
theorem dX6_readsEdge_150 : decode cX6_readsEdge 150 = .ok (.return_, 1) := by decide +kernel
theorem dX6_readsLay_0 : decode cX6_readsLay 0 = .ok (.aload_n 0, 1) := by decide +kernel
theorem dX6_readsLay_1 : decode cX6_readsLay 1 = .ok (.iconst 1, 1) := by decide +kernel
theorem dX6_readsLay_2 : decode cX6_readsLay 2 = .ok (.invokevirtual 106, 3) := by decide +kernel
theorem dX6_readsLay_5 : decode cX6_readsLay 5 = .ok (.aload_n 0, 1) := by decide +kernel
theorem dX6_readsLay_6 : decode cX6_readsLay 6 = .ok (.iconst 0, 1) := by decide +kernel
theorem dX6_readsLay_7 : decode cX6_readsLay 7 = .ok (.aload_n 0, 1) := by decide +kernel
theorem dX6_readsLay_8 : decode cX6_readsLay 8 = .ok (.getfield 7, 3) := by decide +kernel
theorem dX6_readsLay_11 : decode cX6_readsLay 11 = .ok (.iconst 0, 1) := by decide +kernel
theorem dX6_readsLay_12 : decode cX6_readsLay 12 = .ok (.iaload, 1) := by decide +kernel
theorem dX6_readsLay_13 : decode cX6_readsLay 13 = .ok (.iconst 1, 1) := by decide +kernel
theorem dX6_readsLay_14 : decode cX6_readsLay 14 = .ok (.isub, 1) := by decide +kernel
theorem dX6_readsLay_15 : decode cX6_readsLay 15 = .ok (.invokevirtual 119, 3) := by decide +kernel
theorem dX6_readsLay_18 : decode cX6_readsLay 18 = .ok (.istore_n 1, 1) := by decide +kernel
theorem dX6_readsLay_19 : decode cX6_readsLay 19 = .ok (.aload_n 0, 1) := by decide +kernel
theorem dX6_readsLay_20 : decode cX6_readsLay 20 = .ok (.getfield 83, 3) := by decide +kernel
theorem dX6_readsLay_23 : decode cX6_readsLay 23 = .ok (.ifCond .ne 16, 3) := by decide +kernel
theorem dX6_readsLay_26 : decode cX6_readsLay 26 = .ok (.aload_n 0, 1) := by decide +kernel
theorem dX6_readsLay_27 : decode cX6_readsLay 27 = .ok (.getfield 73, 3) := by decide +kernel
theorem dX6_readsLay_30 : decode cX6_readsLay 30 = .ok (.ifCond .eq 9, 3) := by decide +kernel
theorem dX6_readsLay_33 : decode cX6_readsLay 33 = .ok (.aload_n 0, 1) := by decide +kernel
theorem dX6_readsLay_34 : decode cX6_readsLay 34 = .ok (.bipush (-2), 2) := by decide +kernel
theorem dX6_readsLay_36 : decode cX6_readsLay 36 = .ok (.invokevirtual 99, 3) := by decide +kernel
theorem dX6_readsLay_39 : decode cX6_readsLay 39 = .ok (.aload_n 0, 1) := by decide +kernel
theorem dX6_readsLay_40 : decode cX6_readsLay 40 = .ok (.getfield 83, 3) := by decide +kernel
theorem dX6_readsLay_43 : decode cX6_readsLay 43 = .ok (.ifCond .ne 10, 3) := by decide +kernel
theorem dX6_readsLay_46 : decode cX6_readsLay 46 = .ok (.aload_n 0, 1) := by decide +kernel
theorem dX6_readsLay_47 : decode cX6_readsLay 47 = .ok (.invokevirtual 113, 3) := by decide +kernel
theorem dX6_readsLay_50 : decode cX6_readsLay 50 = .ok (.goto 4, 3) := by decide +kernel
theorem dX6_readsLay_53 : decode cX6_readsLay 53 = .ok (.iconst 0, 1) := by decide +kernel
theorem dX6_readsLay_54 : decode cX6_readsLay 54 = .ok (.istore_n 2, 1) := by decide +kernel
theorem dX6_readsLay_55 : decode cX6_readsLay 55 = .ok (.iload_n 2, 1) := by decide +kernel
theorem dX6_readsLay_56 : decode cX6_readsLay 56 = .ok (.iconst 1, 1) := by decide +kernel
theorem dX6_readsLay_57 : decode cX6_readsLay 57 = .ok (.if_icmp .ne 7, 3) := by decide +kernel
theorem dX6_readsLay_60 : decode cX6_readsLay 60 = .ok (.iconst 0, 1) := by decide +kernel
theorem dX6_readsLay_61 : decode cX6_readsLay 61 = .ok (.goto 22, 3) := by decide +kernel
theorem dX6_readsLay_64 : decode cX6_readsLay 64 = .ok (.iload_n 2, 1) := by decide +kernel
theorem dX6_readsLay_65 : decode cX6_readsLay 65 = .ok (.iconst 2, 1) := by decide +kernel
theorem dX6_readsLay_66 : decode cX6_readsLay 66 = .ok (.if_icmp .ne 7, 3) := by decide +kernel
theorem dX6_readsLay_69 : decode cX6_readsLay 69 = .ok (.iconst 1, 1) := by decide +kernel
theorem dX6_readsLay_70 : decode cX6_readsLay 70 = .ok (.goto 13, 3) := by decide +kernel
theorem dX6_readsLay_73 : decode cX6_readsLay 73 = .ok (.iload_n 2, 1) := by decide +kernel
theorem dX6_readsLay_74 : decode cX6_readsLay 74 = .ok (.iconst 4, 1) := by decide +kernel
theorem dX6_readsLay_75 : decode cX6_readsLay 75 = .ok (.if_icmp .ne 7, 3) := by decide +kernel
theorem dX6_readsLay_78 : decode cX6_readsLay 78 = .ok (.iconst 2, 1) := by decide +kernel
theorem dX6_readsLay_79 : decode cX6_readsLay 79 = .ok (.goto 4, 3) := by decide +kernel
theorem dX6_readsLay_82 : decode cX6_readsLay 82 = .ok (.iconst (-1), 1) := by decide +kernel
theorem dX6_readsLay_83 : decode cX6_readsLay 83 = .ok (.istore_n 3, 1) := by decide +kernel
theorem dX6_readsLay_84 : decode cX6_readsLay 84 = .ok (.iload_n 3, 1) := by decide +kernel
theorem dX6_readsLay_85 : decode cX6_readsLay 85 = .ok (.iconst (-1), 1) := by decide +kernel
theorem dX6_readsLay_86 : decode cX6_readsLay 86 = .ok (.if_icmp .ne 9, 3) := by decide +kernel
theorem dX6_readsLay_89 : decode cX6_readsLay 89 = .ok (.aload_n 0, 1) := by decide +kernel
theorem dX6_readsLay_90 : decode cX6_readsLay 90 = .ok (.bipush (-3), 2) := by decide +kernel
theorem dX6_readsLay_92 : decode cX6_readsLay 92 = .ok (.invokevirtual 99, 3) := by decide +kernel
theorem dX6_readsLay_95 : decode cX6_readsLay 95 = .ok (.aload_n 0, 1) := by decide +kernel
theorem dX6_readsLay_96 : decode cX6_readsLay 96 = .ok (.getfield 83, 3) := by decide +kernel
theorem dX6_readsLay_99 : decode cX6_readsLay 99 = .ok (.ifCond .ne 18, 3) := by decide +kernel
theorem dX6_readsLay_102 : decode cX6_readsLay 102 = .ok (.aload_n 0, 1) := by decide +kernel
theorem dX6_readsLay_103 : decode cX6_readsLay 103 = .ok (.iload_n 1, 1) := by decide +kernel
theorem dX6_readsLay_104 : decode cX6_readsLay 104 = .ok (.iload_n 3, 1) := by decide +kernel
theorem dX6_readsLay_105 : decode cX6_readsLay 105 = .ok (.invokevirtual 127, 3) := by decide +kernel
theorem dX6_readsLay_108 : decode cX6_readsLay 108 = .ok (.ifCond .le 9, 3) := by decide +kernel
theorem dX6_readsLay_111 : decode cX6_readsLay 111 = .ok (.aload_n 0, 1) := by decide +kernel
theorem dX6_readsLay_112 : decode cX6_readsLay 112 = .ok (.bipush (-5), 2) := by decide +kernel
theorem dX6_readsLay_114 : decode cX6_readsLay 114 = .ok (.invokevirtual 99, 3) := by decide +kernel
theorem dX6_readsLay_117 : decode cX6_readsLay 117 = .ok (.aload_n 0, 1) := by decide +kernel
theorem dX6_readsLay_118 : decode cX6_readsLay 118 = .ok (.getfield 83, 3) := by decide +kernel
theorem dX6_readsLay_121 : decode cX6_readsLay 121 = .ok (.ifCond .ne 9, 3) := by decide +kernel
theorem dX6_readsLay_124 : decode cX6_readsLay 124 = .ok (.aload_n 0, 1) := by decide +kernel
theorem dX6_readsLay_125 : decode cX6_readsLay 125 = .ok (.iload_n 1, 1) := by decide +kernel
theorem dX6_readsLay_126 : decode cX6_readsLay 126 = .ok (.iload_n 3, 1) := by decide +kernel
theorem dX6_readsLay_127 : decode cX6_readsLay 127 = .ok (.invokevirtual 130, 3) := by decide +kernel
theorem dX6_readsLay_130 : decode cX6_readsLay 130 = .ok (.aload_n 0, 1) := by decide +kernel
theorem dX6_readsLay_131 : decode cX6_readsLay 131 = .ok (.iconst 1, 1) := by decide +kernel
theorem dX6_readsLay_132 : decode cX6_readsLay 132 = .ok (.invokevirtual 106, 3) := by decide +kernel
theorem dX6_readsLay_135 : decode cX6_readsLay 135 = .ok (.aload_n 0, 1) := by decide +kernel
theorem dX6_readsLay_136 : decode cX6_readsLay 136 = .ok (.invokevirtual 116, 3) := by decide +kernel
theorem dX6_readsLay_139 : decode cX6_readsLay 139 = .ok (.return_, 1) := by decide +kernel
theorem dX6_readsPass_0 : decode cX6_readsPass 0 = .ok (.aload_n 0, 1) := by decide +kernel
theorem dX6_readsPass_1 : decode cX6_readsPass 1 = .ok (.getfield 7, 3) := by decide +kernel
theorem dX6_readsPass_4 : decode cX6_readsPass 4 = .ok (.iconst 2, 1) := by decide +kernel
theorem dX6_readsPass_5 : decode cX6_readsPass 5 = .ok (.iaload, 1) := by decide +kernel
theorem dX6_readsPass_6 : decode cX6_readsPass 6 = .ok (.ifCond .ne 9, 3) := by decide +kernel
theorem dX6_readsPass_9 : decode cX6_readsPass 9 = .ok (.aload_n 0, 1) := by decide +kernel
theorem dX6_readsPass_10 : decode cX6_readsPass 10 = .ok (.bipush (-5), 2) := by decide +kernel
theorem dX6_readsPass_12 : decode cX6_readsPass 12 = .ok (.invokevirtual 99, 3) := by decide +kernel
theorem dX6_readsPass_15 : decode cX6_readsPass 15 = .ok (.aload_n 0, 1) := by decide +kernel
theorem dX6_readsPass_16 : decode cX6_readsPass 16 = .ok (.getfield 83, 3) := by decide +kernel
theorem dX6_readsPass_19 : decode cX6_readsPass 19 = .ok (.ifCond .ne 7, 3) := by decide +kernel
theorem dX6_readsPass_22 : decode cX6_readsPass 22 = .ok (.aload_n 0, 1) := by decide +kernel
theorem dX6_readsPass_23 : decode cX6_readsPass 23 = .ok (.invokevirtual 134, 3) := by decide +kernel
theorem dX6_readsPass_26 : decode cX6_readsPass 26 = .ok (.aload_n 0, 1) := by decide +kernel
theorem dX6_readsPass_27 : decode cX6_readsPass 27 = .ok (.iconst 1, 1) := by decide +kernel
theorem dX6_readsPass_28 : decode cX6_readsPass 28 = .ok (.invokevirtual 106, 3) := by decide +kernel
theorem dX6_readsPass_31 : decode cX6_readsPass 31 = .ok (.aload_n 0, 1) := by decide +kernel
theorem dX6_readsPass_32 : decode cX6_readsPass 32 = .ok (.invokevirtual 116, 3) := by decide +kernel
theorem dX6_readsPass_35 : decode cX6_readsPass 35 = .ok (.return_, 1) := by decide +kernel
theorem dX6_reads_0 : decode cX6_reads 0 = .ok (.aload_n 0, 1) := by decide +kernel
theorem dX6_reads_1 : decode cX6_reads 1 = .ok (.aload_n 0, 1) := by decide +kernel
theorem dX6_reads_2 : decode cX6_reads 2 = .ok (.ldc 137, 2) := by decide +kernel
theorem dX6_reads_4 : decode cX6_reads 4 = .ok (.invokevirtual 139, 3) := by decide +kernel
theorem dX6_reads_7 : decode cX6_reads 7 = .ok (.invokevirtual 106, 3) := by decide +kernel
theorem dX6_reads_10 : decode cX6_reads 10 = .ok (.aload_n 0, 1) := by decide +kernel
theorem dX6_reads_11 : decode cX6_reads 11 = .ok (.getfield 7, 3) := by decide +kernel
theorem dX6_reads_14 : decode cX6_reads 14 = .ok (.iconst 1, 1) := by decide +kernel
theorem dX6_reads_15 : decode cX6_reads 15 = .ok (.aload_n 0, 1) := by decide +kernel
theorem dX6_reads_16 : decode cX6_reads 16 = .ok (.iconst 1, 1) := by decide +kernel
theorem dX6_reads_17 : decode cX6_reads 17 = .ok (.iconst 3, 1) := by decide +kernel
theorem dX6_reads_18 : decode cX6_reads 18 = .ok (.invokevirtual 119, 3) := by decide +kernel
theorem dX6_reads_21 : decode cX6_reads 21 = .ok (.iastore, 1) := by decide +kernel
theorem dX6_reads_22 : decode cX6_reads 22 = .ok (.aload_n 0, 1) := by decide +kernel
theorem dX6_reads_23 : decode cX6_reads 23 = .ok (.ldc 143, 2) := by decide +kernel
theorem dX6_reads_25 : decode cX6_reads 25 = .ok (.invokevirtual 139, 3) := by decide +kernel
theorem dX6_reads_28 : decode cX6_reads 28 = .ok (.ifCond .eq 20, 3) := by decide +kernel
theorem dX6_reads_31 : decode cX6_reads 31 = .ok (.aload_n 0, 1) := by decide +kernel
theorem dX6_reads_32 : decode cX6_reads 32 = .ok (.invokevirtual 103, 3) := by decide +kernel
theorem dX6_reads_35 : decode cX6_reads 35 = .ok (.aload_n 0, 1) := by decide +kernel
theorem dX6_reads_36 : decode cX6_reads 36 = .ok (.getfield 7, 3) := by decide +kernel
theorem dX6_reads_39 : decode cX6_reads 39 = .ok (.iconst 2, 1) := by decide +kernel
theorem dX6_reads_40 : decode cX6_reads 40 = .ok (.aload_n 0, 1) := by decide +kernel
theorem dX6_reads_41 : decode cX6_reads 41 = .ok (.iconst 0, 1) := by decide +kernel
theorem dX6_reads_42 : decode cX6_reads 42 = .ok (.bipush 9, 2) := by decide +kernel
theorem dX6_reads_44 : decode cX6_reads 44 = .ok (.invokevirtual 119, 3) := by decide +kernel
theorem dX6_reads_47 : decode cX6_reads 47 = .ok (.iastore, 1) := by decide +kernel
theorem dX6_reads_48 : decode cX6_reads 48 = .ok (.aload_n 0, 1) := by decide +kernel
theorem dX6_reads_49 : decode cX6_reads 49 = .ok (.invokevirtual 116, 3) := by decide +kernel
theorem dX6_reads_52 : decode cX6_reads 52 = .ok (.aload_n 0, 1) := by decide +kernel
theorem dX6_reads_53 : decode cX6_reads 53 = .ok (.ldc 144, 2) := by decide +kernel
theorem dX6_reads_55 : decode cX6_reads 55 = .ok (.invokevirtual 139, 3) := by decide +kernel
theorem dX6_reads_58 : decode cX6_reads 58 = .ok (.ifCond .ne 9, 3) := by decide +kernel
theorem dX6_reads_61 : decode cX6_reads 61 = .ok (.aload_n 0, 1) := by decide +kernel
theorem dX6_reads_62 : decode cX6_reads 62 = .ok (.bipush (-2), 2) := by decide +kernel
theorem dX6_reads_64 : decode cX6_reads 64 = .ok (.invokevirtual 99, 3) := by decide +kernel
theorem dX6_reads_67 : decode cX6_reads 67 = .ok (.aload_n 0, 1) := by decide +kernel
theorem dX6_reads_68 : decode cX6_reads 68 = .ok (.ldc 144, 2) := by decide +kernel
theorem dX6_reads_70 : decode cX6_reads 70 = .ok (.invokevirtual 139, 3) := by decide +kernel
theorem dX6_reads_73 : decode cX6_reads 73 = .ok (.ifCond .eq 10, 3) := by decide +kernel
theorem dX6_reads_76 : decode cX6_reads 76 = .ok (.aload_n 0, 1) := by decide +kernel
theorem dX6_reads_77 : decode cX6_reads 77 = .ok (.invokevirtual 146, 3) := by decide +kernel
theorem dX6_reads_80 : decode cX6_reads 80 = .ok (.goto (-13), 3) := by decide +kernel
theorem dX6_reads_83 : decode cX6_reads 83 = .ok (.aload_n 0, 1) := by decide +kernel
theorem dX6_reads_84 : decode cX6_reads 84 = .ok (.ldc 149, 2) := by decide +kernel
theorem dX6_reads_86 : decode cX6_reads 86 = .ok (.invokevirtual 139, 3) := by decide +kernel
theorem dX6_reads_89 : decode cX6_reads 89 = .ok (.ifCond .eq 10, 3) := by decide +kernel
theorem dX6_reads_92 : decode cX6_reads 92 = .ok (.aload_n 0, 1) := by decide +kernel
theorem dX6_reads_93 : decode cX6_reads 93 = .ok (.invokevirtual 151, 3) := by decide +kernel
theorem dX6_reads_96 : decode cX6_reads 96 = .ok (.goto (-13), 3) := by decide +kernel
theorem dX6_reads_99 : decode cX6_reads 99 = .ok (.aload_n 0, 1) := by decide +kernel
theorem dX6_reads_100 : decode cX6_reads 100 = .ok (.ldc 154, 2) := by decide +kernel
theorem dX6_reads_102 : decode cX6_reads 102 = .ok (.invokevirtual 139, 3) := by decide +kernel
theorem dX6_reads_105 : decode cX6_reads 105 = .ok (.ifCond .ne 12, 3) := by decide +kernel
theorem dX6_reads_108 : decode cX6_reads 108 = .ok (.aload_n 0, 1) := by decide +kernel
theorem dX6_reads_109 : decode cX6_reads 109 = .ok (.ldc 156, 2) := by decide +kernel
theorem dX6_reads_111 : decode cX6_reads 111 = .ok (.invokevirtual 139, 3) := by decide +kernel
theorem dX6_reads_114 : decode cX6_reads 114 = .ok (.ifCond .eq 26, 3) := by decide +kernel
theorem dX6_reads_117 : decode cX6_reads 117 = .ok (.aload_n 0, 1) := by decide +kernel
theorem dX6_reads_118 : decode cX6_reads 118 = .ok (.ldc 154, 2) := by decide +kernel
theorem dX6_reads_120 : decode cX6_reads 120 = .ok (.invokevirtual 139, 3) := by decide +kernel
theorem dX6_reads_123 : decode cX6_reads 123 = .ok (.ifCond .eq 10, 3) := by decide +kernel
theorem dX6_reads_126 : decode cX6_reads 126 = .ok (.aload_n 0, 1) := by decide +kernel
theorem dX6_reads_127 : decode cX6_reads 127 = .ok (.invokevirtual 158, 3) := by decide +kernel
theorem dX6_reads_130 : decode cX6_reads 130 = .ok (.goto (-31), 3) := by decide +kernel
theorem dX6_reads_133 : decode cX6_reads 133 = .ok (.aload_n 0, 1) := by decide +kernel
theorem dX6_reads_134 : decode cX6_reads 134 = .ok (.invokevirtual 161, 3) := by decide +kernel
theorem dX6_reads_137 : decode cX6_reads 137 = .ok (.goto (-38), 3) := by decide +kernel
theorem dX6_reads_140 : decode cX6_reads 140 = .ok (.aload_n 0, 1) := by decide +kernel
theorem dX6_reads_141 : decode cX6_reads 141 = .ok (.getfield 83, 3) := by decide +kernel
theorem dX6_reads_144 : decode cX6_reads 144 = .ok (.ifCond .ne 17, 3) := by decide +kernel
theorem dX6_reads_147 : decode cX6_reads 147 = .ok (.aload_n 0, 1) := by decide +kernel
theorem dX6_reads_148 : decode cX6_reads 148 = .ok (.getfield 73, 3) := by decide +kernel
theorem dX6_reads_151 : decode cX6_reads 151 = .ok (.iconst 3, 1) := by decide +kernel
theorem dX6_reads_152 : decode cX6_reads 152 = .ok (.if_icmp .eq 9, 3) := by decide +kernel
theorem dX6_reads_155 : decode cX6_reads 155 = .ok (.aload_n 0, 1) := by decide +kernel
theorem dX6_reads_156 : decode cX6_reads 156 = .ok (.bipush (-2), 2) := by decide +kernel
theorem dX6_reads_158 : decode cX6_reads 158 = .ok (.invokevirtual 99, 3) := by decide +kernel
theorem dX6_reads_161 : decode cX6_reads 161 = .ok (.return_, 1) := by decide +kernel
theorem dX6_load_0 : decode cX6_load 0 = .ok (.aload_n 0, 1) := by decide +kernel
theorem dX6_load_1 : decode cX6_load 1 = .ok (.iload_n 1, 1) := by decide +kernel
theorem dX6_load_2 : decode cX6_load 2 = .ok (.iconst 0, 1) := by decide +kernel
theorem dX6_load_3 : decode cX6_load 3 = .ok (.aload_n 0, 1) := by decide +kernel
theorem dX6_load_4 : decode cX6_load 4 = .ok (.getfield 57, 3) := by decide +kernel
theorem dX6_load_7 : decode cX6_load 7 = .ok (.invokestatic 76, 3) := by decide +kernel
theorem dX6_load_10 : decode cX6_load 10 = .ok (.ifCond .eq 7, 3) := by decide +kernel
theorem dX6_load_13 : decode cX6_load 13 = .ok (.iconst 0, 1) := by decide +kernel
theorem dX6_load_14 : decode cX6_load 14 = .ok (.goto 4, 3) := by decide +kernel
theorem dX6_load_17 : decode cX6_load 17 = .ok (.iconst 1, 1) := by decide +kernel
theorem dX6_load_18 : decode cX6_load 18 = .ok (.putfield 47, 3) := by decide +kernel
theorem dX6_load_21 : decode cX6_load 21 = .ok (.aload_n 0, 1) := by decide +kernel
theorem dX6_load_22 : decode cX6_load 22 = .ok (.getfield 47, 3) := by decide +kernel
theorem dX6_load_25 : decode cX6_load 25 = .ok (.ifCond .le 5, 3) := by decide +kernel
theorem dX6_load_28 : decode cX6_load 28 = .ok (.iconst 0, 1) := by decide +kernel
theorem dX6_load_29 : decode cX6_load 29 = .ok (.ireturn, 1) := by decide +kernel
theorem dX6_load_30 : decode cX6_load 30 = .ok (.aload_n 0, 1) := by decide +kernel
theorem dX6_load_31 : decode cX6_load 31 = .ok (.iload_n 1, 1) := by decide +kernel
theorem dX6_load_32 : decode cX6_load 32 = .ok (.putfield 60, 3) := by decide +kernel
theorem dX6_load_35 : decode cX6_load 35 = .ok (.aload_n 0, 1) := by decide +kernel
theorem dX6_load_36 : decode cX6_load 36 = .ok (.iconst 0, 1) := by decide +kernel
theorem dX6_load_37 : decode cX6_load 37 = .ok (.putfield 57, 3) := by decide +kernel
theorem dX6_load_40 : decode cX6_load 40 = .ok (.aload_n 0, 1) := by decide +kernel
theorem dX6_load_41 : decode cX6_load 41 = .ok (.iconst 0, 1) := by decide +kernel
theorem dX6_load_42 : decode cX6_load 42 = .ok (.putfield 63, 3) := by decide +kernel
theorem dX6_load_45 : decode cX6_load 45 = .ok (.aload_n 0, 1) := by decide +kernel
theorem dX6_load_46 : decode cX6_load 46 = .ok (.iconst 0, 1) := by decide +kernel
theorem dX6_load_47 : decode cX6_load 47 = .ok (.putfield 83, 3) := by decide +kernel
theorem dX6_load_50 : decode cX6_load 50 = .ok (.aload_n 0, 1) := by decide +kernel
theorem dX6_load_51 : decode cX6_load 51 = .ok (.getfield 13, 3) := by decide +kernel
theorem dX6_load_54 : decode cX6_load 54 = .ok (.iconst 0, 1) := by decide +kernel
theorem dX6_load_55 : decode cX6_load 55 = .ok (.aload_n 0, 1) := by decide +kernel
theorem dX6_load_56 : decode cX6_load 56 = .ok (.getfield 7, 3) := by decide +kernel
theorem dX6_load_59 : decode cX6_load 59 = .ok (.iconst 0, 1) := by decide +kernel
theorem dX6_load_60 : decode cX6_load 60 = .ok (.invokestatic 53, 3) := by decide +kernel
theorem dX6_load_63 : decode cX6_load 63 = .ok (.iconst 0, 1) := by decide +kernel
theorem dX6_load_64 : decode cX6_load 64 = .ok (.istore_n 2, 1) := by decide +kernel
theorem dX6_load_65 : decode cX6_load 65 = .ok (.iload_n 2, 1) := by decide +kernel
theorem dX6_load_66 : decode cX6_load 66 = .ok (.sipush 4136, 3) := by decide +kernel
theorem dX6_load_69 : decode cX6_load 69 = .ok (.if_icmp .ge 16, 3) := by decide +kernel
theorem dX6_load_72 : decode cX6_load 72 = .ok (.aload_n 0, 1) := by decide +kernel
theorem dX6_load_73 : decode cX6_load 73 = .ok (.getfield 7, 3) := by decide +kernel
theorem dX6_load_76 : decode cX6_load 76 = .ok (.iload_n 2, 1) := by decide +kernel
theorem dX6_load_77 : decode cX6_load 77 = .ok (.iconst 0, 1) := by decide +kernel
theorem dX6_load_78 : decode cX6_load 78 = .ok (.iastore, 1) := by decide +kernel
theorem dX6_load_79 : decode cX6_load 79 = .ok (.iinc 2 1, 3) := by decide +kernel
theorem dX6_load_82 : decode cX6_load 82 = .ok (.goto (-17), 3) := by decide +kernel
theorem dX6_load_85 : decode cX6_load 85 = .ok (.aload_n 0, 1) := by decide +kernel
theorem dX6_load_86 : decode cX6_load 86 = .ok (.invokevirtual 103, 3) := by decide +kernel
theorem dX6_load_89 : decode cX6_load 89 = .ok (.aload_n 0, 1) := by decide +kernel
theorem dX6_load_90 : decode cX6_load 90 = .ok (.invokevirtual 164, 3) := by decide +kernel
theorem dX6_load_93 : decode cX6_load 93 = .ok (.aload_n 0, 1) := by decide +kernel
theorem dX6_load_94 : decode cX6_load 94 = .ok (.aload_n 0, 1) := by decide +kernel
theorem dX6_load_95 : decode cX6_load 95 = .ok (.getfield 83, 3) := by decide +kernel
theorem dX6_load_98 : decode cX6_load 98 = .ok (.ifCond .ne 7, 3) := by decide +kernel
theorem dX6_load_101 : decode cX6_load 101 = .ok (.iconst (-1), 1) := by decide +kernel
theorem dX6_load_102 : decode cX6_load 102 = .ok (.goto 7, 3) := by decide +kernel
theorem dX6_load_105 : decode cX6_load 105 = .ok (.aload_n 0, 1) := by decide +kernel
theorem dX6_load_106 : decode cX6_load 106 = .ok (.getfield 96, 3) := by decide +kernel
theorem dX6_load_109 : decode cX6_load 109 = .ok (.putfield 33, 3) := by decide +kernel
theorem dX6_load_112 : decode cX6_load 112 = .ok (.aload_n 0, 1) := by decide +kernel
theorem dX6_load_113 : decode cX6_load 113 = .ok (.getfield 16, 3) := by decide +kernel
theorem dX6_load_116 : decode cX6_load 116 = .ok (.iconst 0, 1) := by decide +kernel
theorem dX6_load_117 : decode cX6_load 117 = .ok (.aload_n 0, 1) := by decide +kernel
theorem dX6_load_118 : decode cX6_load 118 = .ok (.getfield 7, 3) := by decide +kernel
theorem dX6_load_121 : decode cX6_load 121 = .ok (.iconst 0, 1) := by decide +kernel
theorem dX6_load_122 : decode cX6_load 122 = .ok (.invokestatic 53, 3) := by decide +kernel
theorem dX6_load_125 : decode cX6_load 125 = .ok (.aload_n 0, 1) := by decide +kernel
theorem dX6_load_126 : decode cX6_load 126 = .ok (.getfield 7, 3) := by decide +kernel
theorem dX6_load_129 : decode cX6_load 129 = .ok (.iconst 0, 1) := by decide +kernel
theorem dX6_load_130 : decode cX6_load 130 = .ok (.aload_n 0, 1) := by decide +kernel
theorem dX6_load_131 : decode cX6_load 131 = .ok (.getfield 13, 3) := by decide +kernel
theorem dX6_load_134 : decode cX6_load 134 = .ok (.iconst 0, 1) := by decide +kernel
theorem dX6_load_135 : decode cX6_load 135 = .ok (.invokestatic 53, 3) := by decide +kernel
theorem dX6_load_138 : decode cX6_load 138 = .ok (.aload_n 0, 1) := by decide +kernel
theorem dX6_load_139 : decode cX6_load 139 = .ok (.getfield 83, 3) := by decide +kernel
theorem dX6_load_142 : decode cX6_load 142 = .ok (.ifCond .eq 8, 3) := by decide +kernel
theorem dX6_load_145 : decode cX6_load 145 = .ok (.aload_n 0, 1) := by decide +kernel
theorem dX6_load_146 : decode cX6_load 146 = .ok (.getfield 83, 3) := by decide +kernel
theorem dX6_load_149 : decode cX6_load 149 = .ok (.ireturn, 1) := by decide +kernel
theorem dX6_load_150 : decode cX6_load 150 = .ok (.aload_n 0, 1) := by decide +kernel
theorem dX6_load_151 : decode cX6_load 151 = .ok (.invokevirtual 167, 3) := by decide +kernel
theorem dX6_load_154 : decode cX6_load 154 = .ok (.aload_n 0, 1) := by decide +kernel
theorem dX6_load_155 : decode cX6_load 155 = .ok (.getfield 7, 3) := by decide +kernel
theorem dX6_load_158 : decode cX6_load 158 = .ok (.iconst 0, 1) := by decide +kernel
theorem dX6_load_159 : decode cX6_load 159 = .ok (.aload_n 0, 1) := by decide +kernel
theorem dX6_load_160 : decode cX6_load 160 = .ok (.getfield 16, 3) := by decide +kernel
theorem dX6_load_163 : decode cX6_load 163 = .ok (.iconst 0, 1) := by decide +kernel
theorem dX6_load_164 : decode cX6_load 164 = .ok (.invokestatic 53, 3) := by decide +kernel
theorem dX6_load_167 : decode cX6_load 167 = .ok (.aload_n 0, 1) := by decide +kernel
theorem dX6_load_168 : decode cX6_load 168 = .ok (.getfield 7, 3) := by decide +kernel
theorem dX6_load_171 : decode cX6_load 171 = .ok (.iconst 0, 1) := by decide +kernel
theorem dX6_load_172 : decode cX6_load 172 = .ok (.iaload, 1) := by decide +kernel
theorem dX6_load_173 : decode cX6_load 173 = .ok (.ireturn, 1) := by decide +kernel
theorem dX6_errorPosition_0 : decode cX6_errorPosition 0 = .ok (.aload_n 0, 1) := by decide +kernel
theorem dX6_errorPosition_1 : decode cX6_errorPosition 1 = .ok (.iconst 0, 1) := by decide +kernel
theorem dX6_errorPosition_2 : decode cX6_errorPosition 2 = .ok (.putfield 47, 3) := by decide +kernel
theorem dX6_errorPosition_5 : decode cX6_errorPosition 5 = .ok (.aload_n 0, 1) := by decide +kernel
theorem dX6_errorPosition_6 : decode cX6_errorPosition 6 = .ok (.getfield 33, 3) := by decide +kernel
theorem dX6_errorPosition_9 : decode cX6_errorPosition 9 = .ok (.ireturn, 1) := by decide +kernel
theorem dX6_areNext_0 : decode cX6_areNext 0 = .ok (.aload_n 0, 1) := by decide +kernel
theorem dX6_areNext_1 : decode cX6_areNext 1 = .ok (.getfield 7, 3) := by decide +kernel
theorem dX6_areNext_4 : decode cX6_areNext 4 = .ok (.bipush 13, 2) := by decide +kernel
theorem dX6_areNext_6 : decode cX6_areNext 6 = .ok (.iload_n 1, 1) := by decide +kernel
theorem dX6_areNext_7 : decode cX6_areNext 7 = .ok (.iadd, 1) := by decide +kernel
theorem dX6_areNext_8 : decode cX6_areNext 8 = .ok (.iaload, 1) := by decide +kernel
theorem dX6_areNext_9 : decode cX6_areNext 9 = .ok (.iload_n 2, 1) := by decide +kernel
theorem dX6_areNext_10 : decode cX6_areNext 10 = .ok (.ishr, 1) := by decide +kernel
theorem dX6_areNext_11 : decode cX6_areNext 11 = .ok (.iconst 1, 1) := by decide +kernel
theorem dX6_areNext_12 : decode cX6_areNext 12 = .ok (.iand, 1) := by decide +kernel
theorem dX6_areNext_13 : decode cX6_areNext 13 = .ok (.iconst 1, 1) := by decide +kernel
theorem dX6_areNext_14 : decode cX6_areNext 14 = .ok (.if_icmp .ne 7, 3) := by decide +kernel
theorem dX6_areNext_17 : decode cX6_areNext 17 = .ok (.iconst 1, 1) := by decide +kernel
theorem dX6_areNext_18 : decode cX6_areNext 18 = .ok (.goto 4, 3) := by decide +kernel
theorem dX6_areNext_21 : decode cX6_areNext 21 = .ok (.iconst 0, 1) := by decide +kernel
theorem dX6_areNext_22 : decode cX6_areNext 22 = .ok (.ireturn, 1) := by decide +kernel
theorem dX6_colourOf_0 : decode cX6_colourOf 0 = .ok (.aload_n 0, 1) := by decide +kernel
theorem dX6_colourOf_1 : decode cX6_colourOf 1 = .ok (.getfield 7, 3) := by decide +kernel
theorem dX6_colourOf_4 : decode cX6_colourOf 4 = .ok (.bipush 22, 2) := by decide +kernel
theorem dX6_colourOf_6 : decode cX6_colourOf 6 = .ok (.iload_n 1, 1) := by decide +kernel
theorem dX6_colourOf_7 : decode cX6_colourOf 7 = .ok (.iadd, 1) := by decide +kernel
theorem dX6_colourOf_8 : decode cX6_colourOf 8 = .ok (.iaload, 1) := by decide +kernel
theorem dX6_colourOf_9 : decode cX6_colourOf 9 = .ok (.iconst 1, 1) := by decide +kernel
theorem dX6_colourOf_10 : decode cX6_colourOf 10 = .ok (.isub, 1) := by decide +kernel
theorem dX6_colourOf_11 : decode cX6_colourOf 11 = .ok (.ireturn, 1) := by decide +kernel
theorem dX6_isFree_0 : decode cX6_isFree 0 = .ok (.aload_n 0, 1) := by decide +kernel
theorem dX6_isFree_1 : decode cX6_isFree 1 = .ok (.getfield 7, 3) := by decide +kernel
theorem dX6_isFree_4 : decode cX6_isFree 4 = .ok (.bipush 22, 2) := by decide +kernel
theorem dX6_isFree_6 : decode cX6_isFree 6 = .ok (.iload_n 1, 1) := by decide +kernel
theorem dX6_isFree_7 : decode cX6_isFree 7 = .ok (.iadd, 1) := by decide +kernel
theorem dX6_isFree_8 : decode cX6_isFree 8 = .ok (.iaload, 1) := by decide +kernel
theorem dX6_isFree_9 : decode cX6_isFree 9 = .ok (.ifCond .ne 7, 3) := by decide +kernel
theorem dX6_isFree_12 : decode cX6_isFree 12 = .ok (.iconst 1, 1) := by decide +kernel
theorem dX6_isFree_13 : decode cX6_isFree 13 = .ok (.goto 4, 3) := by decide +kernel
theorem dX6_isFree_16 : decode cX6_isFree 16 = .ok (.iconst 0, 1) := by decide +kernel
theorem dX6_isFree_17 : decode cX6_isFree 17 = .ok (.ireturn, 1) := by decide +kernel
theorem dX6_freeSet_0 : decode cX6_freeSet 0 = .ok (.iconst 0, 1) := by decide +kernel
theorem dX6_freeSet_1 : decode cX6_freeSet 1 = .ok (.istore_n 1, 1) := by decide +kernel
theorem dX6_freeSet_2 : decode cX6_freeSet 2 = .ok (.iconst 0, 1) := by decide +kernel
theorem dX6_freeSet_3 : decode cX6_freeSet 3 = .ok (.istore_n 2, 1) := by decide +kernel
theorem dX6_freeSet_4 : decode cX6_freeSet 4 = .ok (.iload_n 2, 1) := by decide +kernel
theorem dX6_freeSet_5 : decode cX6_freeSet 5 = .ok (.aload_n 0, 1) := by decide +kernel
theorem dX6_freeSet_6 : decode cX6_freeSet 6 = .ok (.getfield 7, 3) := by decide +kernel
theorem dX6_freeSet_9 : decode cX6_freeSet 9 = .ok (.iconst 0, 1) := by decide +kernel
theorem dX6_freeSet_10 : decode cX6_freeSet 10 = .ok (.iaload, 1) := by decide +kernel
theorem dX6_freeSet_11 : decode cX6_freeSet 11 = .ok (.if_icmp .ge 27, 3) := by decide +kernel
theorem dX6_freeSet_14 : decode cX6_freeSet 14 = .ok (.iload_n 1, 1) := by decide +kernel
theorem dX6_freeSet_15 : decode cX6_freeSet 15 = .ok (.aload_n 0, 1) := by decide +kernel
theorem dX6_freeSet_16 : decode cX6_freeSet 16 = .ok (.iload_n 2, 1) := by decide +kernel
theorem dX6_freeSet_17 : decode cX6_freeSet 17 = .ok (.invokevirtual 170, 3) := by decide +kernel
theorem dX6_freeSet_20 : decode cX6_freeSet 20 = .ok (.ifCond .eq 9, 3) := by decide +kernel
theorem dX6_freeSet_23 : decode cX6_freeSet 23 = .ok (.iconst 1, 1) := by decide +kernel
theorem dX6_freeSet_24 : decode cX6_freeSet 24 = .ok (.iload_n 2, 1) := by decide +kernel
theorem dX6_freeSet_25 : decode cX6_freeSet 25 = .ok (.ishl, 1) := by decide +kernel
theorem dX6_freeSet_26 : decode cX6_freeSet 26 = .ok (.goto 4, 3) := by decide +kernel
theorem dX6_freeSet_29 : decode cX6_freeSet 29 = .ok (.iconst 0, 1) := by decide +kernel
theorem dX6_freeSet_30 : decode cX6_freeSet 30 = .ok (.ior, 1) := by decide +kernel
theorem dX6_freeSet_31 : decode cX6_freeSet 31 = .ok (.istore_n 1, 1) := by decide +kernel
theorem dX6_freeSet_32 : decode cX6_freeSet 32 = .ok (.iinc 2 1, 3) := by decide +kernel
theorem dX6_freeSet_35 : decode cX6_freeSet 35 = .ok (.goto (-31), 3) := by decide +kernel
theorem dX6_freeSet_38 : decode cX6_freeSet 38 = .ok (.iload_n 1, 1) := by decide +kernel
theorem dX6_freeSet_39 : decode cX6_freeSet 39 = .ok (.ireturn, 1) := by decide +kernel
theorem dX6_bits_0 : decode cX6_bits 0 = .ok (.iconst 0, 1) := by decide +kernel
theorem dX6_bits_1 : decode cX6_bits 1 = .ok (.istore_n 1, 1) := by decide +kernel
theorem dX6_bits_2 : decode cX6_bits 2 = .ok (.iload_n 0, 1) := by decide +kernel
theorem dX6_bits_3 : decode cX6_bits 3 = .ok (.istore_n 2, 1) := by decide +kernel
theorem dX6_bits_4 : decode cX6_bits 4 = .ok (.iload_n 2, 1) := by decide +kernel
theorem dX6_bits_5 : decode cX6_bits 5 = .ok (.ifCond .le 15, 3) := by decide +kernel
theorem dX6_bits_8 : decode cX6_bits 8 = .ok (.iinc 1 1, 3) := by decide +kernel
theorem dX6_bits_11 : decode cX6_bits 11 = .ok (.iload_n 2, 1) := by decide +kernel
theorem dX6_bits_12 : decode cX6_bits 12 = .ok (.iload_n 2, 1) := by decide +kernel
theorem dX6_bits_13 : decode cX6_bits 13 = .ok (.iconst 1, 1) := by decide +kernel
theorem dX6_bits_14 : decode cX6_bits 14 = .ok (.isub, 1) := by decide +kernel
theorem dX6_bits_15 : decode cX6_bits 15 = .ok (.iand, 1) := by decide +kernel
theorem dX6_bits_16 : decode cX6_bits 16 = .ok (.istore_n 2, 1) := by decide +kernel
theorem dX6_bits_17 : decode cX6_bits 17 = .ok (.goto (-13), 3) := by decide +kernel
theorem dX6_bits_20 : decode cX6_bits 20 = .ok (.iload_n 1, 1) := by decide +kernel
theorem dX6_bits_21 : decode cX6_bits 21 = .ok (.ireturn, 1) := by decide +kernel
theorem dX6_lowest_0 : decode cX6_lowest 0 = .ok (.iconst 0, 1) := by decide +kernel
theorem dX6_lowest_1 : decode cX6_lowest 1 = .ok (.istore_n 1, 1) := by decide +kernel
theorem dX6_lowest_2 : decode cX6_lowest 2 = .ok (.iload_n 0, 1) := by decide +kernel
theorem dX6_lowest_3 : decode cX6_lowest 3 = .ok (.iload_n 1, 1) := by decide +kernel
theorem dX6_lowest_4 : decode cX6_lowest 4 = .ok (.ishr, 1) := by decide +kernel
theorem dX6_lowest_5 : decode cX6_lowest 5 = .ok (.iconst 1, 1) := by decide +kernel
theorem dX6_lowest_6 : decode cX6_lowest 6 = .ok (.iand, 1) := by decide +kernel
theorem dX6_lowest_7 : decode cX6_lowest 7 = .ok (.ifCond .ne 9, 3) := by decide +kernel
theorem dX6_lowest_10 : decode cX6_lowest 10 = .ok (.iinc 1 1, 3) := by decide +kernel
theorem dX6_lowest_13 : decode cX6_lowest 13 = .ok (.goto (-11), 3) := by decide +kernel
theorem dX6_lowest_16 : decode cX6_lowest 16 = .ok (.iload_n 1, 1) := by decide +kernel
theorem dX6_lowest_17 : decode cX6_lowest 17 = .ok (.ireturn, 1) := by decide +kernel
theorem dX6_reached_0 : decode cX6_reached 0 = .ok (.iconst 1, 1) := by decide +kernel
theorem dX6_reached_1 : decode cX6_reached 1 = .ok (.iload_n 1, 1) := by decide +kernel
theorem dX6_reached_2 : decode cX6_reached 2 = .ok (.ishl, 1) := by decide +kernel
theorem dX6_reached_3 : decode cX6_reached 3 = .ok (.istore_n 3, 1) := by decide +kernel
theorem dX6_reached_4 : decode cX6_reached 4 = .ok (.iconst 0, 1) := by decide +kernel
theorem dX6_reached_5 : decode cX6_reached 5 = .ok (.istore 4, 2) := by decide +kernel
theorem dX6_reached_7 : decode cX6_reached 7 = .ok (.iload_n 3, 1) := by decide +kernel
theorem dX6_reached_8 : decode cX6_reached 8 = .ok (.iload 4, 2) := by decide +kernel
theorem dX6_reached_10 : decode cX6_reached 10 = .ok (.if_icmp .eq 59, 3) := by decide +kernel
theorem dX6_reached_13 : decode cX6_reached 13 = .ok (.iload_n 3, 1) := by decide +kernel
theorem dX6_reached_14 : decode cX6_reached 14 = .ok (.istore 4, 2) := by decide +kernel
theorem dX6_reached_16 : decode cX6_reached 16 = .ok (.iconst 0, 1) := by decide +kernel
theorem dX6_reached_17 : decode cX6_reached 17 = .ok (.istore 5, 2) := by decide +kernel
theorem dX6_reached_19 : decode cX6_reached 19 = .ok (.iload 5, 2) := by decide +kernel
theorem dX6_reached_21 : decode cX6_reached 21 = .ok (.aload_n 0, 1) := by decide +kernel
theorem dX6_reached_22 : decode cX6_reached 22 = .ok (.getfield 7, 3) := by decide +kernel
theorem dX6_reached_25 : decode cX6_reached 25 = .ok (.iconst 0, 1) := by decide +kernel
theorem dX6_reached_26 : decode cX6_reached 26 = .ok (.iaload, 1) := by decide +kernel
theorem dX6_reached_27 : decode cX6_reached 27 = .ok (.if_icmp .ge 39, 3) := by decide +kernel
theorem dX6_reached_30 : decode cX6_reached 30 = .ok (.iload_n 3, 1) := by decide +kernel
theorem dX6_reached_31 : decode cX6_reached 31 = .ok (.iload 4, 2) := by decide +kernel
theorem dX6_reached_33 : decode cX6_reached 33 = .ok (.iload 5, 2) := by decide +kernel
theorem dX6_reached_35 : decode cX6_reached 35 = .ok (.ishr, 1) := by decide +kernel
theorem dX6_reached_36 : decode cX6_reached 36 = .ok (.iconst 1, 1) := by decide +kernel
theorem dX6_reached_37 : decode cX6_reached 37 = .ok (.iand, 1) := by decide +kernel
theorem dX6_reached_38 : decode cX6_reached 38 = .ok (.iconst 1, 1) := by decide +kernel
theorem dX6_reached_39 : decode cX6_reached 39 = .ok (.if_icmp .ne 18, 3) := by decide +kernel
theorem dX6_reached_42 : decode cX6_reached 42 = .ok (.aload_n 0, 1) := by decide +kernel
theorem dX6_reached_43 : decode cX6_reached 43 = .ok (.getfield 7, 3) := by decide +kernel
theorem dX6_reached_46 : decode cX6_reached 46 = .ok (.bipush 13, 2) := by decide +kernel
theorem dX6_reached_48 : decode cX6_reached 48 = .ok (.iload 5, 2) := by decide +kernel
theorem dX6_reached_50 : decode cX6_reached 50 = .ok (.iadd, 1) := by decide +kernel
theorem dX6_reached_51 : decode cX6_reached 51 = .ok (.iaload, 1) := by decide +kernel
theorem dX6_reached_52 : decode cX6_reached 52 = .ok (.iload_n 2, 1) := by decide +kernel
theorem dX6_reached_53 : decode cX6_reached 53 = .ok (.iand, 1) := by decide +kernel
theorem dX6_reached_54 : decode cX6_reached 54 = .ok (.goto 4, 3) := by decide +kernel
theorem dX6_reached_57 : decode cX6_reached 57 = .ok (.iconst 0, 1) := by decide +kernel
theorem dX6_reached_58 : decode cX6_reached 58 = .ok (.ior, 1) := by decide +kernel
theorem dX6_reached_59 : decode cX6_reached 59 = .ok (.istore_n 3, 1) := by decide +kernel
theorem dX6_reached_60 : decode cX6_reached 60 = .ok (.iinc 5 1, 3) := by decide +kernel
theorem dX6_reached_63 : decode cX6_reached 63 = .ok (.goto (-44), 3) := by decide +kernel
theorem dX6_reached_66 : decode cX6_reached 66 = .ok (.goto (-59), 3) := by decide +kernel
theorem dX6_reached_69 : decode cX6_reached 69 = .ok (.iload_n 3, 1) := by decide +kernel
theorem dX6_reached_70 : decode cX6_reached 70 = .ok (.ireturn, 1) := by decide +kernel
theorem dX6_partsIn_0 : decode cX6_partsIn 0 = .ok (.iconst 0, 1) := by decide +kernel
theorem dX6_partsIn_1 : decode cX6_partsIn 1 = .ok (.istore_n 2, 1) := by decide +kernel
theorem dX6_partsIn_2 : decode cX6_partsIn 2 = .ok (.iload_n 1, 1) := by decide +kernel
theorem dX6_partsIn_3 : decode cX6_partsIn 3 = .ok (.istore_n 3, 1) := by decide +kernel
theorem dX6_partsIn_4 : decode cX6_partsIn 4 = .ok (.iload_n 3, 1) := by decide +kernel
theorem dX6_partsIn_5 : decode cX6_partsIn 5 = .ok (.ifCond .le 23, 3) := by decide +kernel
theorem dX6_partsIn_8 : decode cX6_partsIn 8 = .ok (.iinc 2 1, 3) := by decide +kernel
theorem dX6_partsIn_11 : decode cX6_partsIn 11 = .ok (.iload_n 3, 1) := by decide +kernel
theorem dX6_partsIn_12 : decode cX6_partsIn 12 = .ok (.aload_n 0, 1) := by decide +kernel
theorem dX6_partsIn_13 : decode cX6_partsIn 13 = .ok (.iload_n 3, 1) := by decide +kernel
theorem dX6_partsIn_14 : decode cX6_partsIn 14 = .ok (.invokestatic 174, 3) := by decide +kernel
theorem dX6_partsIn_17 : decode cX6_partsIn 17 = .ok (.iload_n 1, 1) := by decide +kernel
theorem dX6_partsIn_18 : decode cX6_partsIn 18 = .ok (.invokevirtual 177, 3) := by decide +kernel
theorem dX6_partsIn_21 : decode cX6_partsIn 21 = .ok (.iconst (-1), 1) := by decide +kernel
theorem dX6_partsIn_22 : decode cX6_partsIn 22 = .ok (.ixor, 1) := by decide +kernel
theorem dX6_partsIn_23 : decode cX6_partsIn 23 = .ok (.iand, 1) := by decide +kernel
theorem dX6_partsIn_24 : decode cX6_partsIn 24 = .ok (.istore_n 3, 1) := by decide +kernel
theorem dX6_partsIn_25 : decode cX6_partsIn 25 = .ok (.goto (-21), 3) := by decide +kernel
theorem dX6_partsIn_28 : decode cX6_partsIn 28 = .ok (.iload_n 2, 1) := by decide +kernel
theorem dX6_partsIn_29 : decode cX6_partsIn 29 = .ok (.ireturn, 1) := by decide +kernel
theorem dX6_partSet_0 : decode cX6_partSet 0 = .ok (.aload_n 0, 1) := by decide +kernel
theorem dX6_partSet_1 : decode cX6_partSet 1 = .ok (.invokevirtual 180, 3) := by decide +kernel
theorem dX6_partSet_4 : decode cX6_partSet 4 = .ok (.istore_n 2, 1) := by decide +kernel
theorem dX6_partSet_5 : decode cX6_partSet 5 = .ok (.iload_n 2, 1) := by decide +kernel
theorem dX6_partSet_6 : decode cX6_partSet 6 = .ok (.istore_n 3, 1) := by decide +kernel
theorem dX6_partSet_7 : decode cX6_partSet 7 = .ok (.iconst 0, 1) := by decide +kernel
theorem dX6_partSet_8 : decode cX6_partSet 8 = .ok (.istore 4, 2) := by decide +kernel
theorem dX6_partSet_10 : decode cX6_partSet 10 = .ok (.iload 4, 2) := by decide +kernel
theorem dX6_partSet_12 : decode cX6_partSet 12 = .ok (.iload_n 1, 1) := by decide +kernel
theorem dX6_partSet_13 : decode cX6_partSet 13 = .ok (.if_icmp .ge 27, 3) := by decide +kernel
theorem dX6_partSet_16 : decode cX6_partSet 16 = .ok (.iload_n 3, 1) := by decide +kernel
theorem dX6_partSet_17 : decode cX6_partSet 17 = .ok (.ifCond .le 23, 3) := by decide +kernel
theorem dX6_partSet_20 : decode cX6_partSet 20 = .ok (.iload_n 3, 1) := by decide +kernel
theorem dX6_partSet_21 : decode cX6_partSet 21 = .ok (.aload_n 0, 1) := by decide +kernel
theorem dX6_partSet_22 : decode cX6_partSet 22 = .ok (.iload_n 3, 1) := by decide +kernel
theorem dX6_partSet_23 : decode cX6_partSet 23 = .ok (.invokestatic 174, 3) := by decide +kernel
theorem dX6_partSet_26 : decode cX6_partSet 26 = .ok (.iload_n 2, 1) := by decide +kernel
theorem dX6_partSet_27 : decode cX6_partSet 27 = .ok (.invokevirtual 177, 3) := by decide +kernel
theorem dX6_partSet_30 : decode cX6_partSet 30 = .ok (.iconst (-1), 1) := by decide +kernel
theorem dX6_partSet_31 : decode cX6_partSet 31 = .ok (.ixor, 1) := by decide +kernel
theorem dX6_partSet_32 : decode cX6_partSet 32 = .ok (.iand, 1) := by decide +kernel
end
section
theorem dX6_partSet_33 : decode cX6_partSet 33 = .ok (.istore_n 3, 1) := by decide +kernel
theorem dX6_partSet_34 : decode cX6_partSet 34 = .ok (.iinc 4 1, 3) := by decide +kernel
theorem dX6_partSet_37 : decode cX6_partSet 37 = .ok (.goto (-27), 3) := by decide +kernel
theorem dX6_partSet_40 : decode cX6_partSet 40 = .ok (.iload_n 3, 1) := by decide +kernel
theorem dX6_partSet_41 : decode cX6_partSet 41 = .ok (.ifCond .ne 7, 3) := by decide +kernel
theorem dX6_partSet_44 : decode cX6_partSet 44 = .ok (.iconst 0, 1) := by decide +kernel
theorem dX6_partSet_45 : decode cX6_partSet 45 = .ok (.goto 12, 3) := by decide +kernel
theorem dX6_partSet_48 : decode cX6_partSet 48 = .ok (.aload_n 0, 1) := by decide +kernel
theorem dX6_partSet_49 : decode cX6_partSet 49 = .ok (.iload_n 3, 1) := by decide +kernel
theorem dX6_partSet_50 : decode cX6_partSet 50 = .ok (.invokestatic 174, 3) := by decide +kernel
theorem dX6_partSet_53 : decode cX6_partSet 53 = .ok (.iload_n 2, 1) := by decide +kernel
theorem dX6_partSet_54 : decode cX6_partSet 54 = .ok (.invokevirtual 177, 3) := by decide +kernel
theorem dX6_partSet_57 : decode cX6_partSet 57 = .ok (.ireturn, 1) := by decide +kernel
theorem dX6_partOf_0 : decode cX6_partOf 0 = .ok (.aload_n 0, 1) := by decide +kernel
theorem dX6_partOf_1 : decode cX6_partOf 1 = .ok (.invokevirtual 180, 3) := by decide +kernel
theorem dX6_partOf_4 : decode cX6_partOf 4 = .ok (.istore_n 2, 1) := by decide +kernel
theorem dX6_partOf_5 : decode cX6_partOf 5 = .ok (.iconst 0, 1) := by decide +kernel
theorem dX6_partOf_6 : decode cX6_partOf 6 = .ok (.istore_n 3, 1) := by decide +kernel
theorem dX6_partOf_7 : decode cX6_partOf 7 = .ok (.iload_n 2, 1) := by decide +kernel
theorem dX6_partOf_8 : decode cX6_partOf 8 = .ok (.istore 4, 2) := by decide +kernel
theorem dX6_partOf_10 : decode cX6_partOf 10 = .ok (.aload_n 0, 1) := by decide +kernel
theorem dX6_partOf_11 : decode cX6_partOf 11 = .ok (.iload 4, 2) := by decide +kernel
theorem dX6_partOf_13 : decode cX6_partOf 13 = .ok (.invokestatic 174, 3) := by decide +kernel
theorem dX6_partOf_16 : decode cX6_partOf 16 = .ok (.iload_n 2, 1) := by decide +kernel
theorem dX6_partOf_17 : decode cX6_partOf 17 = .ok (.invokevirtual 177, 3) := by decide +kernel
theorem dX6_partOf_20 : decode cX6_partOf 20 = .ok (.iload_n 1, 1) := by decide +kernel
theorem dX6_partOf_21 : decode cX6_partOf 21 = .ok (.ishr, 1) := by decide +kernel
theorem dX6_partOf_22 : decode cX6_partOf 22 = .ok (.iconst 1, 1) := by decide +kernel
theorem dX6_partOf_23 : decode cX6_partOf 23 = .ok (.iand, 1) := by decide +kernel
theorem dX6_partOf_24 : decode cX6_partOf 24 = .ok (.ifCond .ne 26, 3) := by decide +kernel
theorem dX6_partOf_27 : decode cX6_partOf 27 = .ok (.iload 4, 2) := by decide +kernel
theorem dX6_partOf_29 : decode cX6_partOf 29 = .ok (.aload_n 0, 1) := by decide +kernel
theorem dX6_partOf_30 : decode cX6_partOf 30 = .ok (.iload 4, 2) := by decide +kernel
theorem dX6_partOf_32 : decode cX6_partOf 32 = .ok (.invokestatic 174, 3) := by decide +kernel
theorem dX6_partOf_35 : decode cX6_partOf 35 = .ok (.iload_n 2, 1) := by decide +kernel
theorem dX6_partOf_36 : decode cX6_partOf 36 = .ok (.invokevirtual 177, 3) := by decide +kernel
theorem dX6_partOf_39 : decode cX6_partOf 39 = .ok (.iconst (-1), 1) := by decide +kernel
theorem dX6_partOf_40 : decode cX6_partOf 40 = .ok (.ixor, 1) := by decide +kernel
theorem dX6_partOf_41 : decode cX6_partOf 41 = .ok (.iand, 1) := by decide +kernel
theorem dX6_partOf_42 : decode cX6_partOf 42 = .ok (.istore 4, 2) := by decide +kernel
theorem dX6_partOf_44 : decode cX6_partOf 44 = .ok (.iinc 3 1, 3) := by decide +kernel
theorem dX6_partOf_47 : decode cX6_partOf 47 = .ok (.goto (-37), 3) := by decide +kernel
theorem dX6_partOf_50 : decode cX6_partOf 50 = .ok (.iload_n 3, 1) := by decide +kernel
theorem dX6_partOf_51 : decode cX6_partOf 51 = .ok (.ireturn, 1) := by decide +kernel
theorem dX6_around_0 : decode cX6_around 0 = .ok (.iconst 0, 1) := by decide +kernel
theorem dX6_around_1 : decode cX6_around 1 = .ok (.istore_n 2, 1) := by decide +kernel
theorem dX6_around_2 : decode cX6_around 2 = .ok (.iconst 0, 1) := by decide +kernel
theorem dX6_around_3 : decode cX6_around 3 = .ok (.istore_n 3, 1) := by decide +kernel
theorem dX6_around_4 : decode cX6_around 4 = .ok (.iload_n 3, 1) := by decide +kernel
theorem dX6_around_5 : decode cX6_around 5 = .ok (.aload_n 0, 1) := by decide +kernel
theorem dX6_around_6 : decode cX6_around 6 = .ok (.getfield 7, 3) := by decide +kernel
theorem dX6_around_9 : decode cX6_around 9 = .ok (.iconst 0, 1) := by decide +kernel
theorem dX6_around_10 : decode cX6_around 10 = .ok (.iaload, 1) := by decide +kernel
theorem dX6_around_11 : decode cX6_around 11 = .ok (.if_icmp .ge 36, 3) := by decide +kernel
theorem dX6_around_14 : decode cX6_around 14 = .ok (.aload_n 0, 1) := by decide +kernel
theorem dX6_around_15 : decode cX6_around 15 = .ok (.iload_n 1, 1) := by decide +kernel
theorem dX6_around_16 : decode cX6_around 16 = .ok (.iload_n 3, 1) := by decide +kernel
theorem dX6_around_17 : decode cX6_around 17 = .ok (.invokevirtual 123, 3) := by decide +kernel
theorem dX6_around_20 : decode cX6_around 20 = .ok (.ifCond .eq 21, 3) := by decide +kernel
theorem dX6_around_23 : decode cX6_around 23 = .ok (.aload_n 0, 1) := by decide +kernel
theorem dX6_around_24 : decode cX6_around 24 = .ok (.iload_n 3, 1) := by decide +kernel
theorem dX6_around_25 : decode cX6_around 25 = .ok (.invokevirtual 170, 3) := by decide +kernel
theorem dX6_around_28 : decode cX6_around 28 = .ok (.ifCond .ne 13, 3) := by decide +kernel
theorem dX6_around_31 : decode cX6_around 31 = .ok (.iload_n 2, 1) := by decide +kernel
theorem dX6_around_32 : decode cX6_around 32 = .ok (.iconst 1, 1) := by decide +kernel
theorem dX6_around_33 : decode cX6_around 33 = .ok (.aload_n 0, 1) := by decide +kernel
theorem dX6_around_34 : decode cX6_around 34 = .ok (.iload_n 3, 1) := by decide +kernel
theorem dX6_around_35 : decode cX6_around 35 = .ok (.invokevirtual 183, 3) := by decide +kernel
theorem dX6_around_38 : decode cX6_around 38 = .ok (.ishl, 1) := by decide +kernel
theorem dX6_around_39 : decode cX6_around 39 = .ok (.ior, 1) := by decide +kernel
theorem dX6_around_40 : decode cX6_around 40 = .ok (.istore_n 2, 1) := by decide +kernel
theorem dX6_around_41 : decode cX6_around 41 = .ok (.iinc 3 1, 3) := by decide +kernel
theorem dX6_around_44 : decode cX6_around 44 = .ok (.goto (-40), 3) := by decide +kernel
theorem dX6_around_47 : decode cX6_around 47 = .ok (.iload_n 2, 1) := by decide +kernel
theorem dX6_around_48 : decode cX6_around 48 = .ok (.ireturn, 1) := by decide +kernel
theorem dX6_canLay_0 : decode cX6_canLay 0 = .ok (.aload_n 0, 1) := by decide +kernel
theorem dX6_canLay_1 : decode cX6_canLay 1 = .ok (.getfield 7, 3) := by decide +kernel
theorem dX6_canLay_4 : decode cX6_canLay 4 = .ok (.iconst 4, 1) := by decide +kernel
theorem dX6_canLay_5 : decode cX6_canLay 5 = .ok (.iload_n 1, 1) := by decide +kernel
theorem dX6_canLay_6 : decode cX6_canLay 6 = .ok (.iadd, 1) := by decide +kernel
theorem dX6_canLay_7 : decode cX6_canLay 7 = .ok (.iaload, 1) := by decide +kernel
theorem dX6_canLay_8 : decode cX6_canLay 8 = .ok (.aload_n 0, 1) := by decide +kernel
theorem dX6_canLay_9 : decode cX6_canLay 9 = .ok (.iload_n 1, 1) := by decide +kernel
theorem dX6_canLay_10 : decode cX6_canLay 10 = .ok (.invokevirtual 186, 3) := by decide +kernel
theorem dX6_canLay_13 : decode cX6_canLay 13 = .ok (.iconst (-1), 1) := by decide +kernel
theorem dX6_canLay_14 : decode cX6_canLay 14 = .ok (.ixor, 1) := by decide +kernel
theorem dX6_canLay_15 : decode cX6_canLay 15 = .ok (.iand, 1) := by decide +kernel
theorem dX6_canLay_16 : decode cX6_canLay 16 = .ok (.istore 4, 2) := by decide +kernel
theorem dX6_canLay_18 : decode cX6_canLay 18 = .ok (.iload_n 3, 1) := by decide +kernel
theorem dX6_canLay_19 : decode cX6_canLay 19 = .ok (.iconst (-1), 1) := by decide +kernel
theorem dX6_canLay_20 : decode cX6_canLay 20 = .ok (.if_icmp .eq 11, 3) := by decide +kernel
theorem dX6_canLay_23 : decode cX6_canLay 23 = .ok (.iload_n 2, 1) := by decide +kernel
theorem dX6_canLay_24 : decode cX6_canLay 24 = .ok (.invokestatic 189, 3) := by decide +kernel
theorem dX6_canLay_27 : decode cX6_canLay 27 = .ok (.iconst 1, 1) := by decide +kernel
theorem dX6_canLay_28 : decode cX6_canLay 28 = .ok (.if_icmp .ne 8, 3) := by decide +kernel
theorem dX6_canLay_31 : decode cX6_canLay 31 = .ok (.iload 4, 2) := by decide +kernel
theorem dX6_canLay_33 : decode cX6_canLay 33 = .ok (.goto 11, 3) := by decide +kernel
theorem dX6_canLay_36 : decode cX6_canLay 36 = .ok (.iload 4, 2) := by decide +kernel
theorem dX6_canLay_38 : decode cX6_canLay 38 = .ok (.iconst 1, 1) := by decide +kernel
theorem dX6_canLay_39 : decode cX6_canLay 39 = .ok (.iload_n 3, 1) := by decide +kernel
theorem dX6_canLay_40 : decode cX6_canLay 40 = .ok (.ishl, 1) := by decide +kernel
theorem dX6_canLay_41 : decode cX6_canLay 41 = .ok (.iconst (-1), 1) := by decide +kernel
theorem dX6_canLay_42 : decode cX6_canLay 42 = .ok (.ixor, 1) := by decide +kernel
theorem dX6_canLay_43 : decode cX6_canLay 43 = .ok (.iand, 1) := by decide +kernel
theorem dX6_canLay_44 : decode cX6_canLay 44 = .ok (.ireturn, 1) := by decide +kernel
theorem dX6_banOf_0 : decode cX6_banOf 0 = .ok (.aload_n 0, 1) := by decide +kernel
theorem dX6_banOf_1 : decode cX6_banOf 1 = .ok (.getfield 7, 3) := by decide +kernel
theorem dX6_banOf_4 : decode cX6_banOf 4 = .ok (.bipush 31, 2) := by decide +kernel
theorem dX6_banOf_6 : decode cX6_banOf 6 = .ok (.iload_n 1, 1) := by decide +kernel
theorem dX6_banOf_7 : decode cX6_banOf 7 = .ok (.iadd, 1) := by decide +kernel
theorem dX6_banOf_8 : decode cX6_banOf 8 = .ok (.iaload, 1) := by decide +kernel
theorem dX6_banOf_9 : decode cX6_banOf 9 = .ok (.iconst 1, 1) := by decide +kernel
theorem dX6_banOf_10 : decode cX6_banOf 10 = .ok (.isub, 1) := by decide +kernel
theorem dX6_banOf_11 : decode cX6_banOf 11 = .ok (.ireturn, 1) := by decide +kernel
theorem dX6_colours_0 : decode cX6_colours 0 = .ok (.aload_n 0, 1) := by decide +kernel
theorem dX6_colours_1 : decode cX6_colours 1 = .ok (.iload_n 1, 1) := by decide +kernel
theorem dX6_colours_2 : decode cX6_colours 2 = .ok (.invokevirtual 170, 3) := by decide +kernel
theorem dX6_colours_5 : decode cX6_colours 5 = .ok (.ifCond .eq 25, 3) := by decide +kernel
theorem dX6_colours_8 : decode cX6_colours 8 = .ok (.aload_n 0, 1) := by decide +kernel
theorem dX6_colours_9 : decode cX6_colours 9 = .ok (.iload_n 1, 1) := by decide +kernel
theorem dX6_colours_10 : decode cX6_colours 10 = .ok (.aload_n 0, 1) := by decide +kernel
theorem dX6_colours_11 : decode cX6_colours 11 = .ok (.iload_n 1, 1) := by decide +kernel
theorem dX6_colours_12 : decode cX6_colours 12 = .ok (.aload_n 0, 1) := by decide +kernel
theorem dX6_colours_13 : decode cX6_colours 13 = .ok (.invokevirtual 180, 3) := by decide +kernel
theorem dX6_colours_16 : decode cX6_colours 16 = .ok (.invokevirtual 177, 3) := by decide +kernel
theorem dX6_colours_19 : decode cX6_colours 19 = .ok (.aload_n 0, 1) := by decide +kernel
theorem dX6_colours_20 : decode cX6_colours 20 = .ok (.iload_n 1, 1) := by decide +kernel
theorem dX6_colours_21 : decode cX6_colours 21 = .ok (.invokevirtual 192, 3) := by decide +kernel
theorem dX6_colours_24 : decode cX6_colours 24 = .ok (.invokevirtual 195, 3) := by decide +kernel
theorem dX6_colours_27 : decode cX6_colours 27 = .ok (.goto 4, 3) := by decide +kernel
theorem dX6_colours_30 : decode cX6_colours 30 = .ok (.iconst 0, 1) := by decide +kernel
theorem dX6_colours_31 : decode cX6_colours 31 = .ok (.ireturn, 1) := by decide +kernel
theorem dX6_whyNot_0 : decode cX6_whyNot 0 = .ok (.aload_n 0, 1) := by decide +kernel
theorem dX6_whyNot_1 : decode cX6_whyNot 1 = .ok (.iload_n 1, 1) := by decide +kernel
theorem dX6_whyNot_2 : decode cX6_whyNot 2 = .ok (.invokevirtual 170, 3) := by decide +kernel
theorem dX6_whyNot_5 : decode cX6_whyNot 5 = .ok (.ifCond .ne 5, 3) := by decide +kernel
theorem dX6_whyNot_8 : decode cX6_whyNot 8 = .ok (.iconst 1, 1) := by decide +kernel
theorem dX6_whyNot_9 : decode cX6_whyNot 9 = .ok (.ireturn, 1) := by decide +kernel
theorem dX6_whyNot_10 : decode cX6_whyNot 10 = .ok (.aload_n 0, 1) := by decide +kernel
theorem dX6_whyNot_11 : decode cX6_whyNot 11 = .ok (.getfield 7, 3) := by decide +kernel
theorem dX6_whyNot_14 : decode cX6_whyNot 14 = .ok (.iconst 4, 1) := by decide +kernel
theorem dX6_whyNot_15 : decode cX6_whyNot 15 = .ok (.iload_n 1, 1) := by decide +kernel
theorem dX6_whyNot_16 : decode cX6_whyNot 16 = .ok (.iadd, 1) := by decide +kernel
theorem dX6_whyNot_17 : decode cX6_whyNot 17 = .ok (.iaload, 1) := by decide +kernel
theorem dX6_whyNot_18 : decode cX6_whyNot 18 = .ok (.iload_n 2, 1) := by decide +kernel
theorem dX6_whyNot_19 : decode cX6_whyNot 19 = .ok (.ishr, 1) := by decide +kernel
theorem dX6_whyNot_20 : decode cX6_whyNot 20 = .ok (.iconst 1, 1) := by decide +kernel
theorem dX6_whyNot_21 : decode cX6_whyNot 21 = .ok (.iand, 1) := by decide +kernel
theorem dX6_whyNot_22 : decode cX6_whyNot 22 = .ok (.ifCond .ne 5, 3) := by decide +kernel
theorem dX6_whyNot_25 : decode cX6_whyNot 25 = .ok (.iconst 2, 1) := by decide +kernel
theorem dX6_whyNot_26 : decode cX6_whyNot 26 = .ok (.ireturn, 1) := by decide +kernel
theorem dX6_whyNot_27 : decode cX6_whyNot 27 = .ok (.aload_n 0, 1) := by decide +kernel
theorem dX6_whyNot_28 : decode cX6_whyNot 28 = .ok (.iload_n 1, 1) := by decide +kernel
theorem dX6_whyNot_29 : decode cX6_whyNot 29 = .ok (.invokevirtual 186, 3) := by decide +kernel
theorem dX6_whyNot_32 : decode cX6_whyNot 32 = .ok (.iload_n 2, 1) := by decide +kernel
theorem dX6_whyNot_33 : decode cX6_whyNot 33 = .ok (.ishr, 1) := by decide +kernel
theorem dX6_whyNot_34 : decode cX6_whyNot 34 = .ok (.iconst 1, 1) := by decide +kernel
theorem dX6_whyNot_35 : decode cX6_whyNot 35 = .ok (.iand, 1) := by decide +kernel
theorem dX6_whyNot_36 : decode cX6_whyNot 36 = .ok (.iconst 1, 1) := by decide +kernel
theorem dX6_whyNot_37 : decode cX6_whyNot 37 = .ok (.if_icmp .ne 5, 3) := by decide +kernel
theorem dX6_whyNot_40 : decode cX6_whyNot 40 = .ok (.iconst 3, 1) := by decide +kernel
theorem dX6_whyNot_41 : decode cX6_whyNot 41 = .ok (.ireturn, 1) := by decide +kernel
theorem dX6_whyNot_42 : decode cX6_whyNot 42 = .ok (.aload_n 0, 1) := by decide +kernel
theorem dX6_whyNot_43 : decode cX6_whyNot 43 = .ok (.iload_n 1, 1) := by decide +kernel
theorem dX6_whyNot_44 : decode cX6_whyNot 44 = .ok (.invokevirtual 199, 3) := by decide +kernel
theorem dX6_whyNot_47 : decode cX6_whyNot 47 = .ok (.iload_n 2, 1) := by decide +kernel
theorem dX6_whyNot_48 : decode cX6_whyNot 48 = .ok (.ishr, 1) := by decide +kernel
theorem dX6_whyNot_49 : decode cX6_whyNot 49 = .ok (.iconst 1, 1) := by decide +kernel
theorem dX6_whyNot_50 : decode cX6_whyNot 50 = .ok (.iand, 1) := by decide +kernel
theorem dX6_whyNot_51 : decode cX6_whyNot 51 = .ok (.iconst 1, 1) := by decide +kernel
theorem dX6_whyNot_52 : decode cX6_whyNot 52 = .ok (.if_icmp .ne 7, 3) := by decide +kernel
theorem dX6_whyNot_55 : decode cX6_whyNot 55 = .ok (.iconst 0, 1) := by decide +kernel
theorem dX6_whyNot_56 : decode cX6_whyNot 56 = .ok (.goto 4, 3) := by decide +kernel
theorem dX6_whyNot_59 : decode cX6_whyNot 59 = .ok (.iconst 4, 1) := by decide +kernel
theorem dX6_whyNot_60 : decode cX6_whyNot 60 = .ok (.ireturn, 1) := by decide +kernel
theorem dX6_pairs_0 : decode cX6_pairs 0 = .ok (.iconst 0, 1) := by decide +kernel
theorem dX6_pairs_1 : decode cX6_pairs 1 = .ok (.istore_n 1, 1) := by decide +kernel
theorem dX6_pairs_2 : decode cX6_pairs 2 = .ok (.iconst 0, 1) := by decide +kernel
theorem dX6_pairs_3 : decode cX6_pairs 3 = .ok (.istore_n 2, 1) := by decide +kernel
theorem dX6_pairs_4 : decode cX6_pairs 4 = .ok (.iload_n 2, 1) := by decide +kernel
theorem dX6_pairs_5 : decode cX6_pairs 5 = .ok (.aload_n 0, 1) := by decide +kernel
theorem dX6_pairs_6 : decode cX6_pairs 6 = .ok (.getfield 7, 3) := by decide +kernel
theorem dX6_pairs_9 : decode cX6_pairs 9 = .ok (.iconst 0, 1) := by decide +kernel
theorem dX6_pairs_10 : decode cX6_pairs 10 = .ok (.iaload, 1) := by decide +kernel
theorem dX6_pairs_11 : decode cX6_pairs 11 = .ok (.if_icmp .ge 20, 3) := by decide +kernel
theorem dX6_pairs_14 : decode cX6_pairs 14 = .ok (.iload_n 1, 1) := by decide +kernel
theorem dX6_pairs_15 : decode cX6_pairs 15 = .ok (.aload_n 0, 1) := by decide +kernel
theorem dX6_pairs_16 : decode cX6_pairs 16 = .ok (.iload_n 2, 1) := by decide +kernel
theorem dX6_pairs_17 : decode cX6_pairs 17 = .ok (.invokevirtual 199, 3) := by decide +kernel
theorem dX6_pairs_20 : decode cX6_pairs 20 = .ok (.invokestatic 189, 3) := by decide +kernel
theorem dX6_pairs_23 : decode cX6_pairs 23 = .ok (.iadd, 1) := by decide +kernel
theorem dX6_pairs_24 : decode cX6_pairs 24 = .ok (.istore_n 1, 1) := by decide +kernel
theorem dX6_pairs_25 : decode cX6_pairs 25 = .ok (.iinc 2 1, 3) := by decide +kernel
theorem dX6_pairs_28 : decode cX6_pairs 28 = .ok (.goto (-24), 3) := by decide +kernel
theorem dX6_pairs_31 : decode cX6_pairs 31 = .ok (.iload_n 1, 1) := by decide +kernel
theorem dX6_pairs_32 : decode cX6_pairs 32 = .ok (.ireturn, 1) := by decide +kernel
theorem dX6_isOver_0 : decode cX6_isOver 0 = .ok (.aload_n 0, 1) := by decide +kernel
theorem dX6_isOver_1 : decode cX6_isOver 1 = .ok (.invokevirtual 201, 3) := by decide +kernel
theorem dX6_isOver_4 : decode cX6_isOver 4 = .ok (.ifCond .ne 16, 3) := by decide +kernel
theorem dX6_isOver_7 : decode cX6_isOver 7 = .ok (.aload_n 0, 1) := by decide +kernel
theorem dX6_isOver_8 : decode cX6_isOver 8 = .ok (.getfield 7, 3) := by decide +kernel
theorem dX6_isOver_11 : decode cX6_isOver 11 = .ok (.iconst 2, 1) := by decide +kernel
theorem dX6_isOver_12 : decode cX6_isOver 12 = .ok (.iaload, 1) := by decide +kernel
theorem dX6_isOver_13 : decode cX6_isOver 13 = .ok (.ifCond .ne 7, 3) := by decide +kernel
theorem dX6_isOver_16 : decode cX6_isOver 16 = .ok (.iconst 1, 1) := by decide +kernel
theorem dX6_isOver_17 : decode cX6_isOver 17 = .ok (.goto 4, 3) := by decide +kernel
theorem dX6_isOver_20 : decode cX6_isOver 20 = .ok (.iconst 0, 1) := by decide +kernel
theorem dX6_isOver_21 : decode cX6_isOver 21 = .ok (.ireturn, 1) := by decide +kernel
theorem dX6_turn_0 : decode cX6_turn 0 = .ok (.aload_n 0, 1) := by decide +kernel
theorem dX6_turn_1 : decode cX6_turn 1 = .ok (.getfield 7, 3) := by decide +kernel
theorem dX6_turn_4 : decode cX6_turn 4 = .ok (.iconst 3, 1) := by decide +kernel
theorem dX6_turn_5 : decode cX6_turn 5 = .ok (.iaload, 1) := by decide +kernel
theorem dX6_turn_6 : decode cX6_turn 6 = .ok (.iconst 2, 1) := by decide +kernel
theorem dX6_turn_7 : decode cX6_turn 7 = .ok (.irem, 1) := by decide +kernel
theorem dX6_turn_8 : decode cX6_turn 8 = .ok (.ireturn, 1) := by decide +kernel
theorem dX6_stuck_0 : decode cX6_stuck 0 = .ok (.iconst 0, 1) := by decide +kernel
theorem dX6_stuck_1 : decode cX6_stuck 1 = .ok (.istore_n 1, 1) := by decide +kernel
theorem dX6_stuck_2 : decode cX6_stuck 2 = .ok (.iconst 0, 1) := by decide +kernel
theorem dX6_stuck_3 : decode cX6_stuck 3 = .ok (.istore_n 2, 1) := by decide +kernel
theorem dX6_stuck_4 : decode cX6_stuck 4 = .ok (.iload_n 2, 1) := by decide +kernel
theorem dX6_stuck_5 : decode cX6_stuck 5 = .ok (.aload_n 0, 1) := by decide +kernel
theorem dX6_stuck_6 : decode cX6_stuck 6 = .ok (.getfield 7, 3) := by decide +kernel
theorem dX6_stuck_9 : decode cX6_stuck 9 = .ok (.iconst 0, 1) := by decide +kernel
theorem dX6_stuck_10 : decode cX6_stuck 10 = .ok (.iaload, 1) := by decide +kernel
theorem dX6_stuck_11 : decode cX6_stuck 11 = .ok (.if_icmp .ge 33, 3) := by decide +kernel
theorem dX6_stuck_14 : decode cX6_stuck 14 = .ok (.iload_n 1, 1) := by decide +kernel
theorem dX6_stuck_15 : decode cX6_stuck 15 = .ok (.aload_n 0, 1) := by decide +kernel
theorem dX6_stuck_16 : decode cX6_stuck 16 = .ok (.iload_n 2, 1) := by decide +kernel
theorem dX6_stuck_17 : decode cX6_stuck 17 = .ok (.invokevirtual 170, 3) := by decide +kernel
theorem dX6_stuck_20 : decode cX6_stuck 20 = .ok (.ifCond .eq 15, 3) := by decide +kernel
theorem dX6_stuck_23 : decode cX6_stuck 23 = .ok (.aload_n 0, 1) := by decide +kernel
theorem dX6_stuck_24 : decode cX6_stuck 24 = .ok (.iload_n 2, 1) := by decide +kernel
theorem dX6_stuck_25 : decode cX6_stuck 25 = .ok (.invokevirtual 199, 3) := by decide +kernel
theorem dX6_stuck_28 : decode cX6_stuck 28 = .ok (.ifCond .ne 7, 3) := by decide +kernel
theorem dX6_stuck_31 : decode cX6_stuck 31 = .ok (.iconst 1, 1) := by decide +kernel
theorem dX6_stuck_32 : decode cX6_stuck 32 = .ok (.goto 4, 3) := by decide +kernel
theorem dX6_stuck_35 : decode cX6_stuck 35 = .ok (.iconst 0, 1) := by decide +kernel
theorem dX6_stuck_36 : decode cX6_stuck 36 = .ok (.iadd, 1) := by decide +kernel
theorem dX6_stuck_37 : decode cX6_stuck 37 = .ok (.istore_n 1, 1) := by decide +kernel
theorem dX6_stuck_38 : decode cX6_stuck 38 = .ok (.iinc 2 1, 3) := by decide +kernel
theorem dX6_stuck_41 : decode cX6_stuck 41 = .ok (.goto (-37), 3) := by decide +kernel
theorem dX6_stuck_44 : decode cX6_stuck 44 = .ok (.iload_n 1, 1) := by decide +kernel
theorem dX6_stuck_45 : decode cX6_stuck 45 = .ok (.ireturn, 1) := by decide +kernel
theorem dX6_edgesIn_0 : decode cX6_edgesIn 0 = .ok (.iconst 0, 1) := by decide +kernel
theorem dX6_edgesIn_1 : decode cX6_edgesIn 1 = .ok (.istore_n 2, 1) := by decide +kernel
theorem dX6_edgesIn_2 : decode cX6_edgesIn 2 = .ok (.iconst 0, 1) := by decide +kernel
theorem dX6_edgesIn_3 : decode cX6_edgesIn 3 = .ok (.istore_n 3, 1) := by decide +kernel
theorem dX6_edgesIn_4 : decode cX6_edgesIn 4 = .ok (.iload_n 3, 1) := by decide +kernel
theorem dX6_edgesIn_5 : decode cX6_edgesIn 5 = .ok (.aload_n 0, 1) := by decide +kernel
theorem dX6_edgesIn_6 : decode cX6_edgesIn 6 = .ok (.getfield 7, 3) := by decide +kernel
theorem dX6_edgesIn_9 : decode cX6_edgesIn 9 = .ok (.iconst 0, 1) := by decide +kernel
theorem dX6_edgesIn_10 : decode cX6_edgesIn 10 = .ok (.iaload, 1) := by decide +kernel
theorem dX6_edgesIn_11 : decode cX6_edgesIn 11 = .ok (.if_icmp .ge 39, 3) := by decide +kernel
theorem dX6_edgesIn_14 : decode cX6_edgesIn 14 = .ok (.iload_n 2, 1) := by decide +kernel
theorem dX6_edgesIn_15 : decode cX6_edgesIn 15 = .ok (.iload_n 1, 1) := by decide +kernel
theorem dX6_edgesIn_16 : decode cX6_edgesIn 16 = .ok (.iload_n 3, 1) := by decide +kernel
theorem dX6_edgesIn_17 : decode cX6_edgesIn 17 = .ok (.ishr, 1) := by decide +kernel
theorem dX6_edgesIn_18 : decode cX6_edgesIn 18 = .ok (.iconst 1, 1) := by decide +kernel
theorem dX6_edgesIn_19 : decode cX6_edgesIn 19 = .ok (.iand, 1) := by decide +kernel
theorem dX6_edgesIn_20 : decode cX6_edgesIn 20 = .ok (.iconst 1, 1) := by decide +kernel
theorem dX6_edgesIn_21 : decode cX6_edgesIn 21 = .ok (.if_icmp .ne 20, 3) := by decide +kernel
theorem dX6_edgesIn_24 : decode cX6_edgesIn 24 = .ok (.aload_n 0, 1) := by decide +kernel
theorem dX6_edgesIn_25 : decode cX6_edgesIn 25 = .ok (.getfield 7, 3) := by decide +kernel
theorem dX6_edgesIn_28 : decode cX6_edgesIn 28 = .ok (.bipush 13, 2) := by decide +kernel
theorem dX6_edgesIn_30 : decode cX6_edgesIn 30 = .ok (.iload_n 3, 1) := by decide +kernel
theorem dX6_edgesIn_31 : decode cX6_edgesIn 31 = .ok (.iadd, 1) := by decide +kernel
theorem dX6_edgesIn_32 : decode cX6_edgesIn 32 = .ok (.iaload, 1) := by decide +kernel
theorem dX6_edgesIn_33 : decode cX6_edgesIn 33 = .ok (.iload_n 1, 1) := by decide +kernel
theorem dX6_edgesIn_34 : decode cX6_edgesIn 34 = .ok (.iand, 1) := by decide +kernel
theorem dX6_edgesIn_35 : decode cX6_edgesIn 35 = .ok (.invokestatic 189, 3) := by decide +kernel
theorem dX6_edgesIn_38 : decode cX6_edgesIn 38 = .ok (.goto 4, 3) := by decide +kernel
theorem dX6_edgesIn_41 : decode cX6_edgesIn 41 = .ok (.iconst 0, 1) := by decide +kernel
theorem dX6_edgesIn_42 : decode cX6_edgesIn 42 = .ok (.iadd, 1) := by decide +kernel
theorem dX6_edgesIn_43 : decode cX6_edgesIn 43 = .ok (.istore_n 2, 1) := by decide +kernel
theorem dX6_edgesIn_44 : decode cX6_edgesIn 44 = .ok (.iinc 3 1, 3) := by decide +kernel
theorem dX6_edgesIn_47 : decode cX6_edgesIn 47 = .ok (.goto (-43), 3) := by decide +kernel
theorem dX6_edgesIn_50 : decode cX6_edgesIn 50 = .ok (.iload_n 2, 1) := by decide +kernel
theorem dX6_edgesIn_51 : decode cX6_edgesIn 51 = .ok (.iconst 2, 1) := by decide +kernel
theorem dX6_edgesIn_52 : decode cX6_edgesIn 52 = .ok (.idiv, 1) := by decide +kernel
theorem dX6_edgesIn_53 : decode cX6_edgesIn 53 = .ok (.ireturn, 1) := by decide +kernel
theorem dX6_count_0 : decode cX6_count 0 = .ok (.aload_n 0, 1) := by decide +kernel
theorem dX6_count_1 : decode cX6_count 1 = .ok (.iload_n 1, 1) := by decide +kernel
theorem dX6_count_2 : decode cX6_count 2 = .ok (.iconst 0, 1) := by decide +kernel
theorem dX6_count_3 : decode cX6_count 3 = .ok (.bipush 12, 2) := by decide +kernel
theorem dX6_count_5 : decode cX6_count 5 = .ok (.invokestatic 76, 3) := by decide +kernel
theorem dX6_count_8 : decode cX6_count 8 = .ok (.ifCond .eq 7, 3) := by decide +kernel
theorem dX6_count_11 : decode cX6_count 11 = .ok (.iconst 0, 1) := by decide +kernel
theorem dX6_count_12 : decode cX6_count 12 = .ok (.goto 4, 3) := by decide +kernel
theorem dX6_count_15 : decode cX6_count 15 = .ok (.iconst 1, 1) := by decide +kernel
theorem dX6_count_16 : decode cX6_count 16 = .ok (.putfield 47, 3) := by decide +kernel
theorem dX6_count_19 : decode cX6_count 19 = .ok (.aload_n 0, 1) := by decide +kernel
theorem dX6_count_20 : decode cX6_count 20 = .ok (.getfield 47, 3) := by decide +kernel
theorem dX6_count_23 : decode cX6_count 23 = .ok (.ifCond .le 5, 3) := by decide +kernel
theorem dX6_count_26 : decode cX6_count 26 = .ok (.iconst 0, 1) := by decide +kernel
theorem dX6_count_27 : decode cX6_count 27 = .ok (.ireturn, 1) := by decide +kernel
theorem dX6_count_28 : decode cX6_count 28 = .ok (.iload_n 1, 1) := by decide +kernel
theorem dX6_count_29 : decode cX6_count 29 = .ok (.tableswitch 169 0 11 #[63, 70, 85, 92, 99, 107, 116, 121, 128, 141, 159, 164], 63) := by decide +kernel
theorem dX6_count_92 : decode cX6_count 92 = .ok (.aload_n 0, 1) := by decide +kernel
theorem dX6_count_93 : decode cX6_count 93 = .ok (.getfield 7, 3) := by decide +kernel
theorem dX6_count_96 : decode cX6_count 96 = .ok (.iconst 0, 1) := by decide +kernel
theorem dX6_count_97 : decode cX6_count 97 = .ok (.iaload, 1) := by decide +kernel
theorem dX6_count_98 : decode cX6_count 98 = .ok (.ireturn, 1) := by decide +kernel
theorem dX6_count_99 : decode cX6_count 99 = .ok (.aload_n 0, 1) := by decide +kernel
theorem dX6_count_100 : decode cX6_count 100 = .ok (.iconst 1, 1) := by decide +kernel
theorem dX6_count_101 : decode cX6_count 101 = .ok (.aload_n 0, 1) := by decide +kernel
theorem dX6_count_102 : decode cX6_count 102 = .ok (.getfield 7, 3) := by decide +kernel
theorem dX6_count_105 : decode cX6_count 105 = .ok (.iconst 0, 1) := by decide +kernel
theorem dX6_count_106 : decode cX6_count 106 = .ok (.iaload, 1) := by decide +kernel
theorem dX6_count_107 : decode cX6_count 107 = .ok (.ishl, 1) := by decide +kernel
theorem dX6_count_108 : decode cX6_count 108 = .ok (.iconst 1, 1) := by decide +kernel
theorem dX6_count_109 : decode cX6_count 109 = .ok (.isub, 1) := by decide +kernel
theorem dX6_count_110 : decode cX6_count 110 = .ok (.invokevirtual 204, 3) := by decide +kernel
theorem dX6_count_113 : decode cX6_count 113 = .ok (.ireturn, 1) := by decide +kernel
theorem dX6_count_114 : decode cX6_count 114 = .ok (.aload_n 0, 1) := by decide +kernel
theorem dX6_count_115 : decode cX6_count 115 = .ok (.getfield 7, 3) := by decide +kernel
theorem dX6_count_118 : decode cX6_count 118 = .ok (.iconst 1, 1) := by decide +kernel
theorem dX6_count_119 : decode cX6_count 119 = .ok (.iaload, 1) := by decide +kernel
theorem dX6_count_120 : decode cX6_count 120 = .ok (.ireturn, 1) := by decide +kernel
theorem dX6_count_121 : decode cX6_count 121 = .ok (.aload_n 0, 1) := by decide +kernel
theorem dX6_count_122 : decode cX6_count 122 = .ok (.getfield 7, 3) := by decide +kernel
theorem dX6_count_125 : decode cX6_count 125 = .ok (.iconst 2, 1) := by decide +kernel
theorem dX6_count_126 : decode cX6_count 126 = .ok (.iaload, 1) := by decide +kernel
theorem dX6_count_127 : decode cX6_count 127 = .ok (.ireturn, 1) := by decide +kernel
theorem dX6_count_128 : decode cX6_count 128 = .ok (.aload_n 0, 1) := by decide +kernel
theorem dX6_count_129 : decode cX6_count 129 = .ok (.invokevirtual 180, 3) := by decide +kernel
theorem dX6_count_132 : decode cX6_count 132 = .ok (.invokestatic 189, 3) := by decide +kernel
theorem dX6_count_135 : decode cX6_count 135 = .ok (.ireturn, 1) := by decide +kernel
theorem dX6_count_136 : decode cX6_count 136 = .ok (.aload_n 0, 1) := by decide +kernel
theorem dX6_count_137 : decode cX6_count 137 = .ok (.aload_n 0, 1) := by decide +kernel
theorem dX6_count_138 : decode cX6_count 138 = .ok (.invokevirtual 180, 3) := by decide +kernel
theorem dX6_count_141 : decode cX6_count 141 = .ok (.invokevirtual 207, 3) := by decide +kernel
theorem dX6_count_144 : decode cX6_count 144 = .ok (.ireturn, 1) := by decide +kernel
theorem dX6_count_145 : decode cX6_count 145 = .ok (.aload_n 0, 1) := by decide +kernel
theorem dX6_count_146 : decode cX6_count 146 = .ok (.invokevirtual 210, 3) := by decide +kernel
theorem dX6_count_149 : decode cX6_count 149 = .ok (.ireturn, 1) := by decide +kernel
theorem dX6_count_150 : decode cX6_count 150 = .ok (.aload_n 0, 1) := by decide +kernel
theorem dX6_count_151 : decode cX6_count 151 = .ok (.getfield 7, 3) := by decide +kernel
theorem dX6_count_154 : decode cX6_count 154 = .ok (.iconst 3, 1) := by decide +kernel
theorem dX6_count_155 : decode cX6_count 155 = .ok (.iaload, 1) := by decide +kernel
theorem dX6_count_156 : decode cX6_count 156 = .ok (.ireturn, 1) := by decide +kernel
theorem dX6_count_157 : decode cX6_count 157 = .ok (.aload_n 0, 1) := by decide +kernel
theorem dX6_count_158 : decode cX6_count 158 = .ok (.invokevirtual 213, 3) := by decide +kernel
theorem dX6_count_161 : decode cX6_count 161 = .ok (.ifCond .eq 7, 3) := by decide +kernel
theorem dX6_count_164 : decode cX6_count 164 = .ok (.iconst 1, 1) := by decide +kernel
theorem dX6_count_165 : decode cX6_count 165 = .ok (.goto 4, 3) := by decide +kernel
theorem dX6_count_168 : decode cX6_count 168 = .ok (.iconst 0, 1) := by decide +kernel
theorem dX6_count_169 : decode cX6_count 169 = .ok (.ireturn, 1) := by decide +kernel
theorem dX6_count_170 : decode cX6_count 170 = .ok (.aload_n 0, 1) := by decide +kernel
theorem dX6_count_171 : decode cX6_count 171 = .ok (.invokevirtual 213, 3) := by decide +kernel
theorem dX6_count_174 : decode cX6_count 174 = .ok (.ifCond .eq 12, 3) := by decide +kernel
theorem dX6_count_177 : decode cX6_count 177 = .ok (.iconst 1, 1) := by decide +kernel
theorem dX6_count_178 : decode cX6_count 178 = .ok (.aload_n 0, 1) := by decide +kernel
theorem dX6_count_179 : decode cX6_count 179 = .ok (.invokevirtual 210, 3) := by decide +kernel
theorem dX6_count_182 : decode cX6_count 182 = .ok (.isub, 1) := by decide +kernel
theorem dX6_count_183 : decode cX6_count 183 = .ok (.goto 4, 3) := by decide +kernel
theorem dX6_count_186 : decode cX6_count 186 = .ok (.iconst (-1), 1) := by decide +kernel
theorem dX6_count_187 : decode cX6_count 187 = .ok (.ireturn, 1) := by decide +kernel
theorem dX6_count_188 : decode cX6_count 188 = .ok (.aload_n 0, 1) := by decide +kernel
theorem dX6_count_189 : decode cX6_count 189 = .ok (.invokevirtual 201, 3) := by decide +kernel
theorem dX6_count_192 : decode cX6_count 192 = .ok (.ireturn, 1) := by decide +kernel
theorem dX6_count_193 : decode cX6_count 193 = .ok (.aload_n 0, 1) := by decide +kernel
theorem dX6_count_194 : decode cX6_count 194 = .ok (.invokevirtual 217, 3) := by decide +kernel
theorem dX6_count_197 : decode cX6_count 197 = .ok (.ireturn, 1) := by decide +kernel
theorem dX6_count_198 : decode cX6_count 198 = .ok (.aload_n 0, 1) := by decide +kernel
theorem dX6_count_199 : decode cX6_count 199 = .ok (.getfield 7, 3) := by decide +kernel
theorem dX6_count_202 : decode cX6_count 202 = .ok (.iconst 2, 1) := by decide +kernel
theorem dX6_count_203 : decode cX6_count 203 = .ok (.iaload, 1) := by decide +kernel
theorem dX6_count_204 : decode cX6_count 204 = .ok (.iconst 2, 1) := by decide +kernel
theorem dX6_count_205 : decode cX6_count 205 = .ok (.irem, 1) := by decide +kernel
theorem dX6_count_206 : decode cX6_count 206 = .ok (.ireturn, 1) := by decide +kernel
theorem dX6_isVertex_0 : decode cX6_isVertex 0 = .ok (.iload_n 1, 1) := by decide +kernel
theorem dX6_isVertex_1 : decode cX6_isVertex 1 = .ok (.iconst 0, 1) := by decide +kernel
theorem dX6_isVertex_2 : decode cX6_isVertex 2 = .ok (.aload_n 0, 1) := by decide +kernel
theorem dX6_isVertex_3 : decode cX6_isVertex 3 = .ok (.getfield 7, 3) := by decide +kernel
theorem dX6_isVertex_6 : decode cX6_isVertex 6 = .ok (.iconst 0, 1) := by decide +kernel
theorem dX6_isVertex_7 : decode cX6_isVertex 7 = .ok (.iaload, 1) := by decide +kernel
theorem dX6_isVertex_8 : decode cX6_isVertex 8 = .ok (.iconst 1, 1) := by decide +kernel
theorem dX6_isVertex_9 : decode cX6_isVertex 9 = .ok (.isub, 1) := by decide +kernel
theorem dX6_isVertex_10 : decode cX6_isVertex 10 = .ok (.invokestatic 76, 3) := by decide +kernel
theorem dX6_isVertex_13 : decode cX6_isVertex 13 = .ok (.ireturn, 1) := by decide +kernel
theorem dX6_isColour_0 : decode cX6_isColour 0 = .ok (.iload_n 1, 1) := by decide +kernel
theorem dX6_isColour_1 : decode cX6_isColour 1 = .ok (.iconst 0, 1) := by decide +kernel
theorem dX6_isColour_2 : decode cX6_isColour 2 = .ok (.aload_n 0, 1) := by decide +kernel
theorem dX6_isColour_3 : decode cX6_isColour 3 = .ok (.getfield 7, 3) := by decide +kernel
theorem dX6_isColour_6 : decode cX6_isColour 6 = .ok (.iconst 1, 1) := by decide +kernel
theorem dX6_isColour_7 : decode cX6_isColour 7 = .ok (.iaload, 1) := by decide +kernel
theorem dX6_isColour_8 : decode cX6_isColour 8 = .ok (.iconst 1, 1) := by decide +kernel
theorem dX6_isColour_9 : decode cX6_isColour 9 = .ok (.isub, 1) := by decide +kernel
theorem dX6_isColour_10 : decode cX6_isColour 10 = .ok (.invokestatic 76, 3) := by decide +kernel
theorem dX6_isColour_13 : decode cX6_isColour 13 = .ok (.ireturn, 1) := by decide +kernel
theorem dX6_vertex_0 : decode cX6_vertex 0 = .ok (.aload_n 0, 1) := by decide +kernel
theorem dX6_vertex_1 : decode cX6_vertex 1 = .ok (.aload_n 0, 1) := by decide +kernel
theorem dX6_vertex_2 : decode cX6_vertex 2 = .ok (.iload_n 1, 1) := by decide +kernel
theorem dX6_vertex_3 : decode cX6_vertex 3 = .ok (.invokevirtual 220, 3) := by decide +kernel
theorem dX6_vertex_6 : decode cX6_vertex 6 = .ok (.ifCond .ne 7, 3) := by decide +kernel
theorem dX6_vertex_9 : decode cX6_vertex 9 = .ok (.iconst 1, 1) := by decide +kernel
theorem dX6_vertex_10 : decode cX6_vertex 10 = .ok (.goto 17, 3) := by decide +kernel
theorem dX6_vertex_13 : decode cX6_vertex 13 = .ok (.iload_n 2, 1) := by decide +kernel
theorem dX6_vertex_14 : decode cX6_vertex 14 = .ok (.iconst 0, 1) := by decide +kernel
theorem dX6_vertex_15 : decode cX6_vertex 15 = .ok (.iconst 5, 1) := by decide +kernel
theorem dX6_vertex_16 : decode cX6_vertex 16 = .ok (.invokestatic 76, 3) := by decide +kernel
theorem dX6_vertex_19 : decode cX6_vertex 19 = .ok (.ifCond .eq 7, 3) := by decide +kernel
theorem dX6_vertex_22 : decode cX6_vertex 22 = .ok (.iconst 0, 1) := by decide +kernel
theorem dX6_vertex_23 : decode cX6_vertex 23 = .ok (.goto 4, 3) := by decide +kernel
theorem dX6_vertex_26 : decode cX6_vertex 26 = .ok (.iconst 2, 1) := by decide +kernel
theorem dX6_vertex_27 : decode cX6_vertex 27 = .ok (.putfield 47, 3) := by decide +kernel
theorem dX6_vertex_30 : decode cX6_vertex 30 = .ok (.aload_n 0, 1) := by decide +kernel
theorem dX6_vertex_31 : decode cX6_vertex 31 = .ok (.getfield 47, 3) := by decide +kernel
theorem dX6_vertex_34 : decode cX6_vertex 34 = .ok (.ifCond .le 5, 3) := by decide +kernel
theorem dX6_vertex_37 : decode cX6_vertex 37 = .ok (.iconst 0, 1) := by decide +kernel
theorem dX6_vertex_38 : decode cX6_vertex 38 = .ok (.ireturn, 1) := by decide +kernel
theorem dX6_vertex_39 : decode cX6_vertex 39 = .ok (.iload_n 2, 1) := by decide +kernel
theorem dX6_vertex_40 : decode cX6_vertex 40 = .ok (.tableswitch 88 0 4 #[36, 42, 51, 57, 70], 36) := by decide +kernel
theorem dX6_vertex_76 : decode cX6_vertex 76 = .ok (.aload_n 0, 1) := by decide +kernel
theorem dX6_vertex_77 : decode cX6_vertex 77 = .ok (.iload_n 1, 1) := by decide +kernel
theorem dX6_vertex_78 : decode cX6_vertex 78 = .ok (.invokevirtual 183, 3) := by decide +kernel
theorem dX6_vertex_81 : decode cX6_vertex 81 = .ok (.ireturn, 1) := by decide +kernel
theorem dX6_vertex_82 : decode cX6_vertex 82 = .ok (.aload_n 0, 1) := by decide +kernel
theorem dX6_vertex_83 : decode cX6_vertex 83 = .ok (.getfield 7, 3) := by decide +kernel
theorem dX6_vertex_86 : decode cX6_vertex 86 = .ok (.iconst 4, 1) := by decide +kernel
theorem dX6_vertex_87 : decode cX6_vertex 87 = .ok (.iload_n 1, 1) := by decide +kernel
theorem dX6_vertex_88 : decode cX6_vertex 88 = .ok (.iadd, 1) := by decide +kernel
theorem dX6_vertex_89 : decode cX6_vertex 89 = .ok (.iaload, 1) := by decide +kernel
theorem dX6_vertex_90 : decode cX6_vertex 90 = .ok (.ireturn, 1) := by decide +kernel
theorem dX6_vertex_91 : decode cX6_vertex 91 = .ok (.aload_n 0, 1) := by decide +kernel
theorem dX6_vertex_92 : decode cX6_vertex 92 = .ok (.iload_n 1, 1) := by decide +kernel
theorem dX6_vertex_93 : decode cX6_vertex 93 = .ok (.invokevirtual 199, 3) := by decide +kernel
theorem dX6_vertex_96 : decode cX6_vertex 96 = .ok (.ireturn, 1) := by decide +kernel
theorem dX6_vertex_97 : decode cX6_vertex 97 = .ok (.aload_n 0, 1) := by decide +kernel
theorem dX6_vertex_98 : decode cX6_vertex 98 = .ok (.getfield 7, 3) := by decide +kernel
theorem dX6_vertex_101 : decode cX6_vertex 101 = .ok (.bipush 13, 2) := by decide +kernel
theorem dX6_vertex_103 : decode cX6_vertex 103 = .ok (.iload_n 1, 1) := by decide +kernel
theorem dX6_vertex_104 : decode cX6_vertex 104 = .ok (.iadd, 1) := by decide +kernel
theorem dX6_vertex_105 : decode cX6_vertex 105 = .ok (.iaload, 1) := by decide +kernel
theorem dX6_vertex_106 : decode cX6_vertex 106 = .ok (.invokestatic 189, 3) := by decide +kernel
theorem dX6_vertex_109 : decode cX6_vertex 109 = .ok (.ireturn, 1) := by decide +kernel
theorem dX6_vertex_110 : decode cX6_vertex 110 = .ok (.aload_n 0, 1) := by decide +kernel
theorem dX6_vertex_111 : decode cX6_vertex 111 = .ok (.iload_n 1, 1) := by decide +kernel
theorem dX6_vertex_112 : decode cX6_vertex 112 = .ok (.invokevirtual 170, 3) := by decide +kernel
theorem dX6_vertex_115 : decode cX6_vertex 115 = .ok (.ifCond .eq 11, 3) := by decide +kernel
theorem dX6_vertex_118 : decode cX6_vertex 118 = .ok (.aload_n 0, 1) := by decide +kernel
theorem dX6_vertex_119 : decode cX6_vertex 119 = .ok (.iload_n 1, 1) := by decide +kernel
theorem dX6_vertex_120 : decode cX6_vertex 120 = .ok (.invokevirtual 223, 3) := by decide +kernel
theorem dX6_vertex_123 : decode cX6_vertex 123 = .ok (.goto 4, 3) := by decide +kernel
theorem dX6_vertex_126 : decode cX6_vertex 126 = .ok (.iconst (-1), 1) := by decide +kernel
theorem dX6_vertex_127 : decode cX6_vertex 127 = .ok (.ireturn, 1) := by decide +kernel
theorem dX6_vertex_128 : decode cX6_vertex 128 = .ok (.aload_n 0, 1) := by decide +kernel
theorem dX6_vertex_129 : decode cX6_vertex 129 = .ok (.getfield 7, 3) := by decide +kernel
theorem dX6_vertex_132 : decode cX6_vertex 132 = .ok (.bipush 13, 2) := by decide +kernel
theorem dX6_vertex_134 : decode cX6_vertex 134 = .ok (.iload_n 1, 1) := by decide +kernel
theorem dX6_vertex_135 : decode cX6_vertex 135 = .ok (.iadd, 1) := by decide +kernel
theorem dX6_vertex_136 : decode cX6_vertex 136 = .ok (.iaload, 1) := by decide +kernel
theorem dX6_vertex_137 : decode cX6_vertex 137 = .ok (.aload_n 0, 1) := by decide +kernel
theorem dX6_vertex_138 : decode cX6_vertex 138 = .ok (.invokevirtual 180, 3) := by decide +kernel
theorem dX6_vertex_141 : decode cX6_vertex 141 = .ok (.iand, 1) := by decide +kernel
theorem dX6_vertex_142 : decode cX6_vertex 142 = .ok (.invokestatic 189, 3) := by decide +kernel
theorem dX6_vertex_145 : decode cX6_vertex 145 = .ok (.ireturn, 1) := by decide +kernel
theorem dX6_reason_0 : decode cX6_reason 0 = .ok (.aload_n 0, 1) := by decide +kernel
theorem dX6_reason_1 : decode cX6_reason 1 = .ok (.aload_n 0, 1) := by decide +kernel
theorem dX6_reason_2 : decode cX6_reason 2 = .ok (.iload_n 1, 1) := by decide +kernel
theorem dX6_reason_3 : decode cX6_reason 3 = .ok (.invokevirtual 220, 3) := by decide +kernel
theorem dX6_reason_6 : decode cX6_reason 6 = .ok (.ifCond .eq 15, 3) := by decide +kernel
theorem dX6_reason_9 : decode cX6_reason 9 = .ok (.aload_n 0, 1) := by decide +kernel
theorem dX6_reason_10 : decode cX6_reason 10 = .ok (.iload_n 2, 1) := by decide +kernel
theorem dX6_reason_11 : decode cX6_reason 11 = .ok (.invokevirtual 226, 3) := by decide +kernel
theorem dX6_reason_14 : decode cX6_reason 14 = .ok (.ifCond .eq 7, 3) := by decide +kernel
theorem dX6_reason_17 : decode cX6_reason 17 = .ok (.iconst 0, 1) := by decide +kernel
theorem dX6_reason_18 : decode cX6_reason 18 = .ok (.goto 4, 3) := by decide +kernel
theorem dX6_reason_21 : decode cX6_reason 21 = .ok (.iconst 1, 1) := by decide +kernel
theorem dX6_reason_22 : decode cX6_reason 22 = .ok (.putfield 47, 3) := by decide +kernel
theorem dX6_reason_25 : decode cX6_reason 25 = .ok (.aload_n 0, 1) := by decide +kernel
theorem dX6_reason_26 : decode cX6_reason 26 = .ok (.getfield 47, 3) := by decide +kernel
theorem dX6_reason_29 : decode cX6_reason 29 = .ok (.ifCond .le 7, 3) := by decide +kernel
theorem dX6_reason_32 : decode cX6_reason 32 = .ok (.iconst 0, 1) := by decide +kernel
theorem dX6_reason_33 : decode cX6_reason 33 = .ok (.goto 9, 3) := by decide +kernel
theorem dX6_reason_36 : decode cX6_reason 36 = .ok (.aload_n 0, 1) := by decide +kernel
theorem dX6_reason_37 : decode cX6_reason 37 = .ok (.iload_n 1, 1) := by decide +kernel
theorem dX6_reason_38 : decode cX6_reason 38 = .ok (.iload_n 2, 1) := by decide +kernel
theorem dX6_reason_39 : decode cX6_reason 39 = .ok (.invokevirtual 127, 3) := by decide +kernel
theorem dX6_reason_42 : decode cX6_reason 42 = .ok (.ireturn, 1) := by decide +kernel
theorem dX6_forgets_0 : decode cX6_forgets 0 = .ok (.iconst 0, 1) := by decide +kernel
theorem dX6_forgets_1 : decode cX6_forgets 1 = .ok (.istore_n 1, 1) := by decide +kernel
theorem dX6_forgets_2 : decode cX6_forgets 2 = .ok (.iload_n 1, 1) := by decide +kernel
theorem dX6_forgets_3 : decode cX6_forgets 3 = .ok (.ldc 37, 2) := by decide +kernel
theorem dX6_forgets_5 : decode cX6_forgets 5 = .ok (.if_icmp .ge 16, 3) := by decide +kernel
theorem dX6_forgets_8 : decode cX6_forgets 8 = .ok (.aload_n 0, 1) := by decide +kernel
theorem dX6_forgets_9 : decode cX6_forgets 9 = .ok (.getfield 38, 3) := by decide +kernel
theorem dX6_forgets_12 : decode cX6_forgets 12 = .ok (.iload_n 1, 1) := by decide +kernel
theorem dX6_forgets_13 : decode cX6_forgets 13 = .ok (.iconst (-1), 1) := by decide +kernel
theorem dX6_forgets_14 : decode cX6_forgets 14 = .ok (.iastore, 1) := by decide +kernel
theorem dX6_forgets_15 : decode cX6_forgets 15 = .ok (.iinc 1 1, 3) := by decide +kernel
theorem dX6_forgets_18 : decode cX6_forgets 18 = .ok (.goto (-16), 3) := by decide +kernel
theorem dX6_forgets_21 : decode cX6_forgets 21 = .ok (.return_, 1) := by decide +kernel
theorem dX6_placeOf_0 : decode cX6_placeOf 0 = .ok (.iconst 0, 1) := by decide +kernel
theorem dX6_placeOf_1 : decode cX6_placeOf 1 = .ok (.istore_n 3, 1) := by decide +kernel
theorem dX6_placeOf_2 : decode cX6_placeOf 2 = .ok (.aload_n 0, 1) := by decide +kernel
theorem dX6_placeOf_3 : decode cX6_placeOf 3 = .ok (.getfield 7, 3) := by decide +kernel
theorem dX6_placeOf_6 : decode cX6_placeOf 6 = .ok (.iconst 0, 1) := by decide +kernel
theorem dX6_placeOf_7 : decode cX6_placeOf 7 = .ok (.iaload, 1) := by decide +kernel
theorem dX6_placeOf_8 : decode cX6_placeOf 8 = .ok (.iconst 1, 1) := by decide +kernel
theorem dX6_placeOf_9 : decode cX6_placeOf 9 = .ok (.isub, 1) := by decide +kernel
theorem dX6_placeOf_10 : decode cX6_placeOf 10 = .ok (.istore 4, 2) := by decide +kernel
theorem dX6_placeOf_12 : decode cX6_placeOf 12 = .ok (.iload 4, 2) := by decide +kernel
theorem dX6_placeOf_14 : decode cX6_placeOf 14 = .ok (.ifCond .lt 97, 3) := by decide +kernel
theorem dX6_placeOf_17 : decode cX6_placeOf 17 = .ok (.iload_n 1, 1) := by decide +kernel
theorem dX6_placeOf_18 : decode cX6_placeOf 18 = .ok (.iload 4, 2) := by decide +kernel
theorem dX6_placeOf_20 : decode cX6_placeOf 20 = .ok (.ishr, 1) := by decide +kernel
theorem dX6_placeOf_21 : decode cX6_placeOf 21 = .ok (.iconst 1, 1) := by decide +kernel
theorem dX6_placeOf_22 : decode cX6_placeOf 22 = .ok (.iand, 1) := by decide +kernel
theorem dX6_placeOf_23 : decode cX6_placeOf 23 = .ok (.iconst 1, 1) := by decide +kernel
theorem dX6_placeOf_24 : decode cX6_placeOf 24 = .ok (.if_icmp .ne 7, 3) := by decide +kernel
theorem dX6_placeOf_27 : decode cX6_placeOf 27 = .ok (.iconst 1, 1) := by decide +kernel
theorem dX6_placeOf_28 : decode cX6_placeOf 28 = .ok (.goto 4, 3) := by decide +kernel
theorem dX6_placeOf_31 : decode cX6_placeOf 31 = .ok (.iconst 0, 1) := by decide +kernel
theorem dX6_placeOf_32 : decode cX6_placeOf 32 = .ok (.istore 5, 2) := by decide +kernel
theorem dX6_placeOf_34 : decode cX6_placeOf 34 = .ok (.aload_n 0, 1) := by decide +kernel
theorem dX6_placeOf_35 : decode cX6_placeOf 35 = .ok (.iload 4, 2) := by decide +kernel
theorem dX6_placeOf_37 : decode cX6_placeOf 37 = .ok (.invokevirtual 170, 3) := by decide +kernel
theorem dX6_placeOf_40 : decode cX6_placeOf 40 = .ok (.ifCond .ne 22, 3) := by decide +kernel
theorem dX6_placeOf_43 : decode cX6_placeOf 43 = .ok (.aload_n 0, 1) := by decide +kernel
theorem dX6_placeOf_44 : decode cX6_placeOf 44 = .ok (.getfield 7, 3) := by decide +kernel
theorem dX6_placeOf_47 : decode cX6_placeOf 47 = .ok (.bipush 13, 2) := by decide +kernel
theorem dX6_placeOf_49 : decode cX6_placeOf 49 = .ok (.iload 4, 2) := by decide +kernel
theorem dX6_placeOf_51 : decode cX6_placeOf 51 = .ok (.iadd, 1) := by decide +kernel
theorem dX6_placeOf_52 : decode cX6_placeOf 52 = .ok (.iaload, 1) := by decide +kernel
theorem dX6_placeOf_53 : decode cX6_placeOf 53 = .ok (.iload_n 1, 1) := by decide +kernel
theorem dX6_placeOf_54 : decode cX6_placeOf 54 = .ok (.iand, 1) := by decide +kernel
theorem dX6_placeOf_55 : decode cX6_placeOf 55 = .ok (.ifCond .eq 7, 3) := by decide +kernel
theorem dX6_placeOf_58 : decode cX6_placeOf 58 = .ok (.iconst 1, 1) := by decide +kernel
theorem dX6_placeOf_59 : decode cX6_placeOf 59 = .ok (.goto 4, 3) := by decide +kernel
theorem dX6_placeOf_62 : decode cX6_placeOf 62 = .ok (.iconst 0, 1) := by decide +kernel
theorem dX6_placeOf_63 : decode cX6_placeOf 63 = .ok (.istore 6, 2) := by decide +kernel
theorem dX6_placeOf_65 : decode cX6_placeOf 65 = .ok (.iload_n 3, 1) := by decide +kernel
theorem dX6_placeOf_66 : decode cX6_placeOf 66 = .ok (.aload_n 0, 1) := by decide +kernel
theorem dX6_placeOf_67 : decode cX6_placeOf 67 = .ok (.getfield 7, 3) := by decide +kernel
theorem dX6_placeOf_70 : decode cX6_placeOf 70 = .ok (.iconst 1, 1) := by decide +kernel
theorem dX6_placeOf_71 : decode cX6_placeOf 71 = .ok (.iaload, 1) := by decide +kernel
theorem dX6_placeOf_72 : decode cX6_placeOf 72 = .ok (.iconst 1, 1) := by decide +kernel
theorem dX6_placeOf_73 : decode cX6_placeOf 73 = .ok (.iadd, 1) := by decide +kernel
theorem dX6_placeOf_74 : decode cX6_placeOf 74 = .ok (.imul, 1) := by decide +kernel
theorem dX6_placeOf_75 : decode cX6_placeOf 75 = .ok (.iload 5, 2) := by decide +kernel
theorem dX6_placeOf_77 : decode cX6_placeOf 77 = .ok (.ifCond .eq 7, 3) := by decide +kernel
theorem dX6_placeOf_80 : decode cX6_placeOf 80 = .ok (.iconst 0, 1) := by decide +kernel
theorem dX6_placeOf_81 : decode cX6_placeOf 81 = .ok (.goto 22, 3) := by decide +kernel
theorem dX6_placeOf_84 : decode cX6_placeOf 84 = .ok (.iload 6, 2) := by decide +kernel
theorem dX6_placeOf_86 : decode cX6_placeOf 86 = .ok (.ifCond .eq 16, 3) := by decide +kernel
theorem dX6_placeOf_89 : decode cX6_placeOf 89 = .ok (.aload_n 0, 1) := by decide +kernel
theorem dX6_placeOf_90 : decode cX6_placeOf 90 = .ok (.getfield 7, 3) := by decide +kernel
theorem dX6_placeOf_93 : decode cX6_placeOf 93 = .ok (.bipush 22, 2) := by decide +kernel
theorem dX6_placeOf_95 : decode cX6_placeOf 95 = .ok (.iload 4, 2) := by decide +kernel
theorem dX6_placeOf_97 : decode cX6_placeOf 97 = .ok (.iadd, 1) := by decide +kernel
theorem dX6_placeOf_98 : decode cX6_placeOf 98 = .ok (.iaload, 1) := by decide +kernel
theorem dX6_placeOf_99 : decode cX6_placeOf 99 = .ok (.goto 4, 3) := by decide +kernel
theorem dX6_placeOf_102 : decode cX6_placeOf 102 = .ok (.iconst 1, 1) := by decide +kernel
theorem dX6_placeOf_103 : decode cX6_placeOf 103 = .ok (.iadd, 1) := by decide +kernel
theorem dX6_placeOf_104 : decode cX6_placeOf 104 = .ok (.istore_n 3, 1) := by decide +kernel
theorem dX6_placeOf_105 : decode cX6_placeOf 105 = .ok (.iinc 4 (-1), 3) := by decide +kernel
theorem dX6_placeOf_108 : decode cX6_placeOf 108 = .ok (.goto (-96), 3) := by decide +kernel
theorem dX6_placeOf_111 : decode cX6_placeOf 111 = .ok (.iload_n 3, 1) := by decide +kernel
theorem dX6_placeOf_112 : decode cX6_placeOf 112 = .ok (.aload_n 0, 1) := by decide +kernel
theorem dX6_placeOf_113 : decode cX6_placeOf 113 = .ok (.getfield 7, 3) := by decide +kernel
theorem dX6_placeOf_116 : decode cX6_placeOf 116 = .ok (.iconst 1, 1) := by decide +kernel
theorem dX6_placeOf_117 : decode cX6_placeOf 117 = .ok (.iaload, 1) := by decide +kernel
theorem dX6_placeOf_118 : decode cX6_placeOf 118 = .ok (.iconst 1, 1) := by decide +kernel
theorem dX6_placeOf_119 : decode cX6_placeOf 119 = .ok (.iadd, 1) := by decide +kernel
theorem dX6_placeOf_120 : decode cX6_placeOf 120 = .ok (.imul, 1) := by decide +kernel
theorem dX6_placeOf_121 : decode cX6_placeOf 121 = .ok (.iload_n 2, 1) := by decide +kernel
theorem dX6_placeOf_122 : decode cX6_placeOf 122 = .ok (.iadd, 1) := by decide +kernel
theorem dX6_placeOf_123 : decode cX6_placeOf 123 = .ok (.iconst 1, 1) := by decide +kernel
theorem dX6_placeOf_124 : decode cX6_placeOf 124 = .ok (.iadd, 1) := by decide +kernel
theorem dX6_placeOf_125 : decode cX6_placeOf 125 = .ok (.ireturn, 1) := by decide +kernel
theorem dX6_together_0 : decode cX6_together 0 = .ok (.iconst 0, 1) := by decide +kernel
theorem dX6_together_1 : decode cX6_together 1 = .ok (.istore_n 3, 1) := by decide +kernel
theorem dX6_together_2 : decode cX6_together 2 = .ok (.iconst 0, 1) := by decide +kernel
theorem dX6_together_3 : decode cX6_together 3 = .ok (.istore 4, 2) := by decide +kernel
theorem dX6_together_5 : decode cX6_together 5 = .ok (.iconst 0, 1) := by decide +kernel
theorem dX6_together_6 : decode cX6_together 6 = .ok (.istore 5, 2) := by decide +kernel
theorem dX6_together_8 : decode cX6_together 8 = .ok (.iload_n 1, 1) := by decide +kernel
theorem dX6_together_9 : decode cX6_together 9 = .ok (.istore 6, 2) := by decide +kernel
theorem dX6_together_11 : decode cX6_together 11 = .ok (.iload 6, 2) := by decide +kernel
theorem dX6_together_13 : decode cX6_together 13 = .ok (.ifCond .le 66, 3) := by decide +kernel
theorem dX6_together_16 : decode cX6_together 16 = .ok (.aload_n 0, 1) := by decide +kernel
theorem dX6_together_17 : decode cX6_together 17 = .ok (.iload 6, 2) := by decide +kernel
theorem dX6_together_19 : decode cX6_together 19 = .ok (.invokestatic 174, 3) := by decide +kernel
theorem dX6_together_22 : decode cX6_together 22 = .ok (.iload_n 1, 1) := by decide +kernel
theorem dX6_together_23 : decode cX6_together 23 = .ok (.invokevirtual 177, 3) := by decide +kernel
theorem dX6_together_26 : decode cX6_together 26 = .ok (.istore 7, 2) := by decide +kernel
theorem dX6_together_28 : decode cX6_together 28 = .ok (.aload_n 0, 1) := by decide +kernel
theorem dX6_together_29 : decode cX6_together 29 = .ok (.iload 7, 2) := by decide +kernel
theorem dX6_together_31 : decode cX6_together 31 = .ok (.iload_n 2, 1) := by decide +kernel
theorem dX6_together_32 : decode cX6_together 32 = .ok (.invokevirtual 229, 3) := by decide +kernel
theorem dX6_together_35 : decode cX6_together 35 = .ok (.istore 8, 2) := by decide +kernel
theorem dX6_together_37 : decode cX6_together 37 = .ok (.iload_n 3, 1) := by decide +kernel
theorem dX6_together_38 : decode cX6_together 38 = .ok (.iload 8, 2) := by decide +kernel
theorem dX6_together_40 : decode cX6_together 40 = .ok (.bipush 31, 2) := by decide +kernel
theorem dX6_together_42 : decode cX6_together 42 = .ok (.iand, 1) := by decide +kernel
theorem dX6_together_43 : decode cX6_together 43 = .ok (.ixor, 1) := by decide +kernel
theorem dX6_together_44 : decode cX6_together 44 = .ok (.istore_n 3, 1) := by decide +kernel
theorem dX6_together_45 : decode cX6_together 45 = .ok (.iload 4, 2) := by decide +kernel
theorem dX6_together_47 : decode cX6_together 47 = .ok (.iload 8, 2) := by decide +kernel
theorem dX6_together_49 : decode cX6_together 49 = .ok (.iconst 5, 1) := by decide +kernel
theorem dX6_together_50 : decode cX6_together 50 = .ok (.ishr, 1) := by decide +kernel
theorem dX6_together_51 : decode cX6_together 51 = .ok (.bipush 31, 2) := by decide +kernel
theorem dX6_together_53 : decode cX6_together 53 = .ok (.iand, 1) := by decide +kernel
theorem dX6_together_54 : decode cX6_together 54 = .ok (.iadd, 1) := by decide +kernel
theorem dX6_together_55 : decode cX6_together 55 = .ok (.istore 4, 2) := by decide +kernel
theorem dX6_together_57 : decode cX6_together 57 = .ok (.iload 5, 2) := by decide +kernel
theorem dX6_together_59 : decode cX6_together 59 = .ok (.iload 8, 2) := by decide +kernel
theorem dX6_together_61 : decode cX6_together 61 = .ok (.bipush 10, 2) := by decide +kernel
theorem dX6_together_63 : decode cX6_together 63 = .ok (.ishr, 1) := by decide +kernel
theorem dX6_together_64 : decode cX6_together 64 = .ok (.iadd, 1) := by decide +kernel
theorem dX6_together_65 : decode cX6_together 65 = .ok (.istore 5, 2) := by decide +kernel
theorem dX6_together_67 : decode cX6_together 67 = .ok (.iload 6, 2) := by decide +kernel
theorem dX6_together_69 : decode cX6_together 69 = .ok (.iload 7, 2) := by decide +kernel
theorem dX6_together_71 : decode cX6_together 71 = .ok (.iconst (-1), 1) := by decide +kernel
theorem dX6_together_72 : decode cX6_together 72 = .ok (.ixor, 1) := by decide +kernel
theorem dX6_together_73 : decode cX6_together 73 = .ok (.iand, 1) := by decide +kernel
theorem dX6_together_74 : decode cX6_together 74 = .ok (.istore 6, 2) := by decide +kernel
theorem dX6_together_76 : decode cX6_together 76 = .ok (.goto (-65), 3) := by decide +kernel
theorem dX6_together_79 : decode cX6_together 79 = .ok (.iload_n 3, 1) := by decide +kernel
theorem dX6_together_80 : decode cX6_together 80 = .ok (.iload 4, 2) := by decide +kernel
theorem dX6_together_82 : decode cX6_together 82 = .ok (.iconst 5, 1) := by decide +kernel
theorem dX6_together_83 : decode cX6_together 83 = .ok (.ishl, 1) := by decide +kernel
theorem dX6_together_84 : decode cX6_together 84 = .ok (.ior, 1) := by decide +kernel
theorem dX6_together_85 : decode cX6_together 85 = .ok (.iload 5, 2) := by decide +kernel
theorem dX6_together_87 : decode cX6_together 87 = .ok (.bipush 10, 2) := by decide +kernel
theorem dX6_together_89 : decode cX6_together 89 = .ok (.ishl, 1) := by decide +kernel
theorem dX6_together_90 : decode cX6_together 90 = .ok (.ior, 1) := by decide +kernel
theorem dX6_together_91 : decode cX6_together 91 = .ok (.ireturn, 1) := by decide +kernel
theorem dX6_knownOf_0 : decode cX6_knownOf 0 = .ok (.aload_n 0, 1) := by decide +kernel
theorem dX6_knownOf_1 : decode cX6_knownOf 1 = .ok (.iload_n 1, 1) := by decide +kernel
theorem dX6_knownOf_2 : decode cX6_knownOf 2 = .ok (.iload_n 2, 1) := by decide +kernel
theorem dX6_knownOf_3 : decode cX6_knownOf 3 = .ok (.invokevirtual 232, 3) := by decide +kernel
theorem dX6_knownOf_6 : decode cX6_knownOf 6 = .ok (.istore_n 3, 1) := by decide +kernel
theorem dX6_knownOf_7 : decode cX6_knownOf 7 = .ok (.aload_n 0, 1) := by decide +kernel
theorem dX6_knownOf_8 : decode cX6_knownOf 8 = .ok (.getfield 38, 3) := by decide +kernel
theorem dX6_knownOf_11 : decode cX6_knownOf 11 = .ok (.iload_n 3, 1) := by decide +kernel
theorem dX6_knownOf_12 : decode cX6_knownOf 12 = .ok (.iaload, 1) := by decide +kernel
theorem dX6_knownOf_13 : decode cX6_knownOf 13 = .ok (.iconst (-1), 1) := by decide +kernel
theorem dX6_knownOf_14 : decode cX6_knownOf 14 = .ok (.if_icmp .eq 10, 3) := by decide +kernel
theorem dX6_knownOf_17 : decode cX6_knownOf 17 = .ok (.aload_n 0, 1) := by decide +kernel
theorem dX6_knownOf_18 : decode cX6_knownOf 18 = .ok (.getfield 38, 3) := by decide +kernel
theorem dX6_knownOf_21 : decode cX6_knownOf 21 = .ok (.iload_n 3, 1) := by decide +kernel
theorem dX6_knownOf_22 : decode cX6_knownOf 22 = .ok (.iaload, 1) := by decide +kernel
theorem dX6_knownOf_23 : decode cX6_knownOf 23 = .ok (.ireturn, 1) := by decide +kernel
theorem dX6_knownOf_24 : decode cX6_knownOf 24 = .ok (.iconst 0, 1) := by decide +kernel
theorem dX6_knownOf_25 : decode cX6_knownOf 25 = .ok (.istore 4, 2) := by decide +kernel
theorem dX6_knownOf_27 : decode cX6_knownOf 27 = .ok (.iconst 0, 1) := by decide +kernel
theorem dX6_knownOf_28 : decode cX6_knownOf 28 = .ok (.istore 5, 2) := by decide +kernel
theorem dX6_knownOf_30 : decode cX6_knownOf 30 = .ok (.iconst (-1), 1) := by decide +kernel
theorem dX6_knownOf_31 : decode cX6_knownOf 31 = .ok (.istore 6, 2) := by decide +kernel
theorem dX6_knownOf_33 : decode cX6_knownOf 33 = .ok (.iconst 0, 1) := by decide +kernel
theorem dX6_knownOf_34 : decode cX6_knownOf 34 = .ok (.istore 7, 2) := by decide +kernel
theorem dX6_knownOf_36 : decode cX6_knownOf 36 = .ok (.iload 7, 2) := by decide +kernel
theorem dX6_knownOf_38 : decode cX6_knownOf 38 = .ok (.aload_n 0, 1) := by decide +kernel
theorem dX6_knownOf_39 : decode cX6_knownOf 39 = .ok (.getfield 7, 3) := by decide +kernel
theorem dX6_knownOf_42 : decode cX6_knownOf 42 = .ok (.iconst 0, 1) := by decide +kernel
theorem dX6_knownOf_43 : decode cX6_knownOf 43 = .ok (.iaload, 1) := by decide +kernel
theorem dX6_knownOf_44 : decode cX6_knownOf 44 = .ok (.if_icmp .ge 177, 3) := by decide +kernel
theorem dX6_knownOf_47 : decode cX6_knownOf 47 = .ok (.iload_n 1, 1) := by decide +kernel
theorem dX6_knownOf_48 : decode cX6_knownOf 48 = .ok (.iload 7, 2) := by decide +kernel
theorem dX6_knownOf_50 : decode cX6_knownOf 50 = .ok (.ishr, 1) := by decide +kernel
theorem dX6_knownOf_51 : decode cX6_knownOf 51 = .ok (.iconst 1, 1) := by decide +kernel
theorem dX6_knownOf_52 : decode cX6_knownOf 52 = .ok (.iand, 1) := by decide +kernel
theorem dX6_knownOf_53 : decode cX6_knownOf 53 = .ok (.iconst 1, 1) := by decide +kernel
theorem dX6_knownOf_54 : decode cX6_knownOf 54 = .ok (.if_icmp .ne 14, 3) := by decide +kernel
theorem dX6_knownOf_57 : decode cX6_knownOf 57 = .ok (.aload_n 0, 1) := by decide +kernel
theorem dX6_knownOf_58 : decode cX6_knownOf 58 = .ok (.iload 7, 2) := by decide +kernel
theorem dX6_knownOf_60 : decode cX6_knownOf 60 = .ok (.iload_n 1, 1) := by decide +kernel
theorem dX6_knownOf_61 : decode cX6_knownOf 61 = .ok (.iload_n 2, 1) := by decide +kernel
theorem dX6_knownOf_62 : decode cX6_knownOf 62 = .ok (.invokevirtual 195, 3) := by decide +kernel
theorem dX6_knownOf_65 : decode cX6_knownOf 65 = .ok (.goto 4, 3) := by decide +kernel
theorem dX6_knownOf_68 : decode cX6_knownOf 68 = .ok (.iconst 0, 1) := by decide +kernel
theorem dX6_knownOf_69 : decode cX6_knownOf 69 = .ok (.istore 8, 2) := by decide +kernel
theorem dX6_knownOf_71 : decode cX6_knownOf 71 = .ok (.iconst 0, 1) := by decide +kernel
theorem dX6_knownOf_72 : decode cX6_knownOf 72 = .ok (.istore 9, 2) := by decide +kernel
theorem dX6_knownOf_74 : decode cX6_knownOf 74 = .ok (.iload 9, 2) := by decide +kernel
theorem dX6_knownOf_76 : decode cX6_knownOf 76 = .ok (.aload_n 0, 1) := by decide +kernel
theorem dX6_knownOf_77 : decode cX6_knownOf 77 = .ok (.getfield 7, 3) := by decide +kernel
theorem dX6_knownOf_80 : decode cX6_knownOf 80 = .ok (.iconst 1, 1) := by decide +kernel
theorem dX6_knownOf_81 : decode cX6_knownOf 81 = .ok (.iaload, 1) := by decide +kernel
theorem dX6_knownOf_82 : decode cX6_knownOf 82 = .ok (.if_icmp .ge 133, 3) := by decide +kernel
theorem dX6_knownOf_85 : decode cX6_knownOf 85 = .ok (.iload 8, 2) := by decide +kernel
theorem dX6_knownOf_87 : decode cX6_knownOf 87 = .ok (.iload 9, 2) := by decide +kernel
theorem dX6_knownOf_89 : decode cX6_knownOf 89 = .ok (.ishr, 1) := by decide +kernel
theorem dX6_knownOf_90 : decode cX6_knownOf 90 = .ok (.iconst 1, 1) := by decide +kernel
theorem dX6_knownOf_91 : decode cX6_knownOf 91 = .ok (.iand, 1) := by decide +kernel
theorem dX6_knownOf_92 : decode cX6_knownOf 92 = .ok (.ifCond .ne 6, 3) := by decide +kernel
theorem dX6_knownOf_95 : decode cX6_knownOf 95 = .ok (.goto 114, 3) := by decide +kernel
theorem dX6_knownOf_98 : decode cX6_knownOf 98 = .ok (.aload_n 0, 1) := by decide +kernel
theorem dX6_knownOf_99 : decode cX6_knownOf 99 = .ok (.getfield 7, 3) := by decide +kernel
theorem dX6_knownOf_102 : decode cX6_knownOf 102 = .ok (.bipush 22, 2) := by decide +kernel
theorem dX6_knownOf_104 : decode cX6_knownOf 104 = .ok (.iload 7, 2) := by decide +kernel
theorem dX6_knownOf_106 : decode cX6_knownOf 106 = .ok (.iadd, 1) := by decide +kernel
theorem dX6_knownOf_107 : decode cX6_knownOf 107 = .ok (.iload 9, 2) := by decide +kernel
theorem dX6_knownOf_109 : decode cX6_knownOf 109 = .ok (.iconst 1, 1) := by decide +kernel
theorem dX6_knownOf_110 : decode cX6_knownOf 110 = .ok (.iadd, 1) := by decide +kernel
theorem dX6_knownOf_111 : decode cX6_knownOf 111 = .ok (.iastore, 1) := by decide +kernel
theorem dX6_knownOf_112 : decode cX6_knownOf 112 = .ok (.aload_n 0, 1) := by decide +kernel
theorem dX6_knownOf_113 : decode cX6_knownOf 113 = .ok (.iload_n 1, 1) := by decide +kernel
theorem dX6_knownOf_114 : decode cX6_knownOf 114 = .ok (.iconst 1, 1) := by decide +kernel
theorem dX6_knownOf_115 : decode cX6_knownOf 115 = .ok (.iload 7, 2) := by decide +kernel
theorem dX6_knownOf_117 : decode cX6_knownOf 117 = .ok (.ishl, 1) := by decide +kernel
theorem dX6_knownOf_118 : decode cX6_knownOf 118 = .ok (.iconst (-1), 1) := by decide +kernel
theorem dX6_knownOf_119 : decode cX6_knownOf 119 = .ok (.ixor, 1) := by decide +kernel
theorem dX6_knownOf_120 : decode cX6_knownOf 120 = .ok (.iand, 1) := by decide +kernel
theorem dX6_knownOf_121 : decode cX6_knownOf 121 = .ok (.iload 9, 2) := by decide +kernel
theorem dX6_knownOf_123 : decode cX6_knownOf 123 = .ok (.invokevirtual 235, 3) := by decide +kernel
theorem dX6_knownOf_126 : decode cX6_knownOf 126 = .ok (.istore 10, 2) := by decide +kernel
theorem dX6_knownOf_128 : decode cX6_knownOf 128 = .ok (.aload_n 0, 1) := by decide +kernel
theorem dX6_knownOf_129 : decode cX6_knownOf 129 = .ok (.getfield 7, 3) := by decide +kernel
theorem dX6_knownOf_132 : decode cX6_knownOf 132 = .ok (.bipush 22, 2) := by decide +kernel
theorem dX6_knownOf_134 : decode cX6_knownOf 134 = .ok (.iload 7, 2) := by decide +kernel
theorem dX6_knownOf_136 : decode cX6_knownOf 136 = .ok (.iadd, 1) := by decide +kernel
theorem dX6_knownOf_137 : decode cX6_knownOf 137 = .ok (.iconst 0, 1) := by decide +kernel
theorem dX6_knownOf_138 : decode cX6_knownOf 138 = .ok (.iastore, 1) := by decide +kernel
theorem dX6_knownOf_139 : decode cX6_knownOf 139 = .ok (.iload 4, 2) := by decide +kernel
theorem dX6_knownOf_141 : decode cX6_knownOf 141 = .ok (.iconst 1, 1) := by decide +kernel
theorem dX6_knownOf_142 : decode cX6_knownOf 142 = .ok (.iload 10, 2) := by decide +kernel
theorem dX6_knownOf_144 : decode cX6_knownOf 144 = .ok (.bipush 31, 2) := by decide +kernel
theorem dX6_knownOf_146 : decode cX6_knownOf 146 = .ok (.iand, 1) := by decide +kernel
theorem dX6_knownOf_147 : decode cX6_knownOf 147 = .ok (.ishl, 1) := by decide +kernel
theorem dX6_knownOf_148 : decode cX6_knownOf 148 = .ok (.ior, 1) := by decide +kernel
theorem dX6_knownOf_149 : decode cX6_knownOf 149 = .ok (.istore 4, 2) := by decide +kernel
theorem dX6_knownOf_151 : decode cX6_knownOf 151 = .ok (.iconst 1, 1) := by decide +kernel
theorem dX6_knownOf_152 : decode cX6_knownOf 152 = .ok (.iload 10, 2) := by decide +kernel
theorem dX6_knownOf_154 : decode cX6_knownOf 154 = .ok (.iconst 5, 1) := by decide +kernel
theorem dX6_knownOf_155 : decode cX6_knownOf 155 = .ok (.ishr, 1) := by decide +kernel
theorem dX6_knownOf_156 : decode cX6_knownOf 156 = .ok (.bipush 31, 2) := by decide +kernel
theorem dX6_knownOf_158 : decode cX6_knownOf 158 = .ok (.iand, 1) := by decide +kernel
theorem dX6_knownOf_159 : decode cX6_knownOf 159 = .ok (.iadd, 1) := by decide +kernel
theorem dX6_knownOf_160 : decode cX6_knownOf 160 = .ok (.istore 11, 2) := by decide +kernel
theorem dX6_knownOf_162 : decode cX6_knownOf 162 = .ok (.iconst 1, 1) := by decide +kernel
theorem dX6_knownOf_163 : decode cX6_knownOf 163 = .ok (.iload 10, 2) := by decide +kernel
theorem dX6_knownOf_165 : decode cX6_knownOf 165 = .ok (.bipush 10, 2) := by decide +kernel
theorem dX6_knownOf_167 : decode cX6_knownOf 167 = .ok (.ishr, 1) := by decide +kernel
theorem dX6_knownOf_168 : decode cX6_knownOf 168 = .ok (.iadd, 1) := by decide +kernel
theorem dX6_knownOf_169 : decode cX6_knownOf 169 = .ok (.istore 12, 2) := by decide +kernel
theorem dX6_knownOf_171 : decode cX6_knownOf 171 = .ok (.iload 11, 2) := by decide +kernel
theorem dX6_knownOf_173 : decode cX6_knownOf 173 = .ok (.iload 5, 2) := by decide +kernel
theorem dX6_knownOf_175 : decode cX6_knownOf 175 = .ok (.if_icmp .le 8, 3) := by decide +kernel
theorem dX6_knownOf_178 : decode cX6_knownOf 178 = .ok (.iload 11, 2) := by decide +kernel
theorem dX6_knownOf_180 : decode cX6_knownOf 180 = .ok (.goto 5, 3) := by decide +kernel
theorem dX6_knownOf_183 : decode cX6_knownOf 183 = .ok (.iload 5, 2) := by decide +kernel
theorem dX6_knownOf_185 : decode cX6_knownOf 185 = .ok (.istore 5, 2) := by decide +kernel
theorem dX6_knownOf_187 : decode cX6_knownOf 187 = .ok (.iload 6, 2) := by decide +kernel
theorem dX6_knownOf_189 : decode cX6_knownOf 189 = .ok (.iconst (-1), 1) := by decide +kernel
theorem dX6_knownOf_190 : decode cX6_knownOf 190 = .ok (.if_icmp .eq 10, 3) := by decide +kernel
theorem dX6_knownOf_193 : decode cX6_knownOf 193 = .ok (.iload 12, 2) := by decide +kernel
theorem dX6_knownOf_195 : decode cX6_knownOf 195 = .ok (.iload 6, 2) := by decide +kernel
theorem dX6_knownOf_197 : decode cX6_knownOf 197 = .ok (.if_icmp .ge 8, 3) := by decide +kernel
theorem dX6_knownOf_200 : decode cX6_knownOf 200 = .ok (.iload 12, 2) := by decide +kernel
theorem dX6_knownOf_202 : decode cX6_knownOf 202 = .ok (.goto 5, 3) := by decide +kernel
theorem dX6_knownOf_205 : decode cX6_knownOf 205 = .ok (.iload 6, 2) := by decide +kernel
theorem dX6_knownOf_207 : decode cX6_knownOf 207 = .ok (.istore 6, 2) := by decide +kernel
theorem dX6_knownOf_209 : decode cX6_knownOf 209 = .ok (.iinc 9 1, 3) := by decide +kernel
theorem dX6_knownOf_212 : decode cX6_knownOf 212 = .ok (.goto (-138), 3) := by decide +kernel
theorem dX6_knownOf_215 : decode cX6_knownOf 215 = .ok (.iinc 7 1, 3) := by decide +kernel
theorem dX6_knownOf_218 : decode cX6_knownOf 218 = .ok (.goto (-182), 3) := by decide +kernel
theorem dX6_knownOf_221 : decode cX6_knownOf 221 = .ok (.aload_n 0, 1) := by decide +kernel
theorem dX6_knownOf_222 : decode cX6_knownOf 222 = .ok (.getfield 38, 3) := by decide +kernel
theorem dX6_knownOf_225 : decode cX6_knownOf 225 = .ok (.iload_n 3, 1) := by decide +kernel
theorem dX6_knownOf_226 : decode cX6_knownOf 226 = .ok (.iload 4, 2) := by decide +kernel
theorem dX6_knownOf_228 : decode cX6_knownOf 228 = .ok (.iconst (-1), 1) := by decide +kernel
theorem dX6_knownOf_229 : decode cX6_knownOf 229 = .ok (.ixor, 1) := by decide +kernel
theorem dX6_knownOf_230 : decode cX6_knownOf 230 = .ok (.invokestatic 174, 3) := by decide +kernel
theorem dX6_knownOf_233 : decode cX6_knownOf 233 = .ok (.iload 5, 2) := by decide +kernel
theorem dX6_knownOf_235 : decode cX6_knownOf 235 = .ok (.iconst 5, 1) := by decide +kernel
theorem dX6_knownOf_236 : decode cX6_knownOf 236 = .ok (.ishl, 1) := by decide +kernel
theorem dX6_knownOf_237 : decode cX6_knownOf 237 = .ok (.ior, 1) := by decide +kernel
theorem dX6_knownOf_238 : decode cX6_knownOf 238 = .ok (.iload 6, 2) := by decide +kernel
theorem dX6_knownOf_240 : decode cX6_knownOf 240 = .ok (.iconst (-1), 1) := by decide +kernel
theorem dX6_knownOf_241 : decode cX6_knownOf 241 = .ok (.if_icmp .ne 7, 3) := by decide +kernel
theorem dX6_knownOf_244 : decode cX6_knownOf 244 = .ok (.iconst 0, 1) := by decide +kernel
theorem dX6_knownOf_245 : decode cX6_knownOf 245 = .ok (.goto 5, 3) := by decide +kernel
theorem dX6_knownOf_248 : decode cX6_knownOf 248 = .ok (.iload 6, 2) := by decide +kernel
theorem dX6_knownOf_250 : decode cX6_knownOf 250 = .ok (.bipush 10, 2) := by decide +kernel
theorem dX6_knownOf_252 : decode cX6_knownOf 252 = .ok (.ishl, 1) := by decide +kernel
theorem dX6_knownOf_253 : decode cX6_knownOf 253 = .ok (.ior, 1) := by decide +kernel
theorem dX6_knownOf_254 : decode cX6_knownOf 254 = .ok (.iastore, 1) := by decide +kernel
theorem dX6_knownOf_255 : decode cX6_knownOf 255 = .ok (.aload_n 0, 1) := by decide +kernel
theorem dX6_knownOf_256 : decode cX6_knownOf 256 = .ok (.getfield 38, 3) := by decide +kernel
theorem dX6_knownOf_259 : decode cX6_knownOf 259 = .ok (.iload_n 3, 1) := by decide +kernel
theorem dX6_knownOf_260 : decode cX6_knownOf 260 = .ok (.iaload, 1) := by decide +kernel
theorem dX6_knownOf_261 : decode cX6_knownOf 261 = .ok (.ireturn, 1) := by decide +kernel
theorem dX6_board_0 : decode cX6_board 0 = .ok (.iconst 0, 1) := by decide +kernel
theorem dX6_board_1 : decode cX6_board 1 = .ok (.istore_n 1, 1) := by decide +kernel
theorem dX6_board_2 : decode cX6_board 2 = .ok (.iconst 0, 1) := by decide +kernel
theorem dX6_board_3 : decode cX6_board 3 = .ok (.istore_n 2, 1) := by decide +kernel
theorem dX6_board_4 : decode cX6_board 4 = .ok (.iconst 0, 1) := by decide +kernel
theorem dX6_board_5 : decode cX6_board 5 = .ok (.istore_n 3, 1) := by decide +kernel
theorem dX6_board_6 : decode cX6_board 6 = .ok (.aload_n 0, 1) := by decide +kernel
theorem dX6_board_7 : decode cX6_board 7 = .ok (.invokevirtual 180, 3) := by decide +kernel
theorem dX6_board_10 : decode cX6_board 10 = .ok (.istore 4, 2) := by decide +kernel
theorem dX6_board_12 : decode cX6_board 12 = .ok (.iload 4, 2) := by decide +kernel
theorem dX6_board_14 : decode cX6_board 14 = .ok (.istore 5, 2) := by decide +kernel
theorem dX6_board_16 : decode cX6_board 16 = .ok (.iload 5, 2) := by decide +kernel
theorem dX6_board_18 : decode cX6_board 18 = .ok (.ifCond .le 71, 3) := by decide +kernel
theorem dX6_board_21 : decode cX6_board 21 = .ok (.aload_n 0, 1) := by decide +kernel
theorem dX6_board_22 : decode cX6_board 22 = .ok (.iload 5, 2) := by decide +kernel
theorem dX6_board_24 : decode cX6_board 24 = .ok (.invokestatic 174, 3) := by decide +kernel
theorem dX6_board_27 : decode cX6_board 27 = .ok (.iload 4, 2) := by decide +kernel
theorem dX6_board_29 : decode cX6_board 29 = .ok (.invokevirtual 177, 3) := by decide +kernel
theorem dX6_board_32 : decode cX6_board 32 = .ok (.istore 6, 2) := by decide +kernel
theorem dX6_board_34 : decode cX6_board 34 = .ok (.aload_n 0, 1) := by decide +kernel
theorem dX6_board_35 : decode cX6_board 35 = .ok (.iload 6, 2) := by decide +kernel
theorem dX6_board_37 : decode cX6_board 37 = .ok (.aload_n 0, 1) := by decide +kernel
theorem dX6_board_38 : decode cX6_board 38 = .ok (.iload 6, 2) := by decide +kernel
theorem dX6_board_40 : decode cX6_board 40 = .ok (.invokestatic 174, 3) := by decide +kernel
theorem dX6_board_43 : decode cX6_board 43 = .ok (.invokevirtual 192, 3) := by decide +kernel
theorem dX6_board_46 : decode cX6_board 46 = .ok (.invokevirtual 229, 3) := by decide +kernel
theorem dX6_board_49 : decode cX6_board 49 = .ok (.istore 7, 2) := by decide +kernel
theorem dX6_board_51 : decode cX6_board 51 = .ok (.iload_n 1, 1) := by decide +kernel
theorem dX6_board_52 : decode cX6_board 52 = .ok (.iload 7, 2) := by decide +kernel
theorem dX6_board_54 : decode cX6_board 54 = .ok (.bipush 31, 2) := by decide +kernel
theorem dX6_board_56 : decode cX6_board 56 = .ok (.iand, 1) := by decide +kernel
theorem dX6_board_57 : decode cX6_board 57 = .ok (.ixor, 1) := by decide +kernel
theorem dX6_board_58 : decode cX6_board 58 = .ok (.istore_n 1, 1) := by decide +kernel
theorem dX6_board_59 : decode cX6_board 59 = .ok (.iload_n 2, 1) := by decide +kernel
theorem dX6_board_60 : decode cX6_board 60 = .ok (.iload 7, 2) := by decide +kernel
theorem dX6_board_62 : decode cX6_board 62 = .ok (.iconst 5, 1) := by decide +kernel
theorem dX6_board_63 : decode cX6_board 63 = .ok (.ishr, 1) := by decide +kernel
theorem dX6_board_64 : decode cX6_board 64 = .ok (.bipush 31, 2) := by decide +kernel
theorem dX6_board_66 : decode cX6_board 66 = .ok (.iand, 1) := by decide +kernel
theorem dX6_board_67 : decode cX6_board 67 = .ok (.iadd, 1) := by decide +kernel
theorem dX6_board_68 : decode cX6_board 68 = .ok (.istore_n 2, 1) := by decide +kernel
theorem dX6_board_69 : decode cX6_board 69 = .ok (.iload_n 3, 1) := by decide +kernel
theorem dX6_board_70 : decode cX6_board 70 = .ok (.iload 7, 2) := by decide +kernel
theorem dX6_board_72 : decode cX6_board 72 = .ok (.bipush 10, 2) := by decide +kernel
theorem dX6_board_74 : decode cX6_board 74 = .ok (.ishr, 1) := by decide +kernel
theorem dX6_board_75 : decode cX6_board 75 = .ok (.iadd, 1) := by decide +kernel
theorem dX6_board_76 : decode cX6_board 76 = .ok (.istore_n 3, 1) := by decide +kernel
theorem dX6_board_77 : decode cX6_board 77 = .ok (.iload 5, 2) := by decide +kernel
theorem dX6_board_79 : decode cX6_board 79 = .ok (.iload 6, 2) := by decide +kernel
theorem dX6_board_81 : decode cX6_board 81 = .ok (.iconst (-1), 1) := by decide +kernel
theorem dX6_board_82 : decode cX6_board 82 = .ok (.ixor, 1) := by decide +kernel
theorem dX6_board_83 : decode cX6_board 83 = .ok (.iand, 1) := by decide +kernel
theorem dX6_board_84 : decode cX6_board 84 = .ok (.istore 5, 2) := by decide +kernel
theorem dX6_board_86 : decode cX6_board 86 = .ok (.goto (-70), 3) := by decide +kernel
theorem dX6_board_89 : decode cX6_board 89 = .ok (.iload_n 1, 1) := by decide +kernel
theorem dX6_board_90 : decode cX6_board 90 = .ok (.iload_n 2, 1) := by decide +kernel
theorem dX6_board_91 : decode cX6_board 91 = .ok (.iconst 5, 1) := by decide +kernel
theorem dX6_board_92 : decode cX6_board 92 = .ok (.ishl, 1) := by decide +kernel
theorem dX6_board_93 : decode cX6_board 93 = .ok (.ior, 1) := by decide +kernel
theorem dX6_board_94 : decode cX6_board 94 = .ok (.iload_n 3, 1) := by decide +kernel
theorem dX6_board_95 : decode cX6_board 95 = .ok (.bipush 10, 2) := by decide +kernel
theorem dX6_board_97 : decode cX6_board 97 = .ok (.ishl, 1) := by decide +kernel
theorem dX6_board_98 : decode cX6_board 98 = .ok (.ior, 1) := by decide +kernel
theorem dX6_board_99 : decode cX6_board 99 = .ok (.ireturn, 1) := by decide +kernel
theorem dX6_valueNow_0 : decode cX6_valueNow 0 = .ok (.aload_n 0, 1) := by decide +kernel
theorem dX6_valueNow_1 : decode cX6_valueNow 1 = .ok (.invokevirtual 238, 3) := by decide +kernel
theorem dX6_valueNow_4 : decode cX6_valueNow 4 = .ok (.bipush 31, 2) := by decide +kernel
theorem dX6_valueNow_6 : decode cX6_valueNow 6 = .ok (.iand, 1) := by decide +kernel
theorem dX6_valueNow_7 : decode cX6_valueNow 7 = .ok (.aload_n 0, 1) := by decide +kernel
theorem dX6_valueNow_8 : decode cX6_valueNow 8 = .ok (.getfield 7, 3) := by decide +kernel
theorem dX6_valueNow_11 : decode cX6_valueNow 11 = .ok (.iconst 2, 1) := by decide +kernel
theorem dX6_valueNow_12 : decode cX6_valueNow 12 = .ok (.iaload, 1) := by decide +kernel
theorem dX6_valueNow_13 : decode cX6_valueNow 13 = .ok (.iconst 2, 1) := by decide +kernel
theorem dX6_valueNow_14 : decode cX6_valueNow 14 = .ok (.irem, 1) := by decide +kernel
theorem dX6_valueNow_15 : decode cX6_valueNow 15 = .ok (.ixor, 1) := by decide +kernel
theorem dX6_valueNow_16 : decode cX6_valueNow 16 = .ok (.ireturn, 1) := by decide +kernel
theorem dX6_boardIf_0 : decode cX6_boardIf 0 = .ok (.aload_n 0, 1) := by decide +kernel
theorem dX6_boardIf_1 : decode cX6_boardIf 1 = .ok (.iload_n 1, 1) := by decide +kernel
theorem dX6_boardIf_2 : decode cX6_boardIf 2 = .ok (.aload_n 0, 1) := by decide +kernel
theorem dX6_boardIf_3 : decode cX6_boardIf 3 = .ok (.invokevirtual 180, 3) := by decide +kernel
theorem dX6_boardIf_6 : decode cX6_boardIf 6 = .ok (.invokevirtual 177, 3) := by decide +kernel
theorem dX6_boardIf_9 : decode cX6_boardIf 9 = .ok (.istore_n 3, 1) := by decide +kernel
theorem dX6_boardIf_10 : decode cX6_boardIf 10 = .ok (.iconst 0, 1) := by decide +kernel
theorem dX6_boardIf_11 : decode cX6_boardIf 11 = .ok (.istore 4, 2) := by decide +kernel
theorem dX6_boardIf_13 : decode cX6_boardIf 13 = .ok (.iload 4, 2) := by decide +kernel
theorem dX6_boardIf_15 : decode cX6_boardIf 15 = .ok (.bipush 9, 2) := by decide +kernel
theorem dX6_boardIf_17 : decode cX6_boardIf 17 = .ok (.if_icmp .ge 26, 3) := by decide +kernel
theorem dX6_boardIf_20 : decode cX6_boardIf 20 = .ok (.aload_n 0, 1) := by decide +kernel
theorem dX6_boardIf_21 : decode cX6_boardIf 21 = .ok (.getfield 41, 3) := by decide +kernel
theorem dX6_boardIf_24 : decode cX6_boardIf 24 = .ok (.iload 4, 2) := by decide +kernel
theorem dX6_boardIf_26 : decode cX6_boardIf 26 = .ok (.aload_n 0, 1) := by decide +kernel
theorem dX6_boardIf_27 : decode cX6_boardIf 27 = .ok (.getfield 7, 3) := by decide +kernel
theorem dX6_boardIf_30 : decode cX6_boardIf 30 = .ok (.bipush 31, 2) := by decide +kernel
theorem dX6_boardIf_32 : decode cX6_boardIf 32 = .ok (.iload 4, 2) := by decide +kernel
theorem dX6_boardIf_34 : decode cX6_boardIf 34 = .ok (.iadd, 1) := by decide +kernel
theorem dX6_boardIf_35 : decode cX6_boardIf 35 = .ok (.iaload, 1) := by decide +kernel
theorem dX6_boardIf_36 : decode cX6_boardIf 36 = .ok (.iastore, 1) := by decide +kernel
theorem dX6_boardIf_37 : decode cX6_boardIf 37 = .ok (.iinc 4 1, 3) := by decide +kernel
theorem dX6_boardIf_40 : decode cX6_boardIf 40 = .ok (.goto (-27), 3) := by decide +kernel
theorem dX6_boardIf_43 : decode cX6_boardIf 43 = .ok (.iconst 0, 1) := by decide +kernel
theorem dX6_boardIf_44 : decode cX6_boardIf 44 = .ok (.istore 4, 2) := by decide +kernel
theorem dX6_boardIf_46 : decode cX6_boardIf 46 = .ok (.iload 4, 2) := by decide +kernel
theorem dX6_boardIf_48 : decode cX6_boardIf 48 = .ok (.aload_n 0, 1) := by decide +kernel
theorem dX6_boardIf_49 : decode cX6_boardIf 49 = .ok (.getfield 7, 3) := by decide +kernel
theorem dX6_boardIf_52 : decode cX6_boardIf 52 = .ok (.iconst 0, 1) := by decide +kernel
theorem dX6_boardIf_53 : decode cX6_boardIf 53 = .ok (.iaload, 1) := by decide +kernel
theorem dX6_boardIf_54 : decode cX6_boardIf 54 = .ok (.if_icmp .ge 32, 3) := by decide +kernel
theorem dX6_boardIf_57 : decode cX6_boardIf 57 = .ok (.iload_n 3, 1) := by decide +kernel
theorem dX6_boardIf_58 : decode cX6_boardIf 58 = .ok (.iload 4, 2) := by decide +kernel
theorem dX6_boardIf_60 : decode cX6_boardIf 60 = .ok (.ishr, 1) := by decide +kernel
theorem dX6_boardIf_61 : decode cX6_boardIf 61 = .ok (.iconst 1, 1) := by decide +kernel
theorem dX6_boardIf_62 : decode cX6_boardIf 62 = .ok (.iand, 1) := by decide +kernel
theorem dX6_boardIf_63 : decode cX6_boardIf 63 = .ok (.iconst 1, 1) := by decide +kernel
theorem dX6_boardIf_64 : decode cX6_boardIf 64 = .ok (.if_icmp .ne 16, 3) := by decide +kernel
theorem dX6_boardIf_67 : decode cX6_boardIf 67 = .ok (.aload_n 0, 1) := by decide +kernel
end
section
theorem dX6_boardIf_68 : decode cX6_boardIf 68 = .ok (.getfield 7, 3) := by decide +kernel
theorem dX6_boardIf_71 : decode cX6_boardIf 71 = .ok (.bipush 31, 2) := by decide +kernel
theorem dX6_boardIf_73 : decode cX6_boardIf 73 = .ok (.iload 4, 2) := by decide +kernel
theorem dX6_boardIf_75 : decode cX6_boardIf 75 = .ok (.iadd, 1) := by decide +kernel
theorem dX6_boardIf_76 : decode cX6_boardIf 76 = .ok (.iload_n 2, 1) := by decide +kernel
theorem dX6_boardIf_77 : decode cX6_boardIf 77 = .ok (.iconst 1, 1) := by decide +kernel
theorem dX6_boardIf_78 : decode cX6_boardIf 78 = .ok (.iadd, 1) := by decide +kernel
theorem dX6_boardIf_79 : decode cX6_boardIf 79 = .ok (.iastore, 1) := by decide +kernel
theorem dX6_boardIf_80 : decode cX6_boardIf 80 = .ok (.iinc 4 1, 3) := by decide +kernel
theorem dX6_boardIf_83 : decode cX6_boardIf 83 = .ok (.goto (-37), 3) := by decide +kernel
theorem dX6_boardIf_86 : decode cX6_boardIf 86 = .ok (.aload_n 0, 1) := by decide +kernel
theorem dX6_boardIf_87 : decode cX6_boardIf 87 = .ok (.getfield 7, 3) := by decide +kernel
theorem dX6_boardIf_90 : decode cX6_boardIf 90 = .ok (.bipush 22, 2) := by decide +kernel
theorem dX6_boardIf_92 : decode cX6_boardIf 92 = .ok (.iload_n 1, 1) := by decide +kernel
theorem dX6_boardIf_93 : decode cX6_boardIf 93 = .ok (.iadd, 1) := by decide +kernel
theorem dX6_boardIf_94 : decode cX6_boardIf 94 = .ok (.iload_n 2, 1) := by decide +kernel
theorem dX6_boardIf_95 : decode cX6_boardIf 95 = .ok (.iconst 1, 1) := by decide +kernel
theorem dX6_boardIf_96 : decode cX6_boardIf 96 = .ok (.iadd, 1) := by decide +kernel
theorem dX6_boardIf_97 : decode cX6_boardIf 97 = .ok (.iastore, 1) := by decide +kernel
theorem dX6_boardIf_98 : decode cX6_boardIf 98 = .ok (.aload_n 0, 1) := by decide +kernel
theorem dX6_boardIf_99 : decode cX6_boardIf 99 = .ok (.invokevirtual 238, 3) := by decide +kernel
theorem dX6_boardIf_102 : decode cX6_boardIf 102 = .ok (.istore 4, 2) := by decide +kernel
theorem dX6_boardIf_104 : decode cX6_boardIf 104 = .ok (.aload_n 0, 1) := by decide +kernel
theorem dX6_boardIf_105 : decode cX6_boardIf 105 = .ok (.getfield 7, 3) := by decide +kernel
theorem dX6_boardIf_108 : decode cX6_boardIf 108 = .ok (.bipush 22, 2) := by decide +kernel
theorem dX6_boardIf_110 : decode cX6_boardIf 110 = .ok (.iload_n 1, 1) := by decide +kernel
theorem dX6_boardIf_111 : decode cX6_boardIf 111 = .ok (.iadd, 1) := by decide +kernel
theorem dX6_boardIf_112 : decode cX6_boardIf 112 = .ok (.iconst 0, 1) := by decide +kernel
theorem dX6_boardIf_113 : decode cX6_boardIf 113 = .ok (.iastore, 1) := by decide +kernel
theorem dX6_boardIf_114 : decode cX6_boardIf 114 = .ok (.iconst 0, 1) := by decide +kernel
theorem dX6_boardIf_115 : decode cX6_boardIf 115 = .ok (.istore 5, 2) := by decide +kernel
theorem dX6_boardIf_117 : decode cX6_boardIf 117 = .ok (.iload 5, 2) := by decide +kernel
theorem dX6_boardIf_119 : decode cX6_boardIf 119 = .ok (.bipush 9, 2) := by decide +kernel
theorem dX6_boardIf_121 : decode cX6_boardIf 121 = .ok (.if_icmp .ge 26, 3) := by decide +kernel
theorem dX6_boardIf_124 : decode cX6_boardIf 124 = .ok (.aload_n 0, 1) := by decide +kernel
theorem dX6_boardIf_125 : decode cX6_boardIf 125 = .ok (.getfield 7, 3) := by decide +kernel
theorem dX6_boardIf_128 : decode cX6_boardIf 128 = .ok (.bipush 31, 2) := by decide +kernel
theorem dX6_boardIf_130 : decode cX6_boardIf 130 = .ok (.iload 5, 2) := by decide +kernel
theorem dX6_boardIf_132 : decode cX6_boardIf 132 = .ok (.iadd, 1) := by decide +kernel
theorem dX6_boardIf_133 : decode cX6_boardIf 133 = .ok (.aload_n 0, 1) := by decide +kernel
theorem dX6_boardIf_134 : decode cX6_boardIf 134 = .ok (.getfield 41, 3) := by decide +kernel
theorem dX6_boardIf_137 : decode cX6_boardIf 137 = .ok (.iload 5, 2) := by decide +kernel
theorem dX6_boardIf_139 : decode cX6_boardIf 139 = .ok (.iaload, 1) := by decide +kernel
theorem dX6_boardIf_140 : decode cX6_boardIf 140 = .ok (.iastore, 1) := by decide +kernel
theorem dX6_boardIf_141 : decode cX6_boardIf 141 = .ok (.iinc 5 1, 3) := by decide +kernel
theorem dX6_boardIf_144 : decode cX6_boardIf 144 = .ok (.goto (-27), 3) := by decide +kernel
theorem dX6_boardIf_147 : decode cX6_boardIf 147 = .ok (.iload 4, 2) := by decide +kernel
theorem dX6_boardIf_149 : decode cX6_boardIf 149 = .ok (.ireturn, 1) := by decide +kernel
theorem dX6_winningOn_0 : decode cX6_winningOn 0 = .ok (.aload_n 0, 1) := by decide +kernel
theorem dX6_winningOn_1 : decode cX6_winningOn 1 = .ok (.iload_n 1, 1) := by decide +kernel
theorem dX6_winningOn_2 : decode cX6_winningOn 2 = .ok (.invokevirtual 199, 3) := by decide +kernel
theorem dX6_winningOn_5 : decode cX6_winningOn 5 = .ok (.istore_n 2, 1) := by decide +kernel
theorem dX6_winningOn_6 : decode cX6_winningOn 6 = .ok (.iconst 0, 1) := by decide +kernel
theorem dX6_winningOn_7 : decode cX6_winningOn 7 = .ok (.istore_n 3, 1) := by decide +kernel
theorem dX6_winningOn_8 : decode cX6_winningOn 8 = .ok (.iconst 0, 1) := by decide +kernel
theorem dX6_winningOn_9 : decode cX6_winningOn 9 = .ok (.istore 4, 2) := by decide +kernel
theorem dX6_winningOn_11 : decode cX6_winningOn 11 = .ok (.iload 4, 2) := by decide +kernel
theorem dX6_winningOn_13 : decode cX6_winningOn 13 = .ok (.aload_n 0, 1) := by decide +kernel
theorem dX6_winningOn_14 : decode cX6_winningOn 14 = .ok (.getfield 7, 3) := by decide +kernel
theorem dX6_winningOn_17 : decode cX6_winningOn 17 = .ok (.iconst 1, 1) := by decide +kernel
theorem dX6_winningOn_18 : decode cX6_winningOn 18 = .ok (.iaload, 1) := by decide +kernel
theorem dX6_winningOn_19 : decode cX6_winningOn 19 = .ok (.if_icmp .ge 48, 3) := by decide +kernel
theorem dX6_winningOn_22 : decode cX6_winningOn 22 = .ok (.iload_n 2, 1) := by decide +kernel
theorem dX6_winningOn_23 : decode cX6_winningOn 23 = .ok (.iload 4, 2) := by decide +kernel
theorem dX6_winningOn_25 : decode cX6_winningOn 25 = .ok (.ishr, 1) := by decide +kernel
theorem dX6_winningOn_26 : decode cX6_winningOn 26 = .ok (.iconst 1, 1) := by decide +kernel
theorem dX6_winningOn_27 : decode cX6_winningOn 27 = .ok (.iand, 1) := by decide +kernel
theorem dX6_winningOn_28 : decode cX6_winningOn 28 = .ok (.iconst 1, 1) := by decide +kernel
theorem dX6_winningOn_29 : decode cX6_winningOn 29 = .ok (.if_icmp .ne 32, 3) := by decide +kernel
theorem dX6_winningOn_32 : decode cX6_winningOn 32 = .ok (.aload_n 0, 1) := by decide +kernel
theorem dX6_winningOn_33 : decode cX6_winningOn 33 = .ok (.iload_n 1, 1) := by decide +kernel
theorem dX6_winningOn_34 : decode cX6_winningOn 34 = .ok (.iload 4, 2) := by decide +kernel
theorem dX6_winningOn_36 : decode cX6_winningOn 36 = .ok (.invokevirtual 241, 3) := by decide +kernel
theorem dX6_winningOn_39 : decode cX6_winningOn 39 = .ok (.bipush 31, 2) := by decide +kernel
theorem dX6_winningOn_41 : decode cX6_winningOn 41 = .ok (.iand, 1) := by decide +kernel
theorem dX6_winningOn_42 : decode cX6_winningOn 42 = .ok (.aload_n 0, 1) := by decide +kernel
theorem dX6_winningOn_43 : decode cX6_winningOn 43 = .ok (.getfield 7, 3) := by decide +kernel
theorem dX6_winningOn_46 : decode cX6_winningOn 46 = .ok (.iconst 2, 1) := by decide +kernel
theorem dX6_winningOn_47 : decode cX6_winningOn 47 = .ok (.iaload, 1) := by decide +kernel
theorem dX6_winningOn_48 : decode cX6_winningOn 48 = .ok (.iconst 2, 1) := by decide +kernel
theorem dX6_winningOn_49 : decode cX6_winningOn 49 = .ok (.irem, 1) := by decide +kernel
theorem dX6_winningOn_50 : decode cX6_winningOn 50 = .ok (.ixor, 1) := by decide +kernel
theorem dX6_winningOn_51 : decode cX6_winningOn 51 = .ok (.ifCond .ne 10, 3) := by decide +kernel
theorem dX6_winningOn_54 : decode cX6_winningOn 54 = .ok (.iload_n 3, 1) := by decide +kernel
theorem dX6_winningOn_55 : decode cX6_winningOn 55 = .ok (.iconst 1, 1) := by decide +kernel
theorem dX6_winningOn_56 : decode cX6_winningOn 56 = .ok (.iload 4, 2) := by decide +kernel
theorem dX6_winningOn_58 : decode cX6_winningOn 58 = .ok (.ishl, 1) := by decide +kernel
theorem dX6_winningOn_59 : decode cX6_winningOn 59 = .ok (.ior, 1) := by decide +kernel
theorem dX6_winningOn_60 : decode cX6_winningOn 60 = .ok (.istore_n 3, 1) := by decide +kernel
theorem dX6_winningOn_61 : decode cX6_winningOn 61 = .ok (.iinc 4 1, 3) := by decide +kernel
theorem dX6_winningOn_64 : decode cX6_winningOn 64 = .ok (.goto (-53), 3) := by decide +kernel
theorem dX6_winningOn_67 : decode cX6_winningOn 67 = .ok (.iload_n 3, 1) := by decide +kernel
theorem dX6_winningOn_68 : decode cX6_winningOn 68 = .ok (.ireturn, 1) := by decide +kernel
theorem dX6_passWins_0 : decode cX6_passWins 0 = .ok (.aload_n 0, 1) := by decide +kernel
theorem dX6_passWins_1 : decode cX6_passWins 1 = .ok (.getfield 7, 3) := by decide +kernel
theorem dX6_passWins_4 : decode cX6_passWins 4 = .ok (.iconst 2, 1) := by decide +kernel
theorem dX6_passWins_5 : decode cX6_passWins 5 = .ok (.iaload, 1) := by decide +kernel
theorem dX6_passWins_6 : decode cX6_passWins 6 = .ok (.ifCond .le 28, 3) := by decide +kernel
theorem dX6_passWins_9 : decode cX6_passWins 9 = .ok (.aload_n 0, 1) := by decide +kernel
theorem dX6_passWins_10 : decode cX6_passWins 10 = .ok (.invokevirtual 238, 3) := by decide +kernel
theorem dX6_passWins_13 : decode cX6_passWins 13 = .ok (.bipush 31, 2) := by decide +kernel
theorem dX6_passWins_15 : decode cX6_passWins 15 = .ok (.iand, 1) := by decide +kernel
theorem dX6_passWins_16 : decode cX6_passWins 16 = .ok (.aload_n 0, 1) := by decide +kernel
theorem dX6_passWins_17 : decode cX6_passWins 17 = .ok (.getfield 7, 3) := by decide +kernel
theorem dX6_passWins_20 : decode cX6_passWins 20 = .ok (.iconst 2, 1) := by decide +kernel
theorem dX6_passWins_21 : decode cX6_passWins 21 = .ok (.iaload, 1) := by decide +kernel
theorem dX6_passWins_22 : decode cX6_passWins 22 = .ok (.iconst 1, 1) := by decide +kernel
theorem dX6_passWins_23 : decode cX6_passWins 23 = .ok (.isub, 1) := by decide +kernel
theorem dX6_passWins_24 : decode cX6_passWins 24 = .ok (.iconst 2, 1) := by decide +kernel
theorem dX6_passWins_25 : decode cX6_passWins 25 = .ok (.irem, 1) := by decide +kernel
theorem dX6_passWins_26 : decode cX6_passWins 26 = .ok (.ixor, 1) := by decide +kernel
theorem dX6_passWins_27 : decode cX6_passWins 27 = .ok (.ifCond .ne 7, 3) := by decide +kernel
theorem dX6_passWins_30 : decode cX6_passWins 30 = .ok (.iconst 1, 1) := by decide +kernel
theorem dX6_passWins_31 : decode cX6_passWins 31 = .ok (.goto 4, 3) := by decide +kernel
theorem dX6_passWins_34 : decode cX6_passWins 34 = .ok (.iconst 0, 1) := by decide +kernel
theorem dX6_passWins_35 : decode cX6_passWins 35 = .ok (.ireturn, 1) := by decide +kernel
theorem dX6_part_0 : decode cX6_part 0 = .ok (.iload_n 1, 1) := by decide +kernel
theorem dX6_part_1 : decode cX6_part 1 = .ok (.ifCond .ge 7, 3) := by decide +kernel
theorem dX6_part_4 : decode cX6_part 4 = .ok (.iconst 0, 1) := by decide +kernel
theorem dX6_part_5 : decode cX6_part 5 = .ok (.goto 8, 3) := by decide +kernel
theorem dX6_part_8 : decode cX6_part 8 = .ok (.aload_n 0, 1) := by decide +kernel
theorem dX6_part_9 : decode cX6_part 9 = .ok (.iload_n 1, 1) := by decide +kernel
theorem dX6_part_10 : decode cX6_part 10 = .ok (.invokevirtual 244, 3) := by decide +kernel
theorem dX6_part_13 : decode cX6_part 13 = .ok (.istore_n 3, 1) := by decide +kernel
theorem dX6_part_14 : decode cX6_part 14 = .ok (.aload_n 0, 1) := by decide +kernel
theorem dX6_part_15 : decode cX6_part 15 = .ok (.iload_n 3, 1) := by decide +kernel
theorem dX6_part_16 : decode cX6_part 16 = .ok (.ifCond .ne 7, 3) := by decide +kernel
theorem dX6_part_19 : decode cX6_part 19 = .ok (.iconst 1, 1) := by decide +kernel
theorem dX6_part_20 : decode cX6_part 20 = .ok (.goto 18, 3) := by decide +kernel
theorem dX6_part_23 : decode cX6_part 23 = .ok (.iload_n 2, 1) := by decide +kernel
theorem dX6_part_24 : decode cX6_part 24 = .ok (.iconst 0, 1) := by decide +kernel
theorem dX6_part_25 : decode cX6_part 25 = .ok (.bipush 7, 2) := by decide +kernel
theorem dX6_part_27 : decode cX6_part 27 = .ok (.invokestatic 76, 3) := by decide +kernel
theorem dX6_part_30 : decode cX6_part 30 = .ok (.ifCond .eq 7, 3) := by decide +kernel
theorem dX6_part_33 : decode cX6_part 33 = .ok (.iconst 0, 1) := by decide +kernel
theorem dX6_part_34 : decode cX6_part 34 = .ok (.goto 4, 3) := by decide +kernel
theorem dX6_part_37 : decode cX6_part 37 = .ok (.iconst 2, 1) := by decide +kernel
theorem dX6_part_38 : decode cX6_part 38 = .ok (.putfield 47, 3) := by decide +kernel
theorem dX6_part_41 : decode cX6_part 41 = .ok (.aload_n 0, 1) := by decide +kernel
theorem dX6_part_42 : decode cX6_part 42 = .ok (.getfield 47, 3) := by decide +kernel
theorem dX6_part_45 : decode cX6_part 45 = .ok (.ifCond .le 5, 3) := by decide +kernel
theorem dX6_part_48 : decode cX6_part 48 = .ok (.iconst 0, 1) := by decide +kernel
theorem dX6_part_49 : decode cX6_part 49 = .ok (.ireturn, 1) := by decide +kernel
theorem dX6_part_50 : decode cX6_part 50 = .ok (.aload_n 0, 1) := by decide +kernel
theorem dX6_part_51 : decode cX6_part 51 = .ok (.iload_n 3, 1) := by decide +kernel
theorem dX6_part_52 : decode cX6_part 52 = .ok (.invokestatic 174, 3) := by decide +kernel
theorem dX6_part_55 : decode cX6_part 55 = .ok (.invokevirtual 192, 3) := by decide +kernel
theorem dX6_part_58 : decode cX6_part 58 = .ok (.istore 4, 2) := by decide +kernel
theorem dX6_part_60 : decode cX6_part 60 = .ok (.iload_n 2, 1) := by decide +kernel
theorem dX6_part_61 : decode cX6_part 61 = .ok (.tableswitch 60 0 4 #[35, 40, 45, 48, 54], 35) := by decide +kernel
theorem dX6_part_96 : decode cX6_part 96 = .ok (.iload_n 3, 1) := by decide +kernel
theorem dX6_part_97 : decode cX6_part 97 = .ok (.invokestatic 189, 3) := by decide +kernel
theorem dX6_part_100 : decode cX6_part 100 = .ok (.ireturn, 1) := by decide +kernel
theorem dX6_part_101 : decode cX6_part 101 = .ok (.iload_n 3, 1) := by decide +kernel
theorem dX6_part_102 : decode cX6_part 102 = .ok (.invokestatic 174, 3) := by decide +kernel
theorem dX6_part_105 : decode cX6_part 105 = .ok (.ireturn, 1) := by decide +kernel
theorem dX6_part_106 : decode cX6_part 106 = .ok (.iload 4, 2) := by decide +kernel
theorem dX6_part_108 : decode cX6_part 108 = .ok (.ireturn, 1) := by decide +kernel
theorem dX6_part_109 : decode cX6_part 109 = .ok (.aload_n 0, 1) := by decide +kernel
theorem dX6_part_110 : decode cX6_part 110 = .ok (.iload_n 3, 1) := by decide +kernel
theorem dX6_part_111 : decode cX6_part 111 = .ok (.invokevirtual 204, 3) := by decide +kernel
theorem dX6_part_114 : decode cX6_part 114 = .ok (.ireturn, 1) := by decide +kernel
theorem dX6_part_115 : decode cX6_part 115 = .ok (.aload_n 0, 1) := by decide +kernel
theorem dX6_part_116 : decode cX6_part 116 = .ok (.iload_n 3, 1) := by decide +kernel
theorem dX6_part_117 : decode cX6_part 117 = .ok (.invokevirtual 247, 3) := by decide +kernel
theorem dX6_part_120 : decode cX6_part 120 = .ok (.ireturn, 1) := by decide +kernel
theorem dX6_part_121 : decode cX6_part 121 = .ok (.aload_n 0, 1) := by decide +kernel
theorem dX6_part_122 : decode cX6_part 122 = .ok (.iload_n 3, 1) := by decide +kernel
theorem dX6_part_123 : decode cX6_part 123 = .ok (.iload 4, 2) := by decide +kernel
theorem dX6_part_125 : decode cX6_part 125 = .ok (.iload_n 2, 1) := by decide +kernel
theorem dX6_part_126 : decode cX6_part 126 = .ok (.invokevirtual 250, 3) := by decide +kernel
theorem dX6_part_129 : decode cX6_part 129 = .ok (.ireturn, 1) := by decide +kernel
theorem dX6_pairsIn_0 : decode cX6_pairsIn 0 = .ok (.iconst 0, 1) := by decide +kernel
theorem dX6_pairsIn_1 : decode cX6_pairsIn 1 = .ok (.istore_n 2, 1) := by decide +kernel
theorem dX6_pairsIn_2 : decode cX6_pairsIn 2 = .ok (.iconst 0, 1) := by decide +kernel
theorem dX6_pairsIn_3 : decode cX6_pairsIn 3 = .ok (.istore_n 3, 1) := by decide +kernel
theorem dX6_pairsIn_4 : decode cX6_pairsIn 4 = .ok (.iload_n 3, 1) := by decide +kernel
theorem dX6_pairsIn_5 : decode cX6_pairsIn 5 = .ok (.aload_n 0, 1) := by decide +kernel
theorem dX6_pairsIn_6 : decode cX6_pairsIn 6 = .ok (.getfield 7, 3) := by decide +kernel
theorem dX6_pairsIn_9 : decode cX6_pairsIn 9 = .ok (.iconst 0, 1) := by decide +kernel
theorem dX6_pairsIn_10 : decode cX6_pairsIn 10 = .ok (.iaload, 1) := by decide +kernel
theorem dX6_pairsIn_11 : decode cX6_pairsIn 11 = .ok (.if_icmp .ge 33, 3) := by decide +kernel
theorem dX6_pairsIn_14 : decode cX6_pairsIn 14 = .ok (.iload_n 2, 1) := by decide +kernel
theorem dX6_pairsIn_15 : decode cX6_pairsIn 15 = .ok (.iload_n 1, 1) := by decide +kernel
theorem dX6_pairsIn_16 : decode cX6_pairsIn 16 = .ok (.iload_n 3, 1) := by decide +kernel
theorem dX6_pairsIn_17 : decode cX6_pairsIn 17 = .ok (.ishr, 1) := by decide +kernel
theorem dX6_pairsIn_18 : decode cX6_pairsIn 18 = .ok (.iconst 1, 1) := by decide +kernel
theorem dX6_pairsIn_19 : decode cX6_pairsIn 19 = .ok (.iand, 1) := by decide +kernel
theorem dX6_pairsIn_20 : decode cX6_pairsIn 20 = .ok (.iconst 1, 1) := by decide +kernel
theorem dX6_pairsIn_21 : decode cX6_pairsIn 21 = .ok (.if_icmp .ne 14, 3) := by decide +kernel
theorem dX6_pairsIn_24 : decode cX6_pairsIn 24 = .ok (.aload_n 0, 1) := by decide +kernel
theorem dX6_pairsIn_25 : decode cX6_pairsIn 25 = .ok (.iload_n 3, 1) := by decide +kernel
theorem dX6_pairsIn_26 : decode cX6_pairsIn 26 = .ok (.invokevirtual 199, 3) := by decide +kernel
theorem dX6_pairsIn_29 : decode cX6_pairsIn 29 = .ok (.invokestatic 189, 3) := by decide +kernel
theorem dX6_pairsIn_32 : decode cX6_pairsIn 32 = .ok (.goto 4, 3) := by decide +kernel
theorem dX6_pairsIn_35 : decode cX6_pairsIn 35 = .ok (.iconst 0, 1) := by decide +kernel
theorem dX6_pairsIn_36 : decode cX6_pairsIn 36 = .ok (.iadd, 1) := by decide +kernel
theorem dX6_pairsIn_37 : decode cX6_pairsIn 37 = .ok (.istore_n 2, 1) := by decide +kernel
theorem dX6_pairsIn_38 : decode cX6_pairsIn 38 = .ok (.iinc 3 1, 3) := by decide +kernel
theorem dX6_pairsIn_41 : decode cX6_pairsIn 41 = .ok (.goto (-37), 3) := by decide +kernel
theorem dX6_pairsIn_44 : decode cX6_pairsIn 44 = .ok (.iload_n 2, 1) := by decide +kernel
theorem dX6_pairsIn_45 : decode cX6_pairsIn 45 = .ok (.ireturn, 1) := by decide +kernel
theorem dX6_ofPart_0 : decode cX6_ofPart 0 = .ok (.aload_n 0, 1) := by decide +kernel
theorem dX6_ofPart_1 : decode cX6_ofPart 1 = .ok (.invokevirtual 253, 3) := by decide +kernel
theorem dX6_ofPart_4 : decode cX6_ofPart 4 = .ok (.aload_n 0, 1) := by decide +kernel
theorem dX6_ofPart_5 : decode cX6_ofPart 5 = .ok (.iload_n 1, 1) := by decide +kernel
theorem dX6_ofPart_6 : decode cX6_ofPart 6 = .ok (.iload_n 2, 1) := by decide +kernel
theorem dX6_ofPart_7 : decode cX6_ofPart 7 = .ok (.invokevirtual 229, 3) := by decide +kernel
theorem dX6_ofPart_10 : decode cX6_ofPart 10 = .ok (.istore 4, 2) := by decide +kernel
theorem dX6_ofPart_12 : decode cX6_ofPart 12 = .ok (.iload_n 3, 1) := by decide +kernel
theorem dX6_ofPart_13 : decode cX6_ofPart 13 = .ok (.iconst 5, 1) := by decide +kernel
theorem dX6_ofPart_14 : decode cX6_ofPart 14 = .ok (.if_icmp .ne 11, 3) := by decide +kernel
theorem dX6_ofPart_17 : decode cX6_ofPart 17 = .ok (.iload 4, 2) := by decide +kernel
theorem dX6_ofPart_19 : decode cX6_ofPart 19 = .ok (.bipush 31, 2) := by decide +kernel
theorem dX6_ofPart_21 : decode cX6_ofPart 21 = .ok (.iand, 1) := by decide +kernel
theorem dX6_ofPart_22 : decode cX6_ofPart 22 = .ok (.goto 24, 3) := by decide +kernel
theorem dX6_ofPart_25 : decode cX6_ofPart 25 = .ok (.iload_n 3, 1) := by decide +kernel
theorem dX6_ofPart_26 : decode cX6_ofPart 26 = .ok (.bipush 6, 2) := by decide +kernel
theorem dX6_ofPart_28 : decode cX6_ofPart 28 = .ok (.if_icmp .ne 13, 3) := by decide +kernel
theorem dX6_ofPart_31 : decode cX6_ofPart 31 = .ok (.iload 4, 2) := by decide +kernel
theorem dX6_ofPart_33 : decode cX6_ofPart 33 = .ok (.iconst 5, 1) := by decide +kernel
theorem dX6_ofPart_34 : decode cX6_ofPart 34 = .ok (.ishr, 1) := by decide +kernel
theorem dX6_ofPart_35 : decode cX6_ofPart 35 = .ok (.bipush 31, 2) := by decide +kernel
theorem dX6_ofPart_37 : decode cX6_ofPart 37 = .ok (.iand, 1) := by decide +kernel
theorem dX6_ofPart_38 : decode cX6_ofPart 38 = .ok (.goto 8, 3) := by decide +kernel
theorem dX6_ofPart_41 : decode cX6_ofPart 41 = .ok (.iload 4, 2) := by decide +kernel
theorem dX6_ofPart_43 : decode cX6_ofPart 43 = .ok (.bipush 10, 2) := by decide +kernel
theorem dX6_ofPart_45 : decode cX6_ofPart 45 = .ok (.ishr, 1) := by decide +kernel
theorem dX6_ofPart_46 : decode cX6_ofPart 46 = .ok (.ireturn, 1) := by decide +kernel
theorem dX6_value_0 : decode cX6_value 0 = .ok (.aload_n 0, 1) := by decide +kernel
theorem dX6_value_1 : decode cX6_value 1 = .ok (.iconst 0, 1) := by decide +kernel
theorem dX6_value_2 : decode cX6_value 2 = .ok (.putfield 47, 3) := by decide +kernel
theorem dX6_value_5 : decode cX6_value 5 = .ok (.aload_n 0, 1) := by decide +kernel
theorem dX6_value_6 : decode cX6_value 6 = .ok (.invokevirtual 253, 3) := by decide +kernel
theorem dX6_value_9 : decode cX6_value 9 = .ok (.aload_n 0, 1) := by decide +kernel
theorem dX6_value_10 : decode cX6_value 10 = .ok (.invokevirtual 256, 3) := by decide +kernel
theorem dX6_value_13 : decode cX6_value 13 = .ok (.ireturn, 1) := by decide +kernel
theorem dX6_valueIf_0 : decode cX6_valueIf 0 = .ok (.aload_n 0, 1) := by decide +kernel
theorem dX6_valueIf_1 : decode cX6_valueIf 1 = .ok (.aload_n 0, 1) := by decide +kernel
theorem dX6_valueIf_2 : decode cX6_valueIf 2 = .ok (.iload_n 1, 1) := by decide +kernel
theorem dX6_valueIf_3 : decode cX6_valueIf 3 = .ok (.invokevirtual 220, 3) := by decide +kernel
theorem dX6_valueIf_6 : decode cX6_valueIf 6 = .ok (.ifCond .eq 11, 3) := by decide +kernel
theorem dX6_valueIf_9 : decode cX6_valueIf 9 = .ok (.aload_n 0, 1) := by decide +kernel
theorem dX6_valueIf_10 : decode cX6_valueIf 10 = .ok (.iload_n 2, 1) := by decide +kernel
theorem dX6_valueIf_11 : decode cX6_valueIf 11 = .ok (.invokevirtual 226, 3) := by decide +kernel
theorem dX6_valueIf_14 : decode cX6_valueIf 14 = .ok (.ifCond .ne 7, 3) := by decide +kernel
theorem dX6_valueIf_17 : decode cX6_valueIf 17 = .ok (.iconst 1, 1) := by decide +kernel
theorem dX6_valueIf_18 : decode cX6_valueIf 18 = .ok (.goto 17, 3) := by decide +kernel
theorem dX6_valueIf_21 : decode cX6_valueIf 21 = .ok (.aload_n 0, 1) := by decide +kernel
theorem dX6_valueIf_22 : decode cX6_valueIf 22 = .ok (.iload_n 1, 1) := by decide +kernel
theorem dX6_valueIf_23 : decode cX6_valueIf 23 = .ok (.iload_n 2, 1) := by decide +kernel
theorem dX6_valueIf_24 : decode cX6_valueIf 24 = .ok (.invokevirtual 127, 3) := by decide +kernel
theorem dX6_valueIf_27 : decode cX6_valueIf 27 = .ok (.ifCond .le 7, 3) := by decide +kernel
theorem dX6_valueIf_30 : decode cX6_valueIf 30 = .ok (.iconst 2, 1) := by decide +kernel
theorem dX6_valueIf_31 : decode cX6_valueIf 31 = .ok (.goto 4, 3) := by decide +kernel
theorem dX6_valueIf_34 : decode cX6_valueIf 34 = .ok (.iconst 0, 1) := by decide +kernel
theorem dX6_valueIf_35 : decode cX6_valueIf 35 = .ok (.putfield 47, 3) := by decide +kernel
theorem dX6_valueIf_38 : decode cX6_valueIf 38 = .ok (.aload_n 0, 1) := by decide +kernel
theorem dX6_valueIf_39 : decode cX6_valueIf 39 = .ok (.getfield 47, 3) := by decide +kernel
theorem dX6_valueIf_42 : decode cX6_valueIf 42 = .ok (.ifCond .le 5, 3) := by decide +kernel
theorem dX6_valueIf_45 : decode cX6_valueIf 45 = .ok (.iconst 0, 1) := by decide +kernel
theorem dX6_valueIf_46 : decode cX6_valueIf 46 = .ok (.ireturn, 1) := by decide +kernel
theorem dX6_valueIf_47 : decode cX6_valueIf 47 = .ok (.aload_n 0, 1) := by decide +kernel
theorem dX6_valueIf_48 : decode cX6_valueIf 48 = .ok (.invokevirtual 253, 3) := by decide +kernel
theorem dX6_valueIf_51 : decode cX6_valueIf 51 = .ok (.aload_n 0, 1) := by decide +kernel
theorem dX6_valueIf_52 : decode cX6_valueIf 52 = .ok (.iload_n 1, 1) := by decide +kernel
theorem dX6_valueIf_53 : decode cX6_valueIf 53 = .ok (.iload_n 2, 1) := by decide +kernel
theorem dX6_valueIf_54 : decode cX6_valueIf 54 = .ok (.invokevirtual 241, 3) := by decide +kernel
theorem dX6_valueIf_57 : decode cX6_valueIf 57 = .ok (.bipush 31, 2) := by decide +kernel
theorem dX6_valueIf_59 : decode cX6_valueIf 59 = .ok (.iand, 1) := by decide +kernel
theorem dX6_valueIf_60 : decode cX6_valueIf 60 = .ok (.aload_n 0, 1) := by decide +kernel
theorem dX6_valueIf_61 : decode cX6_valueIf 61 = .ok (.getfield 7, 3) := by decide +kernel
theorem dX6_valueIf_64 : decode cX6_valueIf 64 = .ok (.iconst 2, 1) := by decide +kernel
theorem dX6_valueIf_65 : decode cX6_valueIf 65 = .ok (.iaload, 1) := by decide +kernel
theorem dX6_valueIf_66 : decode cX6_valueIf 66 = .ok (.iconst 2, 1) := by decide +kernel
theorem dX6_valueIf_67 : decode cX6_valueIf 67 = .ok (.irem, 1) := by decide +kernel
theorem dX6_valueIf_68 : decode cX6_valueIf 68 = .ok (.ixor, 1) := by decide +kernel
theorem dX6_valueIf_69 : decode cX6_valueIf 69 = .ok (.ireturn, 1) := by decide +kernel
theorem dX6_winningMoves_0 : decode cX6_winningMoves 0 = .ok (.aload_n 0, 1) := by decide +kernel
theorem dX6_winningMoves_1 : decode cX6_winningMoves 1 = .ok (.iconst 0, 1) := by decide +kernel
theorem dX6_winningMoves_2 : decode cX6_winningMoves 2 = .ok (.putfield 47, 3) := by decide +kernel
theorem dX6_winningMoves_5 : decode cX6_winningMoves 5 = .ok (.aload_n 0, 1) := by decide +kernel
theorem dX6_winningMoves_6 : decode cX6_winningMoves 6 = .ok (.invokevirtual 253, 3) := by decide +kernel
theorem dX6_winningMoves_9 : decode cX6_winningMoves 9 = .ok (.aload_n 0, 1) := by decide +kernel
theorem dX6_winningMoves_10 : decode cX6_winningMoves 10 = .ok (.invokevirtual 259, 3) := by decide +kernel
theorem dX6_winningMoves_13 : decode cX6_winningMoves 13 = .ok (.ifCond .eq 7, 3) := by decide +kernel
theorem dX6_winningMoves_16 : decode cX6_winningMoves 16 = .ok (.iconst 1, 1) := by decide +kernel
theorem dX6_winningMoves_17 : decode cX6_winningMoves 17 = .ok (.goto 4, 3) := by decide +kernel
theorem dX6_winningMoves_20 : decode cX6_winningMoves 20 = .ok (.iconst 0, 1) := by decide +kernel
theorem dX6_winningMoves_21 : decode cX6_winningMoves 21 = .ok (.istore_n 1, 1) := by decide +kernel
theorem dX6_winningMoves_22 : decode cX6_winningMoves 22 = .ok (.iconst 0, 1) := by decide +kernel
theorem dX6_winningMoves_23 : decode cX6_winningMoves 23 = .ok (.istore_n 2, 1) := by decide +kernel
theorem dX6_winningMoves_24 : decode cX6_winningMoves 24 = .ok (.iload_n 2, 1) := by decide +kernel
theorem dX6_winningMoves_25 : decode cX6_winningMoves 25 = .ok (.aload_n 0, 1) := by decide +kernel
theorem dX6_winningMoves_26 : decode cX6_winningMoves 26 = .ok (.getfield 7, 3) := by decide +kernel
theorem dX6_winningMoves_29 : decode cX6_winningMoves 29 = .ok (.iconst 0, 1) := by decide +kernel
theorem dX6_winningMoves_30 : decode cX6_winningMoves 30 = .ok (.iaload, 1) := by decide +kernel
theorem dX6_winningMoves_31 : decode cX6_winningMoves 31 = .ok (.if_icmp .ge 20, 3) := by decide +kernel
theorem dX6_winningMoves_34 : decode cX6_winningMoves 34 = .ok (.iload_n 1, 1) := by decide +kernel
theorem dX6_winningMoves_35 : decode cX6_winningMoves 35 = .ok (.aload_n 0, 1) := by decide +kernel
theorem dX6_winningMoves_36 : decode cX6_winningMoves 36 = .ok (.iload_n 2, 1) := by decide +kernel
theorem dX6_winningMoves_37 : decode cX6_winningMoves 37 = .ok (.invokevirtual 262, 3) := by decide +kernel
theorem dX6_winningMoves_40 : decode cX6_winningMoves 40 = .ok (.invokestatic 189, 3) := by decide +kernel
theorem dX6_winningMoves_43 : decode cX6_winningMoves 43 = .ok (.iadd, 1) := by decide +kernel
theorem dX6_winningMoves_44 : decode cX6_winningMoves 44 = .ok (.istore_n 1, 1) := by decide +kernel
theorem dX6_winningMoves_45 : decode cX6_winningMoves 45 = .ok (.iinc 2 1, 3) := by decide +kernel
theorem dX6_winningMoves_48 : decode cX6_winningMoves 48 = .ok (.goto (-24), 3) := by decide +kernel
theorem dX6_winningMoves_51 : decode cX6_winningMoves 51 = .ok (.iload_n 1, 1) := by decide +kernel
theorem dX6_winningMoves_52 : decode cX6_winningMoves 52 = .ok (.ireturn, 1) := by decide +kernel
theorem dX6_winningColours_0 : decode cX6_winningColours 0 = .ok (.aload_n 0, 1) := by decide +kernel
theorem dX6_winningColours_1 : decode cX6_winningColours 1 = .ok (.aload_n 0, 1) := by decide +kernel
theorem dX6_winningColours_2 : decode cX6_winningColours 2 = .ok (.iload_n 1, 1) := by decide +kernel
theorem dX6_winningColours_3 : decode cX6_winningColours 3 = .ok (.invokevirtual 220, 3) := by decide +kernel
theorem dX6_winningColours_6 : decode cX6_winningColours 6 = .ok (.ifCond .eq 7, 3) := by decide +kernel
theorem dX6_winningColours_9 : decode cX6_winningColours 9 = .ok (.iconst 0, 1) := by decide +kernel
theorem dX6_winningColours_10 : decode cX6_winningColours 10 = .ok (.goto 4, 3) := by decide +kernel
theorem dX6_winningColours_13 : decode cX6_winningColours 13 = .ok (.iconst 1, 1) := by decide +kernel
theorem dX6_winningColours_14 : decode cX6_winningColours 14 = .ok (.putfield 47, 3) := by decide +kernel
theorem dX6_winningColours_17 : decode cX6_winningColours 17 = .ok (.aload_n 0, 1) := by decide +kernel
theorem dX6_winningColours_18 : decode cX6_winningColours 18 = .ok (.getfield 47, 3) := by decide +kernel
theorem dX6_winningColours_21 : decode cX6_winningColours 21 = .ok (.ifCond .le 5, 3) := by decide +kernel
theorem dX6_winningColours_24 : decode cX6_winningColours 24 = .ok (.iconst 0, 1) := by decide +kernel
theorem dX6_winningColours_25 : decode cX6_winningColours 25 = .ok (.ireturn, 1) := by decide +kernel
theorem dX6_winningColours_26 : decode cX6_winningColours 26 = .ok (.aload_n 0, 1) := by decide +kernel
theorem dX6_winningColours_27 : decode cX6_winningColours 27 = .ok (.invokevirtual 253, 3) := by decide +kernel
theorem dX6_winningColours_30 : decode cX6_winningColours 30 = .ok (.aload_n 0, 1) := by decide +kernel
theorem dX6_winningColours_31 : decode cX6_winningColours 31 = .ok (.iload_n 1, 1) := by decide +kernel
theorem dX6_winningColours_32 : decode cX6_winningColours 32 = .ok (.invokevirtual 262, 3) := by decide +kernel
theorem dX6_winningColours_35 : decode cX6_winningColours 35 = .ok (.ireturn, 1) := by decide +kernel
theorem dX6_best_0 : decode cX6_best 0 = .ok (.iconst 0, 1) := by decide +kernel
theorem dX6_best_1 : decode cX6_best 1 = .ok (.istore_n 1, 1) := by decide +kernel
theorem dX6_best_2 : decode cX6_best 2 = .ok (.iload_n 1, 1) := by decide +kernel
theorem dX6_best_3 : decode cX6_best 3 = .ok (.aload_n 0, 1) := by decide +kernel
theorem dX6_best_4 : decode cX6_best 4 = .ok (.getfield 7, 3) := by decide +kernel
theorem dX6_best_7 : decode cX6_best 7 = .ok (.iconst 0, 1) := by decide +kernel
theorem dX6_best_8 : decode cX6_best 8 = .ok (.iaload, 1) := by decide +kernel
theorem dX6_best_9 : decode cX6_best 9 = .ok (.if_icmp .ge 30, 3) := by decide +kernel
theorem dX6_best_12 : decode cX6_best 12 = .ok (.aload_n 0, 1) := by decide +kernel
theorem dX6_best_13 : decode cX6_best 13 = .ok (.iload_n 1, 1) := by decide +kernel
theorem dX6_best_14 : decode cX6_best 14 = .ok (.invokevirtual 262, 3) := by decide +kernel
theorem dX6_best_17 : decode cX6_best 17 = .ok (.ifCond .le 16, 3) := by decide +kernel
theorem dX6_best_20 : decode cX6_best 20 = .ok (.iconst 4, 1) := by decide +kernel
theorem dX6_best_21 : decode cX6_best 21 = .ok (.iload_n 1, 1) := by decide +kernel
theorem dX6_best_22 : decode cX6_best 22 = .ok (.imul, 1) := by decide +kernel
theorem dX6_best_23 : decode cX6_best 23 = .ok (.aload_n 0, 1) := by decide +kernel
theorem dX6_best_24 : decode cX6_best 24 = .ok (.iload_n 1, 1) := by decide +kernel
theorem dX6_best_25 : decode cX6_best 25 = .ok (.invokevirtual 262, 3) := by decide +kernel
theorem dX6_best_28 : decode cX6_best 28 = .ok (.invokestatic 174, 3) := by decide +kernel
theorem dX6_best_31 : decode cX6_best 31 = .ok (.iadd, 1) := by decide +kernel
theorem dX6_best_32 : decode cX6_best 32 = .ok (.ireturn, 1) := by decide +kernel
theorem dX6_best_33 : decode cX6_best 33 = .ok (.iinc 1 1, 3) := by decide +kernel
theorem dX6_best_36 : decode cX6_best 36 = .ok (.goto (-34), 3) := by decide +kernel
theorem dX6_best_39 : decode cX6_best 39 = .ok (.aload_n 0, 1) := by decide +kernel
theorem dX6_best_40 : decode cX6_best 40 = .ok (.invokevirtual 259, 3) := by decide +kernel
theorem dX6_best_43 : decode cX6_best 43 = .ok (.ifCond .eq 6, 3) := by decide +kernel
theorem dX6_best_46 : decode cX6_best 46 = .ok (.bipush 100, 2) := by decide +kernel
theorem dX6_best_48 : decode cX6_best 48 = .ok (.ireturn, 1) := by decide +kernel
theorem dX6_best_49 : decode cX6_best 49 = .ok (.iconst (-1), 1) := by decide +kernel
theorem dX6_best_50 : decode cX6_best 50 = .ok (.istore_n 1, 1) := by decide +kernel
theorem dX6_best_51 : decode cX6_best 51 = .ok (.iconst 0, 1) := by decide +kernel
theorem dX6_best_52 : decode cX6_best 52 = .ok (.istore_n 2, 1) := by decide +kernel
theorem dX6_best_53 : decode cX6_best 53 = .ok (.iconst 0, 1) := by decide +kernel
theorem dX6_best_54 : decode cX6_best 54 = .ok (.istore_n 3, 1) := by decide +kernel
theorem dX6_best_55 : decode cX6_best 55 = .ok (.iload_n 3, 1) := by decide +kernel
theorem dX6_best_56 : decode cX6_best 56 = .ok (.aload_n 0, 1) := by decide +kernel
theorem dX6_best_57 : decode cX6_best 57 = .ok (.getfield 7, 3) := by decide +kernel
theorem dX6_best_60 : decode cX6_best 60 = .ok (.iconst 0, 1) := by decide +kernel
theorem dX6_best_61 : decode cX6_best 61 = .ok (.iaload, 1) := by decide +kernel
theorem dX6_best_62 : decode cX6_best 62 = .ok (.if_icmp .ge 102, 3) := by decide +kernel
theorem dX6_best_65 : decode cX6_best 65 = .ok (.aload_n 0, 1) := by decide +kernel
theorem dX6_best_66 : decode cX6_best 66 = .ok (.iload_n 3, 1) := by decide +kernel
theorem dX6_best_67 : decode cX6_best 67 = .ok (.invokevirtual 199, 3) := by decide +kernel
theorem dX6_best_70 : decode cX6_best 70 = .ok (.istore 4, 2) := by decide +kernel
theorem dX6_best_72 : decode cX6_best 72 = .ok (.iconst 0, 1) := by decide +kernel
theorem dX6_best_73 : decode cX6_best 73 = .ok (.istore 5, 2) := by decide +kernel
theorem dX6_best_75 : decode cX6_best 75 = .ok (.iload 5, 2) := by decide +kernel
theorem dX6_best_77 : decode cX6_best 77 = .ok (.aload_n 0, 1) := by decide +kernel
theorem dX6_best_78 : decode cX6_best 78 = .ok (.getfield 7, 3) := by decide +kernel
theorem dX6_best_81 : decode cX6_best 81 = .ok (.iconst 1, 1) := by decide +kernel
theorem dX6_best_82 : decode cX6_best 82 = .ok (.iaload, 1) := by decide +kernel
theorem dX6_best_83 : decode cX6_best 83 = .ok (.if_icmp .ge 75, 3) := by decide +kernel
theorem dX6_best_86 : decode cX6_best 86 = .ok (.iload 4, 2) := by decide +kernel
theorem dX6_best_88 : decode cX6_best 88 = .ok (.iload 5, 2) := by decide +kernel
theorem dX6_best_90 : decode cX6_best 90 = .ok (.ishr, 1) := by decide +kernel
theorem dX6_best_91 : decode cX6_best 91 = .ok (.iconst 1, 1) := by decide +kernel
theorem dX6_best_92 : decode cX6_best 92 = .ok (.iand, 1) := by decide +kernel
theorem dX6_best_93 : decode cX6_best 93 = .ok (.iconst 1, 1) := by decide +kernel
theorem dX6_best_94 : decode cX6_best 94 = .ok (.if_icmp .ne 25, 3) := by decide +kernel
theorem dX6_best_97 : decode cX6_best 97 = .ok (.aload_n 0, 1) := by decide +kernel
theorem dX6_best_98 : decode cX6_best 98 = .ok (.iload_n 3, 1) := by decide +kernel
theorem dX6_best_99 : decode cX6_best 99 = .ok (.iload 5, 2) := by decide +kernel
theorem dX6_best_101 : decode cX6_best 101 = .ok (.invokevirtual 241, 3) := by decide +kernel
theorem dX6_best_104 : decode cX6_best 104 = .ok (.iconst 5, 1) := by decide +kernel
theorem dX6_best_105 : decode cX6_best 105 = .ok (.ishr, 1) := by decide +kernel
theorem dX6_best_106 : decode cX6_best 106 = .ok (.bipush 31, 2) := by decide +kernel
theorem dX6_best_108 : decode cX6_best 108 = .ok (.iand, 1) := by decide +kernel
theorem dX6_best_109 : decode cX6_best 109 = .ok (.aload_n 0, 1) := by decide +kernel
theorem dX6_best_110 : decode cX6_best 110 = .ok (.getfield 7, 3) := by decide +kernel
theorem dX6_best_113 : decode cX6_best 113 = .ok (.iconst 2, 1) := by decide +kernel
theorem dX6_best_114 : decode cX6_best 114 = .ok (.iaload, 1) := by decide +kernel
theorem dX6_best_115 : decode cX6_best 115 = .ok (.iadd, 1) := by decide +kernel
theorem dX6_best_116 : decode cX6_best 116 = .ok (.goto 4, 3) := by decide +kernel
theorem dX6_best_119 : decode cX6_best 119 = .ok (.iconst (-1), 1) := by decide +kernel
theorem dX6_best_120 : decode cX6_best 120 = .ok (.istore 6, 2) := by decide +kernel
theorem dX6_best_122 : decode cX6_best 122 = .ok (.iload 6, 2) := by decide +kernel
theorem dX6_best_124 : decode cX6_best 124 = .ok (.iconst (-1), 1) := by decide +kernel
theorem dX6_best_125 : decode cX6_best 125 = .ok (.if_icmp .eq 27, 3) := by decide +kernel
theorem dX6_best_128 : decode cX6_best 128 = .ok (.iload_n 1, 1) := by decide +kernel
theorem dX6_best_129 : decode cX6_best 129 = .ok (.iconst (-1), 1) := by decide +kernel
theorem dX6_best_130 : decode cX6_best 130 = .ok (.if_icmp .eq 12, 3) := by decide +kernel
theorem dX6_best_133 : decode cX6_best 133 = .ok (.iload 6, 2) := by decide +kernel
theorem dX6_best_135 : decode cX6_best 135 = .ok (.iload_n 2, 1) := by decide +kernel
theorem dX6_best_136 : decode cX6_best 136 = .ok (.if_icmp .gt 6, 3) := by decide +kernel
theorem dX6_best_139 : decode cX6_best 139 = .ok (.goto 13, 3) := by decide +kernel
theorem dX6_best_142 : decode cX6_best 142 = .ok (.iconst 4, 1) := by decide +kernel
theorem dX6_best_143 : decode cX6_best 143 = .ok (.iload_n 3, 1) := by decide +kernel
theorem dX6_best_144 : decode cX6_best 144 = .ok (.imul, 1) := by decide +kernel
theorem dX6_best_145 : decode cX6_best 145 = .ok (.iload 5, 2) := by decide +kernel
theorem dX6_best_147 : decode cX6_best 147 = .ok (.iadd, 1) := by decide +kernel
theorem dX6_best_148 : decode cX6_best 148 = .ok (.istore_n 1, 1) := by decide +kernel
theorem dX6_best_149 : decode cX6_best 149 = .ok (.iload 6, 2) := by decide +kernel
theorem dX6_best_151 : decode cX6_best 151 = .ok (.istore_n 2, 1) := by decide +kernel
theorem dX6_best_152 : decode cX6_best 152 = .ok (.iinc 5 1, 3) := by decide +kernel
theorem dX6_best_155 : decode cX6_best 155 = .ok (.goto (-80), 3) := by decide +kernel
theorem dX6_best_158 : decode cX6_best 158 = .ok (.iinc 3 1, 3) := by decide +kernel
theorem dX6_best_161 : decode cX6_best 161 = .ok (.goto (-106), 3) := by decide +kernel
theorem dX6_best_164 : decode cX6_best 164 = .ok (.aload_n 0, 1) := by decide +kernel
theorem dX6_best_165 : decode cX6_best 165 = .ok (.getfield 7, 3) := by decide +kernel
theorem dX6_best_168 : decode cX6_best 168 = .ok (.iconst 2, 1) := by decide +kernel
theorem dX6_best_169 : decode cX6_best 169 = .ok (.iaload, 1) := by decide +kernel
theorem dX6_best_170 : decode cX6_best 170 = .ok (.ifCond .le 33, 3) := by decide +kernel
theorem dX6_best_173 : decode cX6_best 173 = .ok (.iload_n 1, 1) := by decide +kernel
theorem dX6_best_174 : decode cX6_best 174 = .ok (.iconst (-1), 1) := by decide +kernel
theorem dX6_best_175 : decode cX6_best 175 = .ok (.if_icmp .eq 25, 3) := by decide +kernel
theorem dX6_best_178 : decode cX6_best 178 = .ok (.aload_n 0, 1) := by decide +kernel
theorem dX6_best_179 : decode cX6_best 179 = .ok (.invokevirtual 238, 3) := by decide +kernel
theorem dX6_best_182 : decode cX6_best 182 = .ok (.iconst 5, 1) := by decide +kernel
theorem dX6_best_183 : decode cX6_best 183 = .ok (.ishr, 1) := by decide +kernel
theorem dX6_best_184 : decode cX6_best 184 = .ok (.bipush 31, 2) := by decide +kernel
theorem dX6_best_186 : decode cX6_best 186 = .ok (.iand, 1) := by decide +kernel
theorem dX6_best_187 : decode cX6_best 187 = .ok (.aload_n 0, 1) := by decide +kernel
theorem dX6_best_188 : decode cX6_best 188 = .ok (.getfield 7, 3) := by decide +kernel
theorem dX6_best_191 : decode cX6_best 191 = .ok (.iconst 2, 1) := by decide +kernel
theorem dX6_best_192 : decode cX6_best 192 = .ok (.iaload, 1) := by decide +kernel
theorem dX6_best_193 : decode cX6_best 193 = .ok (.iadd, 1) := by decide +kernel
theorem dX6_best_194 : decode cX6_best 194 = .ok (.iconst 1, 1) := by decide +kernel
theorem dX6_best_195 : decode cX6_best 195 = .ok (.isub, 1) := by decide +kernel
theorem dX6_best_196 : decode cX6_best 196 = .ok (.iload_n 2, 1) := by decide +kernel
theorem dX6_best_197 : decode cX6_best 197 = .ok (.if_icmp .le 6, 3) := by decide +kernel
theorem dX6_best_200 : decode cX6_best 200 = .ok (.bipush 100, 2) := by decide +kernel
theorem dX6_best_202 : decode cX6_best 202 = .ok (.istore_n 1, 1) := by decide +kernel
theorem dX6_best_203 : decode cX6_best 203 = .ok (.iload_n 1, 1) := by decide +kernel
theorem dX6_best_204 : decode cX6_best 204 = .ok (.ireturn, 1) := by decide +kernel
theorem dX6_bestMove_0 : decode cX6_bestMove 0 = .ok (.aload_n 0, 1) := by decide +kernel
theorem dX6_bestMove_1 : decode cX6_bestMove 1 = .ok (.aload_n 0, 1) := by decide +kernel
theorem dX6_bestMove_2 : decode cX6_bestMove 2 = .ok (.invokevirtual 213, 3) := by decide +kernel
theorem dX6_bestMove_5 : decode cX6_bestMove 5 = .ok (.ifCond .eq 7, 3) := by decide +kernel
theorem dX6_bestMove_8 : decode cX6_bestMove 8 = .ok (.iconst 1, 1) := by decide +kernel
theorem dX6_bestMove_9 : decode cX6_bestMove 9 = .ok (.goto 4, 3) := by decide +kernel
theorem dX6_bestMove_12 : decode cX6_bestMove 12 = .ok (.iconst 0, 1) := by decide +kernel
theorem dX6_bestMove_13 : decode cX6_bestMove 13 = .ok (.putfield 47, 3) := by decide +kernel
theorem dX6_bestMove_16 : decode cX6_bestMove 16 = .ok (.aload_n 0, 1) := by decide +kernel
theorem dX6_bestMove_17 : decode cX6_bestMove 17 = .ok (.getfield 47, 3) := by decide +kernel
theorem dX6_bestMove_20 : decode cX6_bestMove 20 = .ok (.ifCond .le 5, 3) := by decide +kernel
theorem dX6_bestMove_23 : decode cX6_bestMove 23 = .ok (.iconst 0, 1) := by decide +kernel
theorem dX6_bestMove_24 : decode cX6_bestMove 24 = .ok (.ireturn, 1) := by decide +kernel
theorem dX6_bestMove_25 : decode cX6_bestMove 25 = .ok (.aload_n 0, 1) := by decide +kernel
theorem dX6_bestMove_26 : decode cX6_bestMove 26 = .ok (.invokevirtual 253, 3) := by decide +kernel
theorem dX6_bestMove_29 : decode cX6_bestMove 29 = .ok (.aload_n 0, 1) := by decide +kernel
theorem dX6_bestMove_30 : decode cX6_bestMove 30 = .ok (.invokevirtual 265, 3) := by decide +kernel
theorem dX6_bestMove_33 : decode cX6_bestMove 33 = .ok (.ireturn, 1) := by decide +kernel
theorem dX6_longest_0 : decode cX6_longest 0 = .ok (.aload_n 0, 1) := by decide +kernel
theorem dX6_longest_1 : decode cX6_longest 1 = .ok (.iconst 0, 1) := by decide +kernel
theorem dX6_longest_2 : decode cX6_longest 2 = .ok (.putfield 47, 3) := by decide +kernel
theorem dX6_longest_5 : decode cX6_longest 5 = .ok (.aload_n 0, 1) := by decide +kernel
theorem dX6_longest_6 : decode cX6_longest 6 = .ok (.invokevirtual 253, 3) := by decide +kernel
theorem dX6_longest_9 : decode cX6_longest 9 = .ok (.aload_n 0, 1) := by decide +kernel
theorem dX6_longest_10 : decode cX6_longest 10 = .ok (.invokevirtual 238, 3) := by decide +kernel
theorem dX6_longest_13 : decode cX6_longest 13 = .ok (.iconst 5, 1) := by decide +kernel
theorem dX6_longest_14 : decode cX6_longest 14 = .ok (.ishr, 1) := by decide +kernel
theorem dX6_longest_15 : decode cX6_longest 15 = .ok (.bipush 31, 2) := by decide +kernel
theorem dX6_longest_17 : decode cX6_longest 17 = .ok (.iand, 1) := by decide +kernel
theorem dX6_longest_18 : decode cX6_longest 18 = .ok (.aload_n 0, 1) := by decide +kernel
theorem dX6_longest_19 : decode cX6_longest 19 = .ok (.getfield 7, 3) := by decide +kernel
theorem dX6_longest_22 : decode cX6_longest 22 = .ok (.iconst 2, 1) := by decide +kernel
theorem dX6_longest_23 : decode cX6_longest 23 = .ok (.iaload, 1) := by decide +kernel
theorem dX6_longest_24 : decode cX6_longest 24 = .ok (.iadd, 1) := by decide +kernel
theorem dX6_longest_25 : decode cX6_longest 25 = .ok (.ireturn, 1) := by decide +kernel
theorem dX6_shortest_0 : decode cX6_shortest 0 = .ok (.aload_n 0, 1) := by decide +kernel
theorem dX6_shortest_1 : decode cX6_shortest 1 = .ok (.iconst 0, 1) := by decide +kernel
theorem dX6_shortest_2 : decode cX6_shortest 2 = .ok (.putfield 47, 3) := by decide +kernel
theorem dX6_shortest_5 : decode cX6_shortest 5 = .ok (.aload_n 0, 1) := by decide +kernel
theorem dX6_shortest_6 : decode cX6_shortest 6 = .ok (.invokevirtual 253, 3) := by decide +kernel
theorem dX6_shortest_9 : decode cX6_shortest 9 = .ok (.aload_n 0, 1) := by decide +kernel
theorem dX6_shortest_10 : decode cX6_shortest 10 = .ok (.invokevirtual 238, 3) := by decide +kernel
theorem dX6_shortest_13 : decode cX6_shortest 13 = .ok (.bipush 10, 2) := by decide +kernel
theorem dX6_shortest_15 : decode cX6_shortest 15 = .ok (.ishr, 1) := by decide +kernel
theorem dX6_shortest_16 : decode cX6_shortest 16 = .ok (.aload_n 0, 1) := by decide +kernel
theorem dX6_shortest_17 : decode cX6_shortest 17 = .ok (.getfield 7, 3) := by decide +kernel
theorem dX6_shortest_20 : decode cX6_shortest 20 = .ok (.iconst 2, 1) := by decide +kernel
theorem dX6_shortest_21 : decode cX6_shortest 21 = .ok (.iaload, 1) := by decide +kernel
theorem dX6_shortest_22 : decode cX6_shortest 22 = .ok (.iadd, 1) := by decide +kernel
theorem dX6_shortest_23 : decode cX6_shortest 23 = .ok (.ireturn, 1) := by decide +kernel
theorem dX6_meanValue_0 : decode cX6_meanValue 0 = .ok (.aload_n 0, 1) := by decide +kernel
theorem dX6_meanValue_1 : decode cX6_meanValue 1 = .ok (.iconst 0, 1) := by decide +kernel
theorem dX6_meanValue_2 : decode cX6_meanValue 2 = .ok (.putfield 47, 3) := by decide +kernel
theorem dX6_meanValue_5 : decode cX6_meanValue 5 = .ok (.aload_n 0, 1) := by decide +kernel
theorem dX6_meanValue_6 : decode cX6_meanValue 6 = .ok (.invokevirtual 253, 3) := by decide +kernel
theorem dX6_meanValue_9 : decode cX6_meanValue 9 = .ok (.aload_n 0, 1) := by decide +kernel
theorem dX6_meanValue_10 : decode cX6_meanValue 10 = .ok (.aload_n 0, 1) := by decide +kernel
theorem dX6_meanValue_11 : decode cX6_meanValue 11 = .ok (.invokevirtual 180, 3) := by decide +kernel
theorem dX6_meanValue_14 : decode cX6_meanValue 14 = .ok (.invokevirtual 207, 3) := by decide +kernel
theorem dX6_meanValue_17 : decode cX6_meanValue 17 = .ok (.istore_n 1, 1) := by decide +kernel
theorem dX6_meanValue_18 : decode cX6_meanValue 18 = .ok (.iconst 0, 1) := by decide +kernel
theorem dX6_meanValue_19 : decode cX6_meanValue 19 = .ok (.istore_n 2, 1) := by decide +kernel
theorem dX6_meanValue_20 : decode cX6_meanValue 20 = .ok (.iconst 0, 1) := by decide +kernel
theorem dX6_meanValue_21 : decode cX6_meanValue 21 = .ok (.istore_n 3, 1) := by decide +kernel
theorem dX6_meanValue_22 : decode cX6_meanValue 22 = .ok (.iload_n 3, 1) := by decide +kernel
theorem dX6_meanValue_23 : decode cX6_meanValue 23 = .ok (.iload_n 1, 1) := by decide +kernel
theorem dX6_meanValue_24 : decode cX6_meanValue 24 = .ok (.if_icmp .ge 36, 3) := by decide +kernel
theorem dX6_meanValue_27 : decode cX6_meanValue 27 = .ok (.iload_n 2, 1) := by decide +kernel
theorem dX6_meanValue_28 : decode cX6_meanValue 28 = .ok (.aload_n 0, 1) := by decide +kernel
theorem dX6_meanValue_29 : decode cX6_meanValue 29 = .ok (.aload_n 0, 1) := by decide +kernel
theorem dX6_meanValue_30 : decode cX6_meanValue 30 = .ok (.iload_n 3, 1) := by decide +kernel
theorem dX6_meanValue_31 : decode cX6_meanValue 31 = .ok (.invokevirtual 244, 3) := by decide +kernel
theorem dX6_meanValue_34 : decode cX6_meanValue 34 = .ok (.aload_n 0, 1) := by decide +kernel
theorem dX6_meanValue_35 : decode cX6_meanValue 35 = .ok (.aload_n 0, 1) := by decide +kernel
theorem dX6_meanValue_36 : decode cX6_meanValue 36 = .ok (.iload_n 3, 1) := by decide +kernel
theorem dX6_meanValue_37 : decode cX6_meanValue 37 = .ok (.invokevirtual 244, 3) := by decide +kernel
theorem dX6_meanValue_40 : decode cX6_meanValue 40 = .ok (.invokestatic 174, 3) := by decide +kernel
theorem dX6_meanValue_43 : decode cX6_meanValue 43 = .ok (.invokevirtual 192, 3) := by decide +kernel
theorem dX6_meanValue_46 : decode cX6_meanValue 46 = .ok (.invokevirtual 229, 3) := by decide +kernel
theorem dX6_meanValue_49 : decode cX6_meanValue 49 = .ok (.bipush 31, 2) := by decide +kernel
theorem dX6_meanValue_51 : decode cX6_meanValue 51 = .ok (.iand, 1) := by decide +kernel
theorem dX6_meanValue_52 : decode cX6_meanValue 52 = .ok (.iadd, 1) := by decide +kernel
theorem dX6_meanValue_53 : decode cX6_meanValue 53 = .ok (.istore_n 2, 1) := by decide +kernel
theorem dX6_meanValue_54 : decode cX6_meanValue 54 = .ok (.iinc 3 1, 3) := by decide +kernel
theorem dX6_meanValue_57 : decode cX6_meanValue 57 = .ok (.goto (-35), 3) := by decide +kernel
theorem dX6_meanValue_60 : decode cX6_meanValue 60 = .ok (.iload_n 1, 1) := by decide +kernel
theorem dX6_meanValue_61 : decode cX6_meanValue 61 = .ok (.ifCond .ne 7, 3) := by decide +kernel
theorem dX6_meanValue_64 : decode cX6_meanValue 64 = .ok (.fconst 0, 1) := by decide +kernel
theorem dX6_meanValue_65 : decode cX6_meanValue 65 = .ok (.goto 8, 3) := by decide +kernel
theorem dX6_meanValue_68 : decode cX6_meanValue 68 = .ok (.iload_n 2, 1) := by decide +kernel
theorem dX6_meanValue_69 : decode cX6_meanValue 69 = .ok (.i2f, 1) := by decide +kernel
theorem dX6_meanValue_70 : decode cX6_meanValue 70 = .ok (.iload_n 1, 1) := by decide +kernel
theorem dX6_meanValue_71 : decode cX6_meanValue 71 = .ok (.i2f, 1) := by decide +kernel
theorem dX6_meanValue_72 : decode cX6_meanValue 72 = .ok (.fdiv, 1) := by decide +kernel
theorem dX6_meanValue_73 : decode cX6_meanValue 73 = .ok (.freturn, 1) := by decide +kernel
theorem dX6_falls_0 : decode cX6_falls 0 = .ok (.aload_n 0, 1) := by decide +kernel
theorem dX6_falls_1 : decode cX6_falls 1 = .ok (.aload_n 0, 1) := by decide +kernel
theorem dX6_falls_2 : decode cX6_falls 2 = .ok (.iload_n 1, 1) := by decide +kernel
theorem dX6_falls_3 : decode cX6_falls 3 = .ok (.invokevirtual 220, 3) := by decide +kernel
theorem dX6_falls_6 : decode cX6_falls 6 = .ok (.ifCond .ne 7, 3) := by decide +kernel
theorem dX6_falls_9 : decode cX6_falls 9 = .ok (.iconst 1, 1) := by decide +kernel
theorem dX6_falls_10 : decode cX6_falls 10 = .ok (.goto 16, 3) := by decide +kernel
theorem dX6_falls_13 : decode cX6_falls 13 = .ok (.aload_n 0, 1) := by decide +kernel
theorem dX6_falls_14 : decode cX6_falls 14 = .ok (.iload_n 1, 1) := by decide +kernel
theorem dX6_falls_15 : decode cX6_falls 15 = .ok (.invokevirtual 170, 3) := by decide +kernel
theorem dX6_falls_18 : decode cX6_falls 18 = .ok (.ifCond .eq 7, 3) := by decide +kernel
theorem dX6_falls_21 : decode cX6_falls 21 = .ok (.iconst 0, 1) := by decide +kernel
theorem dX6_falls_22 : decode cX6_falls 22 = .ok (.goto 4, 3) := by decide +kernel
theorem dX6_falls_25 : decode cX6_falls 25 = .ok (.iconst 2, 1) := by decide +kernel
theorem dX6_falls_26 : decode cX6_falls 26 = .ok (.putfield 47, 3) := by decide +kernel
theorem dX6_falls_29 : decode cX6_falls 29 = .ok (.aload_n 0, 1) := by decide +kernel
theorem dX6_falls_30 : decode cX6_falls 30 = .ok (.getfield 47, 3) := by decide +kernel
theorem dX6_falls_33 : decode cX6_falls 33 = .ok (.ifCond .le 7, 3) := by decide +kernel
theorem dX6_falls_36 : decode cX6_falls 36 = .ok (.iconst 0, 1) := by decide +kernel
theorem dX6_falls_37 : decode cX6_falls 37 = .ok (.goto 22, 3) := by decide +kernel
theorem dX6_falls_40 : decode cX6_falls 40 = .ok (.aload_n 0, 1) := by decide +kernel
theorem dX6_falls_41 : decode cX6_falls 41 = .ok (.aload_n 0, 1) := by decide +kernel
theorem dX6_falls_42 : decode cX6_falls 42 = .ok (.iload_n 1, 1) := by decide +kernel
theorem dX6_falls_43 : decode cX6_falls 43 = .ok (.aload_n 0, 1) := by decide +kernel
theorem dX6_falls_44 : decode cX6_falls 44 = .ok (.invokevirtual 180, 3) := by decide +kernel
theorem dX6_falls_47 : decode cX6_falls 47 = .ok (.invokevirtual 177, 3) := by decide +kernel
theorem dX6_falls_50 : decode cX6_falls 50 = .ok (.iconst 1, 1) := by decide +kernel
theorem dX6_falls_51 : decode cX6_falls 51 = .ok (.iload_n 1, 1) := by decide +kernel
theorem dX6_falls_52 : decode cX6_falls 52 = .ok (.ishl, 1) := by decide +kernel
theorem dX6_falls_53 : decode cX6_falls 53 = .ok (.iconst (-1), 1) := by decide +kernel
theorem dX6_falls_54 : decode cX6_falls 54 = .ok (.ixor, 1) := by decide +kernel
theorem dX6_falls_55 : decode cX6_falls 55 = .ok (.iand, 1) := by decide +kernel
theorem dX6_falls_56 : decode cX6_falls 56 = .ok (.invokevirtual 207, 3) := by decide +kernel
theorem dX6_falls_59 : decode cX6_falls 59 = .ok (.ireturn, 1) := by decide +kernel
theorem dX6_valueWithout_0 : decode cX6_valueWithout 0 = .ok (.aload_n 0, 1) := by decide +kernel
theorem dX6_valueWithout_1 : decode cX6_valueWithout 1 = .ok (.aload_n 0, 1) := by decide +kernel
theorem dX6_valueWithout_2 : decode cX6_valueWithout 2 = .ok (.iload_n 1, 1) := by decide +kernel
theorem dX6_valueWithout_3 : decode cX6_valueWithout 3 = .ok (.invokevirtual 220, 3) := by decide +kernel
theorem dX6_valueWithout_6 : decode cX6_valueWithout 6 = .ok (.ifCond .ne 7, 3) := by decide +kernel
theorem dX6_valueWithout_9 : decode cX6_valueWithout 9 = .ok (.iconst 1, 1) := by decide +kernel
theorem dX6_valueWithout_10 : decode cX6_valueWithout 10 = .ok (.goto 16, 3) := by decide +kernel
theorem dX6_valueWithout_13 : decode cX6_valueWithout 13 = .ok (.aload_n 0, 1) := by decide +kernel
theorem dX6_valueWithout_14 : decode cX6_valueWithout 14 = .ok (.iload_n 1, 1) := by decide +kernel
theorem dX6_valueWithout_15 : decode cX6_valueWithout 15 = .ok (.invokevirtual 170, 3) := by decide +kernel
theorem dX6_valueWithout_18 : decode cX6_valueWithout 18 = .ok (.ifCond .eq 7, 3) := by decide +kernel
theorem dX6_valueWithout_21 : decode cX6_valueWithout 21 = .ok (.iconst 0, 1) := by decide +kernel
theorem dX6_valueWithout_22 : decode cX6_valueWithout 22 = .ok (.goto 4, 3) := by decide +kernel
theorem dX6_valueWithout_25 : decode cX6_valueWithout 25 = .ok (.iconst 2, 1) := by decide +kernel
theorem dX6_valueWithout_26 : decode cX6_valueWithout 26 = .ok (.putfield 47, 3) := by decide +kernel
theorem dX6_valueWithout_29 : decode cX6_valueWithout 29 = .ok (.aload_n 0, 1) := by decide +kernel
theorem dX6_valueWithout_30 : decode cX6_valueWithout 30 = .ok (.getfield 47, 3) := by decide +kernel
theorem dX6_valueWithout_33 : decode cX6_valueWithout 33 = .ok (.ifCond .le 5, 3) := by decide +kernel
theorem dX6_valueWithout_36 : decode cX6_valueWithout 36 = .ok (.iconst 0, 1) := by decide +kernel
theorem dX6_valueWithout_37 : decode cX6_valueWithout 37 = .ok (.ireturn, 1) := by decide +kernel
theorem dX6_valueWithout_38 : decode cX6_valueWithout 38 = .ok (.aload_n 0, 1) := by decide +kernel
theorem dX6_valueWithout_39 : decode cX6_valueWithout 39 = .ok (.invokevirtual 253, 3) := by decide +kernel
theorem dX6_valueWithout_42 : decode cX6_valueWithout 42 = .ok (.aload_n 0, 1) := by decide +kernel
theorem dX6_valueWithout_43 : decode cX6_valueWithout 43 = .ok (.getfield 7, 3) := by decide +kernel
theorem dX6_valueWithout_46 : decode cX6_valueWithout 46 = .ok (.bipush 13, 2) := by decide +kernel
theorem dX6_valueWithout_48 : decode cX6_valueWithout 48 = .ok (.iload_n 1, 1) := by decide +kernel
theorem dX6_valueWithout_49 : decode cX6_valueWithout 49 = .ok (.iadd, 1) := by decide +kernel
theorem dX6_valueWithout_50 : decode cX6_valueWithout 50 = .ok (.iaload, 1) := by decide +kernel
theorem dX6_valueWithout_51 : decode cX6_valueWithout 51 = .ok (.istore_n 2, 1) := by decide +kernel
theorem dX6_valueWithout_52 : decode cX6_valueWithout 52 = .ok (.aload_n 0, 1) := by decide +kernel
theorem dX6_valueWithout_53 : decode cX6_valueWithout 53 = .ok (.invokevirtual 256, 3) := by decide +kernel
theorem dX6_valueWithout_56 : decode cX6_valueWithout 56 = .ok (.istore_n 3, 1) := by decide +kernel
theorem dX6_valueWithout_57 : decode cX6_valueWithout 57 = .ok (.aload_n 0, 1) := by decide +kernel
theorem dX6_valueWithout_58 : decode cX6_valueWithout 58 = .ok (.iload_n 1, 1) := by decide +kernel
theorem dX6_valueWithout_59 : decode cX6_valueWithout 59 = .ok (.invokevirtual 192, 3) := by decide +kernel
theorem dX6_valueWithout_62 : decode cX6_valueWithout 62 = .ok (.istore 4, 2) := by decide +kernel
theorem dX6_valueWithout_64 : decode cX6_valueWithout 64 = .ok (.aload_n 0, 1) := by decide +kernel
theorem dX6_valueWithout_65 : decode cX6_valueWithout 65 = .ok (.iload_n 1, 1) := by decide +kernel
theorem dX6_valueWithout_66 : decode cX6_valueWithout 66 = .ok (.aload_n 0, 1) := by decide +kernel
theorem dX6_valueWithout_67 : decode cX6_valueWithout 67 = .ok (.invokevirtual 180, 3) := by decide +kernel
theorem dX6_valueWithout_70 : decode cX6_valueWithout 70 = .ok (.invokevirtual 177, 3) := by decide +kernel
theorem dX6_valueWithout_73 : decode cX6_valueWithout 73 = .ok (.istore 5, 2) := by decide +kernel
theorem dX6_valueWithout_75 : decode cX6_valueWithout 75 = .ok (.iload_n 3, 1) := by decide +kernel
theorem dX6_valueWithout_76 : decode cX6_valueWithout 76 = .ok (.aload_n 0, 1) := by decide +kernel
theorem dX6_valueWithout_77 : decode cX6_valueWithout 77 = .ok (.iload 5, 2) := by decide +kernel
theorem dX6_valueWithout_79 : decode cX6_valueWithout 79 = .ok (.iload 4, 2) := by decide +kernel
theorem dX6_valueWithout_81 : decode cX6_valueWithout 81 = .ok (.invokevirtual 229, 3) := by decide +kernel
theorem dX6_valueWithout_84 : decode cX6_valueWithout 84 = .ok (.bipush 31, 2) := by decide +kernel
theorem dX6_valueWithout_86 : decode cX6_valueWithout 86 = .ok (.iand, 1) := by decide +kernel
theorem dX6_valueWithout_87 : decode cX6_valueWithout 87 = .ok (.ixor, 1) := by decide +kernel
theorem dX6_valueWithout_88 : decode cX6_valueWithout 88 = .ok (.istore_n 3, 1) := by decide +kernel
theorem dX6_valueWithout_89 : decode cX6_valueWithout 89 = .ok (.aload_n 0, 1) := by decide +kernel
theorem dX6_valueWithout_90 : decode cX6_valueWithout 90 = .ok (.invokevirtual 253, 3) := by decide +kernel
theorem dX6_valueWithout_93 : decode cX6_valueWithout 93 = .ok (.iconst 0, 1) := by decide +kernel
theorem dX6_valueWithout_94 : decode cX6_valueWithout 94 = .ok (.istore 6, 2) := by decide +kernel
theorem dX6_valueWithout_96 : decode cX6_valueWithout 96 = .ok (.iload 6, 2) := by decide +kernel
theorem dX6_valueWithout_98 : decode cX6_valueWithout 98 = .ok (.aload_n 0, 1) := by decide +kernel
theorem dX6_valueWithout_99 : decode cX6_valueWithout 99 = .ok (.getfield 7, 3) := by decide +kernel
theorem dX6_valueWithout_102 : decode cX6_valueWithout 102 = .ok (.iconst 0, 1) := by decide +kernel
theorem dX6_valueWithout_103 : decode cX6_valueWithout 103 = .ok (.iaload, 1) := by decide +kernel
theorem dX6_valueWithout_104 : decode cX6_valueWithout 104 = .ok (.if_icmp .ge 27, 3) := by decide +kernel
theorem dX6_valueWithout_107 : decode cX6_valueWithout 107 = .ok (.aload_n 0, 1) := by decide +kernel
theorem dX6_valueWithout_108 : decode cX6_valueWithout 108 = .ok (.getfield 7, 3) := by decide +kernel
theorem dX6_valueWithout_111 : decode cX6_valueWithout 111 = .ok (.bipush 13, 2) := by decide +kernel
theorem dX6_valueWithout_113 : decode cX6_valueWithout 113 = .ok (.iload 6, 2) := by decide +kernel
theorem dX6_valueWithout_115 : decode cX6_valueWithout 115 = .ok (.iadd, 1) := by decide +kernel
theorem dX6_valueWithout_116 : decode cX6_valueWithout 116 = .ok (.dup2, 1) := by decide +kernel
theorem dX6_valueWithout_117 : decode cX6_valueWithout 117 = .ok (.iaload, 1) := by decide +kernel
theorem dX6_valueWithout_118 : decode cX6_valueWithout 118 = .ok (.iconst 1, 1) := by decide +kernel
theorem dX6_valueWithout_119 : decode cX6_valueWithout 119 = .ok (.iload_n 1, 1) := by decide +kernel
theorem dX6_valueWithout_120 : decode cX6_valueWithout 120 = .ok (.ishl, 1) := by decide +kernel
theorem dX6_valueWithout_121 : decode cX6_valueWithout 121 = .ok (.iconst (-1), 1) := by decide +kernel
theorem dX6_valueWithout_122 : decode cX6_valueWithout 122 = .ok (.ixor, 1) := by decide +kernel
theorem dX6_valueWithout_123 : decode cX6_valueWithout 123 = .ok (.iand, 1) := by decide +kernel
theorem dX6_valueWithout_124 : decode cX6_valueWithout 124 = .ok (.iastore, 1) := by decide +kernel
theorem dX6_valueWithout_125 : decode cX6_valueWithout 125 = .ok (.iinc 6 1, 3) := by decide +kernel
theorem dX6_valueWithout_128 : decode cX6_valueWithout 128 = .ok (.goto (-32), 3) := by decide +kernel
theorem dX6_valueWithout_131 : decode cX6_valueWithout 131 = .ok (.aload_n 0, 1) := by decide +kernel
theorem dX6_valueWithout_132 : decode cX6_valueWithout 132 = .ok (.getfield 7, 3) := by decide +kernel
theorem dX6_valueWithout_135 : decode cX6_valueWithout 135 = .ok (.bipush 13, 2) := by decide +kernel
theorem dX6_valueWithout_137 : decode cX6_valueWithout 137 = .ok (.iload_n 1, 1) := by decide +kernel
theorem dX6_valueWithout_138 : decode cX6_valueWithout 138 = .ok (.iadd, 1) := by decide +kernel
theorem dX6_valueWithout_139 : decode cX6_valueWithout 139 = .ok (.iconst 0, 1) := by decide +kernel
theorem dX6_valueWithout_140 : decode cX6_valueWithout 140 = .ok (.iastore, 1) := by decide +kernel
theorem dX6_valueWithout_141 : decode cX6_valueWithout 141 = .ok (.iload_n 3, 1) := by decide +kernel
theorem dX6_valueWithout_142 : decode cX6_valueWithout 142 = .ok (.aload_n 0, 1) := by decide +kernel
theorem dX6_valueWithout_143 : decode cX6_valueWithout 143 = .ok (.iload 5, 2) := by decide +kernel
theorem dX6_valueWithout_145 : decode cX6_valueWithout 145 = .ok (.iconst 1, 1) := by decide +kernel
theorem dX6_valueWithout_146 : decode cX6_valueWithout 146 = .ok (.iload_n 1, 1) := by decide +kernel
theorem dX6_valueWithout_147 : decode cX6_valueWithout 147 = .ok (.ishl, 1) := by decide +kernel
theorem dX6_valueWithout_148 : decode cX6_valueWithout 148 = .ok (.iconst (-1), 1) := by decide +kernel
theorem dX6_valueWithout_149 : decode cX6_valueWithout 149 = .ok (.ixor, 1) := by decide +kernel
theorem dX6_valueWithout_150 : decode cX6_valueWithout 150 = .ok (.iand, 1) := by decide +kernel
theorem dX6_valueWithout_151 : decode cX6_valueWithout 151 = .ok (.iload 4, 2) := by decide +kernel
theorem dX6_valueWithout_153 : decode cX6_valueWithout 153 = .ok (.invokevirtual 235, 3) := by decide +kernel
theorem dX6_valueWithout_156 : decode cX6_valueWithout 156 = .ok (.bipush 31, 2) := by decide +kernel
theorem dX6_valueWithout_158 : decode cX6_valueWithout 158 = .ok (.iand, 1) := by decide +kernel
theorem dX6_valueWithout_159 : decode cX6_valueWithout 159 = .ok (.ixor, 1) := by decide +kernel
theorem dX6_valueWithout_160 : decode cX6_valueWithout 160 = .ok (.istore_n 3, 1) := by decide +kernel
theorem dX6_valueWithout_161 : decode cX6_valueWithout 161 = .ok (.aload_n 0, 1) := by decide +kernel
theorem dX6_valueWithout_162 : decode cX6_valueWithout 162 = .ok (.getfield 7, 3) := by decide +kernel
theorem dX6_valueWithout_165 : decode cX6_valueWithout 165 = .ok (.bipush 13, 2) := by decide +kernel
theorem dX6_valueWithout_167 : decode cX6_valueWithout 167 = .ok (.iload_n 1, 1) := by decide +kernel
theorem dX6_valueWithout_168 : decode cX6_valueWithout 168 = .ok (.iadd, 1) := by decide +kernel
theorem dX6_valueWithout_169 : decode cX6_valueWithout 169 = .ok (.iload_n 2, 1) := by decide +kernel
theorem dX6_valueWithout_170 : decode cX6_valueWithout 170 = .ok (.iastore, 1) := by decide +kernel
theorem dX6_valueWithout_171 : decode cX6_valueWithout 171 = .ok (.iconst 0, 1) := by decide +kernel
theorem dX6_valueWithout_172 : decode cX6_valueWithout 172 = .ok (.istore 6, 2) := by decide +kernel
theorem dX6_valueWithout_174 : decode cX6_valueWithout 174 = .ok (.iload 6, 2) := by decide +kernel
theorem dX6_valueWithout_176 : decode cX6_valueWithout 176 = .ok (.aload_n 0, 1) := by decide +kernel
theorem dX6_valueWithout_177 : decode cX6_valueWithout 177 = .ok (.getfield 7, 3) := by decide +kernel
theorem dX6_valueWithout_180 : decode cX6_valueWithout 180 = .ok (.iconst 0, 1) := by decide +kernel
theorem dX6_valueWithout_181 : decode cX6_valueWithout 181 = .ok (.iaload, 1) := by decide +kernel
theorem dX6_valueWithout_182 : decode cX6_valueWithout 182 = .ok (.if_icmp .ge 30, 3) := by decide +kernel
theorem dX6_valueWithout_185 : decode cX6_valueWithout 185 = .ok (.aload_n 0, 1) := by decide +kernel
theorem dX6_valueWithout_186 : decode cX6_valueWithout 186 = .ok (.getfield 7, 3) := by decide +kernel
theorem dX6_valueWithout_189 : decode cX6_valueWithout 189 = .ok (.bipush 13, 2) := by decide +kernel
theorem dX6_valueWithout_191 : decode cX6_valueWithout 191 = .ok (.iload 6, 2) := by decide +kernel
theorem dX6_valueWithout_193 : decode cX6_valueWithout 193 = .ok (.iadd, 1) := by decide +kernel
theorem dX6_valueWithout_194 : decode cX6_valueWithout 194 = .ok (.dup2, 1) := by decide +kernel
theorem dX6_valueWithout_195 : decode cX6_valueWithout 195 = .ok (.iaload, 1) := by decide +kernel
theorem dX6_valueWithout_196 : decode cX6_valueWithout 196 = .ok (.iload_n 2, 1) := by decide +kernel
theorem dX6_valueWithout_197 : decode cX6_valueWithout 197 = .ok (.iload 6, 2) := by decide +kernel
theorem dX6_valueWithout_199 : decode cX6_valueWithout 199 = .ok (.ishr, 1) := by decide +kernel
theorem dX6_valueWithout_200 : decode cX6_valueWithout 200 = .ok (.iconst 1, 1) := by decide +kernel
theorem dX6_valueWithout_201 : decode cX6_valueWithout 201 = .ok (.iand, 1) := by decide +kernel
theorem dX6_valueWithout_202 : decode cX6_valueWithout 202 = .ok (.iload_n 1, 1) := by decide +kernel
theorem dX6_valueWithout_203 : decode cX6_valueWithout 203 = .ok (.ishl, 1) := by decide +kernel
theorem dX6_valueWithout_204 : decode cX6_valueWithout 204 = .ok (.ior, 1) := by decide +kernel
theorem dX6_valueWithout_205 : decode cX6_valueWithout 205 = .ok (.iastore, 1) := by decide +kernel
theorem dX6_valueWithout_206 : decode cX6_valueWithout 206 = .ok (.iinc 6 1, 3) := by decide +kernel
theorem dX6_valueWithout_209 : decode cX6_valueWithout 209 = .ok (.goto (-35), 3) := by decide +kernel
theorem dX6_valueWithout_212 : decode cX6_valueWithout 212 = .ok (.iload_n 3, 1) := by decide +kernel
theorem dX6_valueWithout_213 : decode cX6_valueWithout 213 = .ok (.ireturn, 1) := by decide +kernel
theorem dX6_notes_0 : decode cX6_notes 0 = .ok (.aload_n 0, 1) := by decide +kernel
theorem dX6_notes_1 : decode cX6_notes 1 = .ok (.aload_n 0, 1) := by decide +kernel
theorem dX6_notes_2 : decode cX6_notes 2 = .ok (.invokevirtual 180, 3) := by decide +kernel
theorem dX6_notes_5 : decode cX6_notes 5 = .ok (.invokevirtual 207, 3) := by decide +kernel
theorem dX6_notes_8 : decode cX6_notes 8 = .ok (.istore 4, 2) := by decide +kernel
theorem dX6_notes_10 : decode cX6_notes 10 = .ok (.aload_n 0, 1) := by decide +kernel
theorem dX6_notes_11 : decode cX6_notes 11 = .ok (.getfield 7, 3) := by decide +kernel
theorem dX6_notes_14 : decode cX6_notes 14 = .ok (.bipush 40, 2) := by decide +kernel
theorem dX6_notes_16 : decode cX6_notes 16 = .ok (.aload_n 0, 1) := by decide +kernel
theorem dX6_notes_17 : decode cX6_notes 17 = .ok (.getfield 7, 3) := by decide +kernel
theorem dX6_notes_20 : decode cX6_notes 20 = .ok (.iconst 3, 1) := by decide +kernel
theorem dX6_notes_21 : decode cX6_notes 21 = .ok (.iaload, 1) := by decide +kernel
theorem dX6_notes_22 : decode cX6_notes 22 = .ok (.iadd, 1) := by decide +kernel
theorem dX6_notes_23 : decode cX6_notes 23 = .ok (.aload_n 0, 1) := by decide +kernel
theorem dX6_notes_24 : decode cX6_notes 24 = .ok (.invokevirtual 210, 3) := by decide +kernel
theorem dX6_notes_27 : decode cX6_notes 27 = .ok (.iload_n 1, 1) := by decide +kernel
theorem dX6_notes_28 : decode cX6_notes 28 = .ok (.iconst 1, 1) := by decide +kernel
theorem dX6_notes_29 : decode cX6_notes 29 = .ok (.iadd, 1) := by decide +kernel
theorem dX6_notes_30 : decode cX6_notes 30 = .ok (.iconst 1, 1) := by decide +kernel
theorem dX6_notes_31 : decode cX6_notes 31 = .ok (.ishl, 1) := by decide +kernel
theorem dX6_notes_32 : decode cX6_notes 32 = .ok (.ior, 1) := by decide +kernel
theorem dX6_notes_33 : decode cX6_notes 33 = .ok (.iload_n 2, 1) := by decide +kernel
theorem dX6_notes_34 : decode cX6_notes 34 = .ok (.iconst 1, 1) := by decide +kernel
theorem dX6_notes_35 : decode cX6_notes 35 = .ok (.iadd, 1) := by decide +kernel
theorem dX6_notes_36 : decode cX6_notes 36 = .ok (.iconst 5, 1) := by decide +kernel
theorem dX6_notes_37 : decode cX6_notes 37 = .ok (.ishl, 1) := by decide +kernel
theorem dX6_notes_38 : decode cX6_notes 38 = .ok (.ior, 1) := by decide +kernel
theorem dX6_notes_39 : decode cX6_notes 39 = .ok (.iload 4, 2) := by decide +kernel
theorem dX6_notes_41 : decode cX6_notes 41 = .ok (.bipush 7, 2) := by decide +kernel
theorem dX6_notes_43 : decode cX6_notes 43 = .ok (.ishl, 1) := by decide +kernel
theorem dX6_notes_44 : decode cX6_notes 44 = .ok (.ior, 1) := by decide +kernel
theorem dX6_notes_45 : decode cX6_notes 45 = .ok (.iload_n 3, 1) := by decide +kernel
theorem dX6_notes_46 : decode cX6_notes 46 = .ok (.bipush 11, 2) := by decide +kernel
theorem dX6_notes_48 : decode cX6_notes 48 = .ok (.ishl, 1) := by decide +kernel
theorem dX6_notes_49 : decode cX6_notes 49 = .ok (.ior, 1) := by decide +kernel
theorem dX6_notes_50 : decode cX6_notes 50 = .ok (.iastore, 1) := by decide +kernel
theorem dX6_notes_51 : decode cX6_notes 51 = .ok (.aload_n 0, 1) := by decide +kernel
theorem dX6_notes_52 : decode cX6_notes 52 = .ok (.getfield 7, 3) := by decide +kernel
theorem dX6_notes_55 : decode cX6_notes 55 = .ok (.iconst 3, 1) := by decide +kernel
theorem dX6_notes_56 : decode cX6_notes 56 = .ok (.dup2, 1) := by decide +kernel
theorem dX6_notes_57 : decode cX6_notes 57 = .ok (.iaload, 1) := by decide +kernel
theorem dX6_notes_58 : decode cX6_notes 58 = .ok (.iconst 1, 1) := by decide +kernel
theorem dX6_notes_59 : decode cX6_notes 59 = .ok (.iadd, 1) := by decide +kernel
theorem dX6_notes_60 : decode cX6_notes 60 = .ok (.iastore, 1) := by decide +kernel
theorem dX6_notes_61 : decode cX6_notes 61 = .ok (.return_, 1) := by decide +kernel
theorem dX6_lays_0 : decode cX6_lays 0 = .ok (.aload_n 0, 1) := by decide +kernel
theorem dX6_lays_1 : decode cX6_lays 1 = .ok (.iload_n 1, 1) := by decide +kernel
theorem dX6_lays_2 : decode cX6_lays 2 = .ok (.aload_n 0, 1) := by decide +kernel
theorem dX6_lays_3 : decode cX6_lays 3 = .ok (.invokevirtual 180, 3) := by decide +kernel
theorem dX6_lays_6 : decode cX6_lays 6 = .ok (.invokevirtual 177, 3) := by decide +kernel
theorem dX6_lays_9 : decode cX6_lays 9 = .ok (.istore_n 3, 1) := by decide +kernel
theorem dX6_lays_10 : decode cX6_lays 10 = .ok (.iconst 0, 1) := by decide +kernel
theorem dX6_lays_11 : decode cX6_lays 11 = .ok (.istore 4, 2) := by decide +kernel
theorem dX6_lays_13 : decode cX6_lays 13 = .ok (.iload 4, 2) := by decide +kernel
theorem dX6_lays_15 : decode cX6_lays 15 = .ok (.aload_n 0, 1) := by decide +kernel
theorem dX6_lays_16 : decode cX6_lays 16 = .ok (.getfield 7, 3) := by decide +kernel
theorem dX6_lays_19 : decode cX6_lays 19 = .ok (.iconst 0, 1) := by decide +kernel
theorem dX6_lays_20 : decode cX6_lays 20 = .ok (.iaload, 1) := by decide +kernel
theorem dX6_lays_21 : decode cX6_lays 21 = .ok (.if_icmp .ge 32, 3) := by decide +kernel
theorem dX6_lays_24 : decode cX6_lays 24 = .ok (.iload_n 3, 1) := by decide +kernel
theorem dX6_lays_25 : decode cX6_lays 25 = .ok (.iload 4, 2) := by decide +kernel
theorem dX6_lays_27 : decode cX6_lays 27 = .ok (.ishr, 1) := by decide +kernel
theorem dX6_lays_28 : decode cX6_lays 28 = .ok (.iconst 1, 1) := by decide +kernel
theorem dX6_lays_29 : decode cX6_lays 29 = .ok (.iand, 1) := by decide +kernel
theorem dX6_lays_30 : decode cX6_lays 30 = .ok (.iconst 1, 1) := by decide +kernel
theorem dX6_lays_31 : decode cX6_lays 31 = .ok (.if_icmp .ne 16, 3) := by decide +kernel
theorem dX6_lays_34 : decode cX6_lays 34 = .ok (.aload_n 0, 1) := by decide +kernel
theorem dX6_lays_35 : decode cX6_lays 35 = .ok (.getfield 7, 3) := by decide +kernel
theorem dX6_lays_38 : decode cX6_lays 38 = .ok (.bipush 31, 2) := by decide +kernel
theorem dX6_lays_40 : decode cX6_lays 40 = .ok (.iload 4, 2) := by decide +kernel
theorem dX6_lays_42 : decode cX6_lays 42 = .ok (.iadd, 1) := by decide +kernel
theorem dX6_lays_43 : decode cX6_lays 43 = .ok (.iload_n 2, 1) := by decide +kernel
theorem dX6_lays_44 : decode cX6_lays 44 = .ok (.iconst 1, 1) := by decide +kernel
theorem dX6_lays_45 : decode cX6_lays 45 = .ok (.iadd, 1) := by decide +kernel
theorem dX6_lays_46 : decode cX6_lays 46 = .ok (.iastore, 1) := by decide +kernel
theorem dX6_lays_47 : decode cX6_lays 47 = .ok (.iinc 4 1, 3) := by decide +kernel
theorem dX6_lays_50 : decode cX6_lays 50 = .ok (.goto (-37), 3) := by decide +kernel
theorem dX6_lays_53 : decode cX6_lays 53 = .ok (.aload_n 0, 1) := by decide +kernel
theorem dX6_lays_54 : decode cX6_lays 54 = .ok (.getfield 7, 3) := by decide +kernel
theorem dX6_lays_57 : decode cX6_lays 57 = .ok (.bipush 22, 2) := by decide +kernel
theorem dX6_lays_59 : decode cX6_lays 59 = .ok (.iload_n 1, 1) := by decide +kernel
theorem dX6_lays_60 : decode cX6_lays 60 = .ok (.iadd, 1) := by decide +kernel
theorem dX6_lays_61 : decode cX6_lays 61 = .ok (.iload_n 2, 1) := by decide +kernel
theorem dX6_lays_62 : decode cX6_lays 62 = .ok (.iconst 1, 1) := by decide +kernel
theorem dX6_lays_63 : decode cX6_lays 63 = .ok (.iadd, 1) := by decide +kernel
theorem dX6_lays_64 : decode cX6_lays 64 = .ok (.iastore, 1) := by decide +kernel
theorem dX6_lays_65 : decode cX6_lays 65 = .ok (.aload_n 0, 1) := by decide +kernel
theorem dX6_lays_66 : decode cX6_lays 66 = .ok (.iload_n 1, 1) := by decide +kernel
theorem dX6_lays_67 : decode cX6_lays 67 = .ok (.iload_n 2, 1) := by decide +kernel
theorem dX6_lays_68 : decode cX6_lays 68 = .ok (.aload_n 0, 1) := by decide +kernel
theorem dX6_lays_69 : decode cX6_lays 69 = .ok (.iload_n 3, 1) := by decide +kernel
theorem dX6_lays_70 : decode cX6_lays 70 = .ok (.iconst 1, 1) := by decide +kernel
theorem dX6_lays_71 : decode cX6_lays 71 = .ok (.iload_n 1, 1) := by decide +kernel
theorem dX6_lays_72 : decode cX6_lays 72 = .ok (.ishl, 1) := by decide +kernel
theorem dX6_lays_73 : decode cX6_lays 73 = .ok (.iconst (-1), 1) := by decide +kernel
theorem dX6_lays_74 : decode cX6_lays 74 = .ok (.ixor, 1) := by decide +kernel
theorem dX6_lays_75 : decode cX6_lays 75 = .ok (.iand, 1) := by decide +kernel
theorem dX6_lays_76 : decode cX6_lays 76 = .ok (.invokevirtual 207, 3) := by decide +kernel
theorem dX6_lays_79 : decode cX6_lays 79 = .ok (.invokevirtual 268, 3) := by decide +kernel
theorem dX6_lays_82 : decode cX6_lays 82 = .ok (.return_, 1) := by decide +kernel
theorem dX6_passes_0 : decode cX6_passes 0 = .ok (.aload_n 0, 1) := by decide +kernel
theorem dX6_passes_1 : decode cX6_passes 1 = .ok (.getfield 7, 3) := by decide +kernel
theorem dX6_passes_4 : decode cX6_passes 4 = .ok (.iconst 2, 1) := by decide +kernel
theorem dX6_passes_5 : decode cX6_passes 5 = .ok (.dup2, 1) := by decide +kernel
theorem dX6_passes_6 : decode cX6_passes 6 = .ok (.iaload, 1) := by decide +kernel
theorem dX6_passes_7 : decode cX6_passes 7 = .ok (.iconst 1, 1) := by decide +kernel
theorem dX6_passes_8 : decode cX6_passes 8 = .ok (.isub, 1) := by decide +kernel
theorem dX6_passes_9 : decode cX6_passes 9 = .ok (.iastore, 1) := by decide +kernel
theorem dX6_passes_10 : decode cX6_passes 10 = .ok (.aload_n 0, 1) := by decide +kernel
theorem dX6_passes_11 : decode cX6_passes 11 = .ok (.iconst (-1), 1) := by decide +kernel
theorem dX6_passes_12 : decode cX6_passes 12 = .ok (.iconst (-1), 1) := by decide +kernel
theorem dX6_passes_13 : decode cX6_passes 13 = .ok (.iconst 0, 1) := by decide +kernel
theorem dX6_passes_14 : decode cX6_passes 14 = .ok (.invokevirtual 268, 3) := by decide +kernel
theorem dX6_passes_17 : decode cX6_passes 17 = .ok (.return_, 1) := by decide +kernel
theorem dX6_lay_0 : decode cX6_lay 0 = .ok (.aload_n 0, 1) := by decide +kernel
theorem dX6_lay_1 : decode cX6_lay 1 = .ok (.aload_n 0, 1) := by decide +kernel
theorem dX6_lay_2 : decode cX6_lay 2 = .ok (.iload_n 1, 1) := by decide +kernel
theorem dX6_lay_3 : decode cX6_lay 3 = .ok (.invokevirtual 220, 3) := by decide +kernel
theorem dX6_lay_6 : decode cX6_lay 6 = .ok (.ifCond .eq 11, 3) := by decide +kernel
theorem dX6_lay_9 : decode cX6_lay 9 = .ok (.aload_n 0, 1) := by decide +kernel
theorem dX6_lay_10 : decode cX6_lay 10 = .ok (.iload_n 2, 1) := by decide +kernel
theorem dX6_lay_11 : decode cX6_lay 11 = .ok (.invokevirtual 226, 3) := by decide +kernel
theorem dX6_lay_14 : decode cX6_lay 14 = .ok (.ifCond .ne 7, 3) := by decide +kernel
theorem dX6_lay_17 : decode cX6_lay 17 = .ok (.iconst 1, 1) := by decide +kernel
theorem dX6_lay_18 : decode cX6_lay 18 = .ok (.goto 17, 3) := by decide +kernel
theorem dX6_lay_21 : decode cX6_lay 21 = .ok (.aload_n 0, 1) := by decide +kernel
theorem dX6_lay_22 : decode cX6_lay 22 = .ok (.iload_n 1, 1) := by decide +kernel
theorem dX6_lay_23 : decode cX6_lay 23 = .ok (.iload_n 2, 1) := by decide +kernel
theorem dX6_lay_24 : decode cX6_lay 24 = .ok (.invokevirtual 127, 3) := by decide +kernel
theorem dX6_lay_27 : decode cX6_lay 27 = .ok (.ifCond .le 7, 3) := by decide +kernel
theorem dX6_lay_30 : decode cX6_lay 30 = .ok (.iconst 2, 1) := by decide +kernel
theorem dX6_lay_31 : decode cX6_lay 31 = .ok (.goto 4, 3) := by decide +kernel
theorem dX6_lay_34 : decode cX6_lay 34 = .ok (.iconst 0, 1) := by decide +kernel
theorem dX6_lay_35 : decode cX6_lay 35 = .ok (.putfield 47, 3) := by decide +kernel
theorem dX6_lay_38 : decode cX6_lay 38 = .ok (.aload_n 0, 1) := by decide +kernel
theorem dX6_lay_39 : decode cX6_lay 39 = .ok (.getfield 47, 3) := by decide +kernel
theorem dX6_lay_42 : decode cX6_lay 42 = .ok (.ifCond .le 5, 3) := by decide +kernel
theorem dX6_lay_45 : decode cX6_lay 45 = .ok (.iconst 0, 1) := by decide +kernel
theorem dX6_lay_46 : decode cX6_lay 46 = .ok (.ireturn, 1) := by decide +kernel
theorem dX6_lay_47 : decode cX6_lay 47 = .ok (.aload_n 0, 1) := by decide +kernel
theorem dX6_lay_48 : decode cX6_lay 48 = .ok (.invokevirtual 167, 3) := by decide +kernel
theorem dX6_lay_51 : decode cX6_lay 51 = .ok (.aload_n 0, 1) := by decide +kernel
theorem dX6_lay_52 : decode cX6_lay 52 = .ok (.iload_n 1, 1) := by decide +kernel
theorem dX6_lay_53 : decode cX6_lay 53 = .ok (.iload_n 2, 1) := by decide +kernel
theorem dX6_lay_54 : decode cX6_lay 54 = .ok (.invokevirtual 130, 3) := by decide +kernel
theorem dX6_lay_57 : decode cX6_lay 57 = .ok (.aload_n 0, 1) := by decide +kernel
theorem dX6_lay_58 : decode cX6_lay 58 = .ok (.aload_n 0, 1) := by decide +kernel
theorem dX6_lay_59 : decode cX6_lay 59 = .ok (.invokevirtual 180, 3) := by decide +kernel
theorem dX6_lay_62 : decode cX6_lay 62 = .ok (.invokevirtual 207, 3) := by decide +kernel
theorem dX6_lay_65 : decode cX6_lay 65 = .ok (.ireturn, 1) := by decide +kernel
theorem dX6_pass_0 : decode cX6_pass 0 = .ok (.aload_n 0, 1) := by decide +kernel
theorem dX6_pass_1 : decode cX6_pass 1 = .ok (.aload_n 0, 1) := by decide +kernel
theorem dX6_pass_2 : decode cX6_pass 2 = .ok (.getfield 7, 3) := by decide +kernel
theorem dX6_pass_5 : decode cX6_pass 5 = .ok (.iconst 2, 1) := by decide +kernel
theorem dX6_pass_6 : decode cX6_pass 6 = .ok (.iaload, 1) := by decide +kernel
theorem dX6_pass_7 : decode cX6_pass 7 = .ok (.ifCond .ne 7, 3) := by decide +kernel
theorem dX6_pass_10 : decode cX6_pass 10 = .ok (.iconst 1, 1) := by decide +kernel
theorem dX6_pass_11 : decode cX6_pass 11 = .ok (.goto 4, 3) := by decide +kernel
theorem dX6_pass_14 : decode cX6_pass 14 = .ok (.iconst 0, 1) := by decide +kernel
theorem dX6_pass_15 : decode cX6_pass 15 = .ok (.putfield 47, 3) := by decide +kernel
theorem dX6_pass_18 : decode cX6_pass 18 = .ok (.aload_n 0, 1) := by decide +kernel
theorem dX6_pass_19 : decode cX6_pass 19 = .ok (.getfield 47, 3) := by decide +kernel
theorem dX6_pass_22 : decode cX6_pass 22 = .ok (.ifCond .le 5, 3) := by decide +kernel
theorem dX6_pass_25 : decode cX6_pass 25 = .ok (.iconst 0, 1) := by decide +kernel
theorem dX6_pass_26 : decode cX6_pass 26 = .ok (.ireturn, 1) := by decide +kernel
theorem dX6_pass_27 : decode cX6_pass 27 = .ok (.aload_n 0, 1) := by decide +kernel
theorem dX6_pass_28 : decode cX6_pass 28 = .ok (.invokevirtual 167, 3) := by decide +kernel
theorem dX6_pass_31 : decode cX6_pass 31 = .ok (.aload_n 0, 1) := by decide +kernel
theorem dX6_pass_32 : decode cX6_pass 32 = .ok (.invokevirtual 134, 3) := by decide +kernel
theorem dX6_pass_35 : decode cX6_pass 35 = .ok (.aload_n 0, 1) := by decide +kernel
theorem dX6_pass_36 : decode cX6_pass 36 = .ok (.getfield 7, 3) := by decide +kernel
theorem dX6_pass_39 : decode cX6_pass 39 = .ok (.iconst 2, 1) := by decide +kernel
theorem dX6_pass_40 : decode cX6_pass 40 = .ok (.iaload, 1) := by decide +kernel
theorem dX6_pass_41 : decode cX6_pass 41 = .ok (.ireturn, 1) := by decide +kernel
theorem dX6_playOut_0 : decode cX6_playOut 0 = .ok (.aload_n 0, 1) := by decide +kernel
theorem dX6_playOut_1 : decode cX6_playOut 1 = .ok (.iload_n 1, 1) := by decide +kernel
theorem dX6_playOut_2 : decode cX6_playOut 2 = .ok (.iconst 1, 1) := by decide +kernel
theorem dX6_playOut_3 : decode cX6_playOut 3 = .ok (.bipush 20, 2) := by decide +kernel
theorem dX6_playOut_5 : decode cX6_playOut 5 = .ok (.invokestatic 76, 3) := by decide +kernel
theorem dX6_playOut_8 : decode cX6_playOut 8 = .ok (.ifCond .eq 7, 3) := by decide +kernel
theorem dX6_playOut_11 : decode cX6_playOut 11 = .ok (.iconst 0, 1) := by decide +kernel
theorem dX6_playOut_12 : decode cX6_playOut 12 = .ok (.goto 4, 3) := by decide +kernel
theorem dX6_playOut_15 : decode cX6_playOut 15 = .ok (.iconst 1, 1) := by decide +kernel
theorem dX6_playOut_16 : decode cX6_playOut 16 = .ok (.putfield 47, 3) := by decide +kernel
end
section
theorem dX6_playOut_19 : decode cX6_playOut 19 = .ok (.aload_n 0, 1) := by decide +kernel
theorem dX6_playOut_20 : decode cX6_playOut 20 = .ok (.getfield 47, 3) := by decide +kernel
theorem dX6_playOut_23 : decode cX6_playOut 23 = .ok (.ifCond .le 5, 3) := by decide +kernel
theorem dX6_playOut_26 : decode cX6_playOut 26 = .ok (.iconst 0, 1) := by decide +kernel
theorem dX6_playOut_27 : decode cX6_playOut 27 = .ok (.ireturn, 1) := by decide +kernel
theorem dX6_playOut_28 : decode cX6_playOut 28 = .ok (.aload_n 0, 1) := by decide +kernel
theorem dX6_playOut_29 : decode cX6_playOut 29 = .ok (.invokevirtual 167, 3) := by decide +kernel
theorem dX6_playOut_32 : decode cX6_playOut 32 = .ok (.aload_n 0, 1) := by decide +kernel
theorem dX6_playOut_33 : decode cX6_playOut 33 = .ok (.invokevirtual 253, 3) := by decide +kernel
theorem dX6_playOut_36 : decode cX6_playOut 36 = .ok (.iconst 0, 1) := by decide +kernel
theorem dX6_playOut_37 : decode cX6_playOut 37 = .ok (.istore_n 2, 1) := by decide +kernel
theorem dX6_playOut_38 : decode cX6_playOut 38 = .ok (.iload_n 2, 1) := by decide +kernel
theorem dX6_playOut_39 : decode cX6_playOut 39 = .ok (.iload_n 1, 1) := by decide +kernel
theorem dX6_playOut_40 : decode cX6_playOut 40 = .ok (.if_icmp .ge 44, 3) := by decide +kernel
theorem dX6_playOut_43 : decode cX6_playOut 43 = .ok (.aload_n 0, 1) := by decide +kernel
theorem dX6_playOut_44 : decode cX6_playOut 44 = .ok (.invokevirtual 213, 3) := by decide +kernel
theorem dX6_playOut_47 : decode cX6_playOut 47 = .ok (.ifCond .ne 37, 3) := by decide +kernel
theorem dX6_playOut_50 : decode cX6_playOut 50 = .ok (.aload_n 0, 1) := by decide +kernel
theorem dX6_playOut_51 : decode cX6_playOut 51 = .ok (.invokevirtual 265, 3) := by decide +kernel
theorem dX6_playOut_54 : decode cX6_playOut 54 = .ok (.istore_n 3, 1) := by decide +kernel
theorem dX6_playOut_55 : decode cX6_playOut 55 = .ok (.iload_n 3, 1) := by decide +kernel
theorem dX6_playOut_56 : decode cX6_playOut 56 = .ok (.bipush 100, 2) := by decide +kernel
theorem dX6_playOut_58 : decode cX6_playOut 58 = .ok (.if_icmp .ne 10, 3) := by decide +kernel
theorem dX6_playOut_61 : decode cX6_playOut 61 = .ok (.aload_n 0, 1) := by decide +kernel
theorem dX6_playOut_62 : decode cX6_playOut 62 = .ok (.invokevirtual 134, 3) := by decide +kernel
theorem dX6_playOut_65 : decode cX6_playOut 65 = .ok (.goto 13, 3) := by decide +kernel
theorem dX6_playOut_68 : decode cX6_playOut 68 = .ok (.aload_n 0, 1) := by decide +kernel
theorem dX6_playOut_69 : decode cX6_playOut 69 = .ok (.iload_n 3, 1) := by decide +kernel
theorem dX6_playOut_70 : decode cX6_playOut 70 = .ok (.iconst 4, 1) := by decide +kernel
theorem dX6_playOut_71 : decode cX6_playOut 71 = .ok (.idiv, 1) := by decide +kernel
theorem dX6_playOut_72 : decode cX6_playOut 72 = .ok (.iload_n 3, 1) := by decide +kernel
theorem dX6_playOut_73 : decode cX6_playOut 73 = .ok (.iconst 4, 1) := by decide +kernel
theorem dX6_playOut_74 : decode cX6_playOut 74 = .ok (.irem, 1) := by decide +kernel
theorem dX6_playOut_75 : decode cX6_playOut 75 = .ok (.invokevirtual 130, 3) := by decide +kernel
theorem dX6_playOut_78 : decode cX6_playOut 78 = .ok (.iinc 2 1, 3) := by decide +kernel
theorem dX6_playOut_81 : decode cX6_playOut 81 = .ok (.goto (-43), 3) := by decide +kernel
theorem dX6_playOut_84 : decode cX6_playOut 84 = .ok (.iload_n 2, 1) := by decide +kernel
theorem dX6_playOut_85 : decode cX6_playOut 85 = .ok (.ireturn, 1) := by decide +kernel
theorem dX6_setPasses_0 : decode cX6_setPasses 0 = .ok (.aload_n 0, 1) := by decide +kernel
theorem dX6_setPasses_1 : decode cX6_setPasses 1 = .ok (.iload_n 1, 1) := by decide +kernel
theorem dX6_setPasses_2 : decode cX6_setPasses 2 = .ok (.iconst 0, 1) := by decide +kernel
theorem dX6_setPasses_3 : decode cX6_setPasses 3 = .ok (.bipush 9, 2) := by decide +kernel
theorem dX6_setPasses_5 : decode cX6_setPasses 5 = .ok (.invokestatic 76, 3) := by decide +kernel
theorem dX6_setPasses_8 : decode cX6_setPasses 8 = .ok (.ifCond .eq 7, 3) := by decide +kernel
theorem dX6_setPasses_11 : decode cX6_setPasses 11 = .ok (.iconst 0, 1) := by decide +kernel
theorem dX6_setPasses_12 : decode cX6_setPasses 12 = .ok (.goto 4, 3) := by decide +kernel
theorem dX6_setPasses_15 : decode cX6_setPasses 15 = .ok (.iconst 1, 1) := by decide +kernel
theorem dX6_setPasses_16 : decode cX6_setPasses 16 = .ok (.putfield 47, 3) := by decide +kernel
theorem dX6_setPasses_19 : decode cX6_setPasses 19 = .ok (.aload_n 0, 1) := by decide +kernel
theorem dX6_setPasses_20 : decode cX6_setPasses 20 = .ok (.getfield 47, 3) := by decide +kernel
theorem dX6_setPasses_23 : decode cX6_setPasses 23 = .ok (.ifCond .le 5, 3) := by decide +kernel
theorem dX6_setPasses_26 : decode cX6_setPasses 26 = .ok (.iconst 0, 1) := by decide +kernel
theorem dX6_setPasses_27 : decode cX6_setPasses 27 = .ok (.ireturn, 1) := by decide +kernel
theorem dX6_setPasses_28 : decode cX6_setPasses 28 = .ok (.aload_n 0, 1) := by decide +kernel
theorem dX6_setPasses_29 : decode cX6_setPasses 29 = .ok (.invokevirtual 167, 3) := by decide +kernel
theorem dX6_setPasses_32 : decode cX6_setPasses 32 = .ok (.aload_n 0, 1) := by decide +kernel
theorem dX6_setPasses_33 : decode cX6_setPasses 33 = .ok (.getfield 7, 3) := by decide +kernel
theorem dX6_setPasses_36 : decode cX6_setPasses 36 = .ok (.iconst 2, 1) := by decide +kernel
theorem dX6_setPasses_37 : decode cX6_setPasses 37 = .ok (.iaload, 1) := by decide +kernel
theorem dX6_setPasses_38 : decode cX6_setPasses 38 = .ok (.istore_n 2, 1) := by decide +kernel
theorem dX6_setPasses_39 : decode cX6_setPasses 39 = .ok (.aload_n 0, 1) := by decide +kernel
theorem dX6_setPasses_40 : decode cX6_setPasses 40 = .ok (.getfield 7, 3) := by decide +kernel
theorem dX6_setPasses_43 : decode cX6_setPasses 43 = .ok (.iconst 2, 1) := by decide +kernel
theorem dX6_setPasses_44 : decode cX6_setPasses 44 = .ok (.iload_n 1, 1) := by decide +kernel
theorem dX6_setPasses_45 : decode cX6_setPasses 45 = .ok (.iastore, 1) := by decide +kernel
theorem dX6_setPasses_46 : decode cX6_setPasses 46 = .ok (.iload_n 2, 1) := by decide +kernel
theorem dX6_setPasses_47 : decode cX6_setPasses 47 = .ok (.ireturn, 1) := by decide +kernel
theorem dX6_moved_0 : decode cX6_moved 0 = .ok (.aload_n 0, 1) := by decide +kernel
theorem dX6_moved_1 : decode cX6_moved 1 = .ok (.getfield 7, 3) := by decide +kernel
theorem dX6_moved_4 : decode cX6_moved 4 = .ok (.bipush 40, 2) := by decide +kernel
theorem dX6_moved_6 : decode cX6_moved 6 = .ok (.iload_n 1, 1) := by decide +kernel
theorem dX6_moved_7 : decode cX6_moved 7 = .ok (.iadd, 1) := by decide +kernel
theorem dX6_moved_8 : decode cX6_moved 8 = .ok (.iaload, 1) := by decide +kernel
theorem dX6_moved_9 : decode cX6_moved 9 = .ok (.istore_n 3, 1) := by decide +kernel
theorem dX6_moved_10 : decode cX6_moved 10 = .ok (.iload_n 2, 1) := by decide +kernel
theorem dX6_moved_11 : decode cX6_moved 11 = .ok (.ifCond .ne 9, 3) := by decide +kernel
theorem dX6_moved_14 : decode cX6_moved 14 = .ok (.iload_n 3, 1) := by decide +kernel
theorem dX6_moved_15 : decode cX6_moved 15 = .ok (.iconst 1, 1) := by decide +kernel
theorem dX6_moved_16 : decode cX6_moved 16 = .ok (.iand, 1) := by decide +kernel
theorem dX6_moved_17 : decode cX6_moved 17 = .ok (.goto 53, 3) := by decide +kernel
theorem dX6_moved_20 : decode cX6_moved 20 = .ok (.iload_n 2, 1) := by decide +kernel
theorem dX6_moved_21 : decode cX6_moved 21 = .ok (.iconst 1, 1) := by decide +kernel
theorem dX6_moved_22 : decode cX6_moved 22 = .ok (.if_icmp .ne 14, 3) := by decide +kernel
theorem dX6_moved_25 : decode cX6_moved 25 = .ok (.iload_n 3, 1) := by decide +kernel
theorem dX6_moved_26 : decode cX6_moved 26 = .ok (.iconst 1, 1) := by decide +kernel
theorem dX6_moved_27 : decode cX6_moved 27 = .ok (.ishr, 1) := by decide +kernel
theorem dX6_moved_28 : decode cX6_moved 28 = .ok (.bipush 15, 2) := by decide +kernel
theorem dX6_moved_30 : decode cX6_moved 30 = .ok (.iand, 1) := by decide +kernel
theorem dX6_moved_31 : decode cX6_moved 31 = .ok (.iconst 1, 1) := by decide +kernel
theorem dX6_moved_32 : decode cX6_moved 32 = .ok (.isub, 1) := by decide +kernel
theorem dX6_moved_33 : decode cX6_moved 33 = .ok (.goto 37, 3) := by decide +kernel
theorem dX6_moved_36 : decode cX6_moved 36 = .ok (.iload_n 2, 1) := by decide +kernel
theorem dX6_moved_37 : decode cX6_moved 37 = .ok (.iconst 2, 1) := by decide +kernel
theorem dX6_moved_38 : decode cX6_moved 38 = .ok (.if_icmp .ne 13, 3) := by decide +kernel
theorem dX6_moved_41 : decode cX6_moved 41 = .ok (.iload_n 3, 1) := by decide +kernel
theorem dX6_moved_42 : decode cX6_moved 42 = .ok (.iconst 5, 1) := by decide +kernel
theorem dX6_moved_43 : decode cX6_moved 43 = .ok (.ishr, 1) := by decide +kernel
theorem dX6_moved_44 : decode cX6_moved 44 = .ok (.iconst 3, 1) := by decide +kernel
theorem dX6_moved_45 : decode cX6_moved 45 = .ok (.iand, 1) := by decide +kernel
theorem dX6_moved_46 : decode cX6_moved 46 = .ok (.iconst 1, 1) := by decide +kernel
theorem dX6_moved_47 : decode cX6_moved 47 = .ok (.isub, 1) := by decide +kernel
theorem dX6_moved_48 : decode cX6_moved 48 = .ok (.goto 22, 3) := by decide +kernel
theorem dX6_moved_51 : decode cX6_moved 51 = .ok (.iload_n 2, 1) := by decide +kernel
theorem dX6_moved_52 : decode cX6_moved 52 = .ok (.iconst 3, 1) := by decide +kernel
theorem dX6_moved_53 : decode cX6_moved 53 = .ok (.if_icmp .ne 13, 3) := by decide +kernel
theorem dX6_moved_56 : decode cX6_moved 56 = .ok (.iload_n 3, 1) := by decide +kernel
theorem dX6_moved_57 : decode cX6_moved 57 = .ok (.bipush 7, 2) := by decide +kernel
theorem dX6_moved_59 : decode cX6_moved 59 = .ok (.ishr, 1) := by decide +kernel
theorem dX6_moved_60 : decode cX6_moved 60 = .ok (.bipush 15, 2) := by decide +kernel
theorem dX6_moved_62 : decode cX6_moved 62 = .ok (.iand, 1) := by decide +kernel
theorem dX6_moved_63 : decode cX6_moved 63 = .ok (.goto 7, 3) := by decide +kernel
theorem dX6_moved_66 : decode cX6_moved 66 = .ok (.iload_n 3, 1) := by decide +kernel
theorem dX6_moved_67 : decode cX6_moved 67 = .ok (.bipush 11, 2) := by decide +kernel
theorem dX6_moved_69 : decode cX6_moved 69 = .ok (.ishr, 1) := by decide +kernel
theorem dX6_moved_70 : decode cX6_moved 70 = .ok (.ireturn, 1) := by decide +kernel
theorem dX6_move_0 : decode cX6_move 0 = .ok (.aload_n 0, 1) := by decide +kernel
theorem dX6_move_1 : decode cX6_move 1 = .ok (.iload_n 1, 1) := by decide +kernel
theorem dX6_move_2 : decode cX6_move 2 = .ok (.iconst 0, 1) := by decide +kernel
theorem dX6_move_3 : decode cX6_move 3 = .ok (.aload_n 0, 1) := by decide +kernel
theorem dX6_move_4 : decode cX6_move 4 = .ok (.getfield 7, 3) := by decide +kernel
theorem dX6_move_7 : decode cX6_move 7 = .ok (.iconst 3, 1) := by decide +kernel
theorem dX6_move_8 : decode cX6_move 8 = .ok (.iaload, 1) := by decide +kernel
theorem dX6_move_9 : decode cX6_move 9 = .ok (.iconst 1, 1) := by decide +kernel
theorem dX6_move_10 : decode cX6_move 10 = .ok (.isub, 1) := by decide +kernel
theorem dX6_move_11 : decode cX6_move 11 = .ok (.invokestatic 76, 3) := by decide +kernel
theorem dX6_move_14 : decode cX6_move 14 = .ok (.ifCond .ne 7, 3) := by decide +kernel
theorem dX6_move_17 : decode cX6_move 17 = .ok (.iconst 1, 1) := by decide +kernel
theorem dX6_move_18 : decode cX6_move 18 = .ok (.goto 17, 3) := by decide +kernel
theorem dX6_move_21 : decode cX6_move 21 = .ok (.iload_n 2, 1) := by decide +kernel
theorem dX6_move_22 : decode cX6_move 22 = .ok (.iconst 0, 1) := by decide +kernel
theorem dX6_move_23 : decode cX6_move 23 = .ok (.iconst 3, 1) := by decide +kernel
theorem dX6_move_24 : decode cX6_move 24 = .ok (.invokestatic 76, 3) := by decide +kernel
theorem dX6_move_27 : decode cX6_move 27 = .ok (.ifCond .eq 7, 3) := by decide +kernel
theorem dX6_move_30 : decode cX6_move 30 = .ok (.iconst 0, 1) := by decide +kernel
theorem dX6_move_31 : decode cX6_move 31 = .ok (.goto 4, 3) := by decide +kernel
theorem dX6_move_34 : decode cX6_move 34 = .ok (.iconst 2, 1) := by decide +kernel
theorem dX6_move_35 : decode cX6_move 35 = .ok (.putfield 47, 3) := by decide +kernel
theorem dX6_move_38 : decode cX6_move 38 = .ok (.aload_n 0, 1) := by decide +kernel
theorem dX6_move_39 : decode cX6_move 39 = .ok (.getfield 47, 3) := by decide +kernel
theorem dX6_move_42 : decode cX6_move 42 = .ok (.ifCond .le 7, 3) := by decide +kernel
theorem dX6_move_45 : decode cX6_move 45 = .ok (.iconst 0, 1) := by decide +kernel
theorem dX6_move_46 : decode cX6_move 46 = .ok (.goto 9, 3) := by decide +kernel
theorem dX6_move_49 : decode cX6_move 49 = .ok (.aload_n 0, 1) := by decide +kernel
theorem dX6_move_50 : decode cX6_move 50 = .ok (.iload_n 1, 1) := by decide +kernel
theorem dX6_move_51 : decode cX6_move 51 = .ok (.iload_n 2, 1) := by decide +kernel
theorem dX6_move_52 : decode cX6_move 52 = .ok (.invokevirtual 272, 3) := by decide +kernel
theorem dX6_move_55 : decode cX6_move 55 = .ok (.ireturn, 1) := by decide +kernel
theorem dX6_counts_0 : decode cX6_counts 0 = .ok (.aload_n 0, 1) := by decide +kernel
theorem dX6_counts_1 : decode cX6_counts 1 = .ok (.iload_n 1, 1) := by decide +kernel
theorem dX6_counts_2 : decode cX6_counts 2 = .ok (.iconst 1, 1) := by decide +kernel
theorem dX6_counts_3 : decode cX6_counts 3 = .ok (.invokevirtual 272, 3) := by decide +kernel
theorem dX6_counts_6 : decode cX6_counts 6 = .ok (.iconst (-1), 1) := by decide +kernel
theorem dX6_counts_7 : decode cX6_counts 7 = .ok (.if_icmp .ne 7, 3) := by decide +kernel
theorem dX6_counts_10 : decode cX6_counts 10 = .ok (.iconst 1, 1) := by decide +kernel
theorem dX6_counts_11 : decode cX6_counts 11 = .ok (.goto 4, 3) := by decide +kernel
theorem dX6_counts_14 : decode cX6_counts 14 = .ok (.iconst 0, 1) := by decide +kernel
theorem dX6_counts_15 : decode cX6_counts 15 = .ok (.istore_n 3, 1) := by decide +kernel
theorem dX6_counts_16 : decode cX6_counts 16 = .ok (.iload_n 2, 1) := by decide +kernel
theorem dX6_counts_17 : decode cX6_counts 17 = .ok (.iconst 1, 1) := by decide +kernel
theorem dX6_counts_18 : decode cX6_counts 18 = .ok (.if_icmp .ne 7, 3) := by decide +kernel
theorem dX6_counts_21 : decode cX6_counts 21 = .ok (.iload_n 3, 1) := by decide +kernel
theorem dX6_counts_22 : decode cX6_counts 22 = .ok (.goto 45, 3) := by decide +kernel
theorem dX6_counts_25 : decode cX6_counts 25 = .ok (.iload_n 3, 1) := by decide +kernel
theorem dX6_counts_26 : decode cX6_counts 26 = .ok (.ifCond .ne 40, 3) := by decide +kernel
theorem dX6_counts_29 : decode cX6_counts 29 = .ok (.iload_n 2, 1) := by decide +kernel
theorem dX6_counts_30 : decode cX6_counts 30 = .ok (.ifCond .eq 32, 3) := by decide +kernel
theorem dX6_counts_33 : decode cX6_counts 33 = .ok (.iload_n 2, 1) := by decide +kernel
theorem dX6_counts_34 : decode cX6_counts 34 = .ok (.iconst 2, 1) := by decide +kernel
theorem dX6_counts_35 : decode cX6_counts 35 = .ok (.if_icmp .ne 13, 3) := by decide +kernel
theorem dX6_counts_38 : decode cX6_counts 38 = .ok (.aload_n 0, 1) := by decide +kernel
theorem dX6_counts_39 : decode cX6_counts 39 = .ok (.iload_n 1, 1) := by decide +kernel
theorem dX6_counts_40 : decode cX6_counts 40 = .ok (.iconst 4, 1) := by decide +kernel
theorem dX6_counts_41 : decode cX6_counts 41 = .ok (.invokevirtual 272, 3) := by decide +kernel
theorem dX6_counts_44 : decode cX6_counts 44 = .ok (.iconst 1, 1) := by decide +kernel
theorem dX6_counts_45 : decode cX6_counts 45 = .ok (.if_icmp .gt 17, 3) := by decide +kernel
theorem dX6_counts_48 : decode cX6_counts 48 = .ok (.iload_n 2, 1) := by decide +kernel
theorem dX6_counts_49 : decode cX6_counts 49 = .ok (.iconst 3, 1) := by decide +kernel
theorem dX6_counts_50 : decode cX6_counts 50 = .ok (.if_icmp .ne 16, 3) := by decide +kernel
theorem dX6_counts_53 : decode cX6_counts 53 = .ok (.aload_n 0, 1) := by decide +kernel
theorem dX6_counts_54 : decode cX6_counts 54 = .ok (.iload_n 1, 1) := by decide +kernel
theorem dX6_counts_55 : decode cX6_counts 55 = .ok (.iconst 4, 1) := by decide +kernel
theorem dX6_counts_56 : decode cX6_counts 56 = .ok (.invokevirtual 272, 3) := by decide +kernel
theorem dX6_counts_59 : decode cX6_counts 59 = .ok (.ifCond .ne 7, 3) := by decide +kernel
theorem dX6_counts_62 : decode cX6_counts 62 = .ok (.iconst 1, 1) := by decide +kernel
theorem dX6_counts_63 : decode cX6_counts 63 = .ok (.goto 4, 3) := by decide +kernel
theorem dX6_counts_66 : decode cX6_counts 66 = .ok (.iconst 0, 1) := by decide +kernel
theorem dX6_counts_67 : decode cX6_counts 67 = .ok (.ireturn, 1) := by decide +kernel
theorem dX6_account_0 : decode cX6_account 0 = .ok (.aload_n 0, 1) := by decide +kernel
theorem dX6_account_1 : decode cX6_account 1 = .ok (.iload_n 1, 1) := by decide +kernel
theorem dX6_account_2 : decode cX6_account 2 = .ok (.iconst 0, 1) := by decide +kernel
theorem dX6_account_3 : decode cX6_account 3 = .ok (.iconst 1, 1) := by decide +kernel
theorem dX6_account_4 : decode cX6_account 4 = .ok (.invokestatic 76, 3) := by decide +kernel
theorem dX6_account_7 : decode cX6_account 7 = .ok (.ifCond .ne 7, 3) := by decide +kernel
theorem dX6_account_10 : decode cX6_account 10 = .ok (.iconst 1, 1) := by decide +kernel
theorem dX6_account_11 : decode cX6_account 11 = .ok (.goto 17, 3) := by decide +kernel
theorem dX6_account_14 : decode cX6_account 14 = .ok (.iload_n 2, 1) := by decide +kernel
theorem dX6_account_15 : decode cX6_account 15 = .ok (.iconst 0, 1) := by decide +kernel
theorem dX6_account_16 : decode cX6_account 16 = .ok (.iconst 4, 1) := by decide +kernel
theorem dX6_account_17 : decode cX6_account 17 = .ok (.invokestatic 76, 3) := by decide +kernel
theorem dX6_account_20 : decode cX6_account 20 = .ok (.ifCond .eq 7, 3) := by decide +kernel
theorem dX6_account_23 : decode cX6_account 23 = .ok (.iconst 0, 1) := by decide +kernel
theorem dX6_account_24 : decode cX6_account 24 = .ok (.goto 4, 3) := by decide +kernel
theorem dX6_account_27 : decode cX6_account 27 = .ok (.iconst 2, 1) := by decide +kernel
theorem dX6_account_28 : decode cX6_account 28 = .ok (.putfield 47, 3) := by decide +kernel
theorem dX6_account_31 : decode cX6_account 31 = .ok (.aload_n 0, 1) := by decide +kernel
theorem dX6_account_32 : decode cX6_account 32 = .ok (.getfield 47, 3) := by decide +kernel
theorem dX6_account_35 : decode cX6_account 35 = .ok (.ifCond .le 5, 3) := by decide +kernel
theorem dX6_account_38 : decode cX6_account 38 = .ok (.iconst 0, 1) := by decide +kernel
theorem dX6_account_39 : decode cX6_account 39 = .ok (.ireturn, 1) := by decide +kernel
theorem dX6_account_40 : decode cX6_account 40 = .ok (.iconst 0, 1) := by decide +kernel
theorem dX6_account_41 : decode cX6_account 41 = .ok (.istore_n 3, 1) := by decide +kernel
theorem dX6_account_42 : decode cX6_account 42 = .ok (.iconst 0, 1) := by decide +kernel
theorem dX6_account_43 : decode cX6_account 43 = .ok (.istore 4, 2) := by decide +kernel
theorem dX6_account_45 : decode cX6_account 45 = .ok (.iconst 0, 1) := by decide +kernel
theorem dX6_account_46 : decode cX6_account 46 = .ok (.istore 5, 2) := by decide +kernel
theorem dX6_account_48 : decode cX6_account 48 = .ok (.iload 5, 2) := by decide +kernel
theorem dX6_account_50 : decode cX6_account 50 = .ok (.aload_n 0, 1) := by decide +kernel
theorem dX6_account_51 : decode cX6_account 51 = .ok (.getfield 7, 3) := by decide +kernel
theorem dX6_account_54 : decode cX6_account 54 = .ok (.iconst 3, 1) := by decide +kernel
theorem dX6_account_55 : decode cX6_account 55 = .ok (.iaload, 1) := by decide +kernel
theorem dX6_account_56 : decode cX6_account 56 = .ok (.if_icmp .ge 70, 3) := by decide +kernel
theorem dX6_account_59 : decode cX6_account 59 = .ok (.aload_n 0, 1) := by decide +kernel
theorem dX6_account_60 : decode cX6_account 60 = .ok (.iload 5, 2) := by decide +kernel
theorem dX6_account_62 : decode cX6_account 62 = .ok (.iconst 0, 1) := by decide +kernel
theorem dX6_account_63 : decode cX6_account 63 = .ok (.invokevirtual 272, 3) := by decide +kernel
theorem dX6_account_66 : decode cX6_account 66 = .ok (.iload_n 1, 1) := by decide +kernel
theorem dX6_account_67 : decode cX6_account 67 = .ok (.if_icmp .eq 6, 3) := by decide +kernel
theorem dX6_account_70 : decode cX6_account 70 = .ok (.goto 50, 3) := by decide +kernel
theorem dX6_account_73 : decode cX6_account 73 = .ok (.iload_n 3, 1) := by decide +kernel
theorem dX6_account_74 : decode cX6_account 74 = .ok (.aload_n 0, 1) := by decide +kernel
theorem dX6_account_75 : decode cX6_account 75 = .ok (.iload 5, 2) := by decide +kernel
theorem dX6_account_77 : decode cX6_account 77 = .ok (.iload_n 2, 1) := by decide +kernel
theorem dX6_account_78 : decode cX6_account 78 = .ok (.invokevirtual 275, 3) := by decide +kernel
theorem dX6_account_81 : decode cX6_account 81 = .ok (.ifCond .eq 7, 3) := by decide +kernel
theorem dX6_account_84 : decode cX6_account 84 = .ok (.iconst 1, 1) := by decide +kernel
theorem dX6_account_85 : decode cX6_account 85 = .ok (.goto 4, 3) := by decide +kernel
theorem dX6_account_88 : decode cX6_account 88 = .ok (.iconst 0, 1) := by decide +kernel
theorem dX6_account_89 : decode cX6_account 89 = .ok (.iadd, 1) := by decide +kernel
theorem dX6_account_90 : decode cX6_account 90 = .ok (.istore_n 3, 1) := by decide +kernel
theorem dX6_account_91 : decode cX6_account 91 = .ok (.iload 4, 2) := by decide +kernel
theorem dX6_account_93 : decode cX6_account 93 = .ok (.aload_n 0, 1) := by decide +kernel
theorem dX6_account_94 : decode cX6_account 94 = .ok (.iload 5, 2) := by decide +kernel
theorem dX6_account_96 : decode cX6_account 96 = .ok (.iconst 1, 1) := by decide +kernel
theorem dX6_account_97 : decode cX6_account 97 = .ok (.invokevirtual 272, 3) := by decide +kernel
theorem dX6_account_100 : decode cX6_account 100 = .ok (.iconst (-1), 1) := by decide +kernel
theorem dX6_account_101 : decode cX6_account 101 = .ok (.if_icmp .ne 7, 3) := by decide +kernel
theorem dX6_account_104 : decode cX6_account 104 = .ok (.iconst 0, 1) := by decide +kernel
theorem dX6_account_105 : decode cX6_account 105 = .ok (.goto 12, 3) := by decide +kernel
theorem dX6_account_108 : decode cX6_account 108 = .ok (.iconst 1, 1) := by decide +kernel
theorem dX6_account_109 : decode cX6_account 109 = .ok (.aload_n 0, 1) := by decide +kernel
theorem dX6_account_110 : decode cX6_account 110 = .ok (.iload 5, 2) := by decide +kernel
theorem dX6_account_112 : decode cX6_account 112 = .ok (.iconst 2, 1) := by decide +kernel
theorem dX6_account_113 : decode cX6_account 113 = .ok (.invokevirtual 272, 3) := by decide +kernel
theorem dX6_account_116 : decode cX6_account 116 = .ok (.ishl, 1) := by decide +kernel
theorem dX6_account_117 : decode cX6_account 117 = .ok (.ior, 1) := by decide +kernel
theorem dX6_account_118 : decode cX6_account 118 = .ok (.istore 4, 2) := by decide +kernel
theorem dX6_account_120 : decode cX6_account 120 = .ok (.iinc 5 1, 3) := by decide +kernel
theorem dX6_account_123 : decode cX6_account 123 = .ok (.goto (-75), 3) := by decide +kernel
theorem dX6_account_126 : decode cX6_account 126 = .ok (.iload_n 2, 1) := by decide +kernel
theorem dX6_account_127 : decode cX6_account 127 = .ok (.iconst 4, 1) := by decide +kernel
theorem dX6_account_128 : decode cX6_account 128 = .ok (.if_icmp .ne 11, 3) := by decide +kernel
theorem dX6_account_131 : decode cX6_account 131 = .ok (.iload 4, 2) := by decide +kernel
theorem dX6_account_133 : decode cX6_account 133 = .ok (.invokestatic 189, 3) := by decide +kernel
theorem dX6_account_136 : decode cX6_account 136 = .ok (.goto 4, 3) := by decide +kernel
theorem dX6_account_139 : decode cX6_account 139 = .ok (.iload_n 3, 1) := by decide +kernel
theorem dX6_account_140 : decode cX6_account 140 = .ok (.ireturn, 1) := by decide +kernel
theorem dX6_says_0 : decode cX6_says 0 = .ok (.aload_n 0, 1) := by decide +kernel
theorem dX6_says_1 : decode cX6_says 1 = .ok (.getfield 44, 3) := by decide +kernel
theorem dX6_says_4 : decode cX6_says 4 = .ok (.aload_n 0, 1) := by decide +kernel
theorem dX6_says_5 : decode cX6_says 5 = .ok (.getfield 278, 3) := by decide +kernel
theorem dX6_says_8 : decode cX6_says 8 = .ok (.iload_n 1, 1) := by decide +kernel
theorem dX6_says_9 : decode cX6_says 9 = .ok (.iastore, 1) := by decide +kernel
theorem dX6_says_10 : decode cX6_says 10 = .ok (.aload_n 0, 1) := by decide +kernel
theorem dX6_says_11 : decode cX6_says 11 = .ok (.dup, 1) := by decide +kernel
theorem dX6_says_12 : decode cX6_says 12 = .ok (.getfield 278, 3) := by decide +kernel
theorem dX6_says_15 : decode cX6_says 15 = .ok (.iconst 1, 1) := by decide +kernel
theorem dX6_says_16 : decode cX6_says 16 = .ok (.iadd, 1) := by decide +kernel
theorem dX6_says_17 : decode cX6_says 17 = .ok (.putfield 278, 3) := by decide +kernel
theorem dX6_says_20 : decode cX6_says 20 = .ok (.return_, 1) := by decide +kernel
theorem dX6_writeBoard_0 : decode cX6_writeBoard 0 = .ok (.aload_n 0, 1) := by decide +kernel
theorem dX6_writeBoard_1 : decode cX6_writeBoard 1 = .ok (.iconst 0, 1) := by decide +kernel
theorem dX6_writeBoard_2 : decode cX6_writeBoard 2 = .ok (.putfield 47, 3) := by decide +kernel
theorem dX6_writeBoard_5 : decode cX6_writeBoard 5 = .ok (.aload_n 0, 1) := by decide +kernel
theorem dX6_writeBoard_6 : decode cX6_writeBoard 6 = .ok (.iconst 0, 1) := by decide +kernel
theorem dX6_writeBoard_7 : decode cX6_writeBoard 7 = .ok (.putfield 278, 3) := by decide +kernel
theorem dX6_writeBoard_10 : decode cX6_writeBoard 10 = .ok (.iconst 0, 1) := by decide +kernel
theorem dX6_writeBoard_11 : decode cX6_writeBoard 11 = .ok (.istore_n 1, 1) := by decide +kernel
theorem dX6_writeBoard_12 : decode cX6_writeBoard 12 = .ok (.iload_n 1, 1) := by decide +kernel
theorem dX6_writeBoard_13 : decode cX6_writeBoard 13 = .ok (.aload_n 0, 1) := by decide +kernel
theorem dX6_writeBoard_14 : decode cX6_writeBoard 14 = .ok (.getfield 7, 3) := by decide +kernel
theorem dX6_writeBoard_17 : decode cX6_writeBoard 17 = .ok (.iconst 0, 1) := by decide +kernel
theorem dX6_writeBoard_18 : decode cX6_writeBoard 18 = .ok (.iaload, 1) := by decide +kernel
theorem dX6_writeBoard_19 : decode cX6_writeBoard 19 = .ok (.if_icmp .ge 34, 3) := by decide +kernel
theorem dX6_writeBoard_22 : decode cX6_writeBoard 22 = .ok (.aload_n 0, 1) := by decide +kernel
theorem dX6_writeBoard_23 : decode cX6_writeBoard 23 = .ok (.aload_n 0, 1) := by decide +kernel
theorem dX6_writeBoard_24 : decode cX6_writeBoard 24 = .ok (.iload_n 1, 1) := by decide +kernel
theorem dX6_writeBoard_25 : decode cX6_writeBoard 25 = .ok (.invokevirtual 170, 3) := by decide +kernel
theorem dX6_writeBoard_28 : decode cX6_writeBoard 28 = .ok (.ifCond .eq 8, 3) := by decide +kernel
theorem dX6_writeBoard_31 : decode cX6_writeBoard 31 = .ok (.bipush 46, 2) := by decide +kernel
theorem dX6_writeBoard_33 : decode cX6_writeBoard 33 = .ok (.goto 11, 3) := by decide +kernel
theorem dX6_writeBoard_36 : decode cX6_writeBoard 36 = .ok (.bipush 97, 2) := by decide +kernel
theorem dX6_writeBoard_38 : decode cX6_writeBoard 38 = .ok (.aload_n 0, 1) := by decide +kernel
theorem dX6_writeBoard_39 : decode cX6_writeBoard 39 = .ok (.iload_n 1, 1) := by decide +kernel
theorem dX6_writeBoard_40 : decode cX6_writeBoard 40 = .ok (.invokevirtual 183, 3) := by decide +kernel
theorem dX6_writeBoard_43 : decode cX6_writeBoard 43 = .ok (.iadd, 1) := by decide +kernel
theorem dX6_writeBoard_44 : decode cX6_writeBoard 44 = .ok (.invokevirtual 281, 3) := by decide +kernel
theorem dX6_writeBoard_47 : decode cX6_writeBoard 47 = .ok (.iinc 1 1, 3) := by decide +kernel
theorem dX6_writeBoard_50 : decode cX6_writeBoard 50 = .ok (.goto (-38), 3) := by decide +kernel
theorem dX6_writeBoard_53 : decode cX6_writeBoard 53 = .ok (.aload_n 0, 1) := by decide +kernel
theorem dX6_writeBoard_54 : decode cX6_writeBoard 54 = .ok (.bipush 47, 2) := by decide +kernel
theorem dX6_writeBoard_56 : decode cX6_writeBoard 56 = .ok (.invokevirtual 281, 3) := by decide +kernel
theorem dX6_writeBoard_59 : decode cX6_writeBoard 59 = .ok (.aload_n 0, 1) := by decide +kernel
theorem dX6_writeBoard_60 : decode cX6_writeBoard 60 = .ok (.bipush 48, 2) := by decide +kernel
theorem dX6_writeBoard_62 : decode cX6_writeBoard 62 = .ok (.aload_n 0, 1) := by decide +kernel
theorem dX6_writeBoard_63 : decode cX6_writeBoard 63 = .ok (.invokevirtual 210, 3) := by decide +kernel
theorem dX6_writeBoard_66 : decode cX6_writeBoard 66 = .ok (.iadd, 1) := by decide +kernel
theorem dX6_writeBoard_67 : decode cX6_writeBoard 67 = .ok (.invokevirtual 281, 3) := by decide +kernel
theorem dX6_writeBoard_70 : decode cX6_writeBoard 70 = .ok (.aload_n 0, 1) := by decide +kernel
theorem dX6_writeBoard_71 : decode cX6_writeBoard 71 = .ok (.bipush 47, 2) := by decide +kernel
theorem dX6_writeBoard_73 : decode cX6_writeBoard 73 = .ok (.invokevirtual 281, 3) := by decide +kernel
theorem dX6_writeBoard_76 : decode cX6_writeBoard 76 = .ok (.aload_n 0, 1) := by decide +kernel
theorem dX6_writeBoard_77 : decode cX6_writeBoard 77 = .ok (.bipush 48, 2) := by decide +kernel
theorem dX6_writeBoard_79 : decode cX6_writeBoard 79 = .ok (.aload_n 0, 1) := by decide +kernel
theorem dX6_writeBoard_80 : decode cX6_writeBoard 80 = .ok (.getfield 7, 3) := by decide +kernel
theorem dX6_writeBoard_83 : decode cX6_writeBoard 83 = .ok (.iconst 2, 1) := by decide +kernel
theorem dX6_writeBoard_84 : decode cX6_writeBoard 84 = .ok (.iaload, 1) := by decide +kernel
theorem dX6_writeBoard_85 : decode cX6_writeBoard 85 = .ok (.iadd, 1) := by decide +kernel
theorem dX6_writeBoard_86 : decode cX6_writeBoard 86 = .ok (.invokevirtual 281, 3) := by decide +kernel
theorem dX6_writeBoard_89 : decode cX6_writeBoard 89 = .ok (.aload_n 0, 1) := by decide +kernel
theorem dX6_writeBoard_90 : decode cX6_writeBoard 90 = .ok (.getfield 278, 3) := by decide +kernel
theorem dX6_writeBoard_93 : decode cX6_writeBoard 93 = .ok (.ireturn, 1) := by decide +kernel
theorem dX6_writtenByte_0 : decode cX6_writtenByte 0 = .ok (.aload_n 0, 1) := by decide +kernel
theorem dX6_writtenByte_1 : decode cX6_writtenByte 1 = .ok (.iload_n 1, 1) := by decide +kernel
theorem dX6_writtenByte_2 : decode cX6_writtenByte 2 = .ok (.iconst 0, 1) := by decide +kernel
theorem dX6_writtenByte_3 : decode cX6_writtenByte 3 = .ok (.aload_n 0, 1) := by decide +kernel
theorem dX6_writtenByte_4 : decode cX6_writtenByte 4 = .ok (.getfield 278, 3) := by decide +kernel
theorem dX6_writtenByte_7 : decode cX6_writtenByte 7 = .ok (.iconst 1, 1) := by decide +kernel
theorem dX6_writtenByte_8 : decode cX6_writtenByte 8 = .ok (.isub, 1) := by decide +kernel
theorem dX6_writtenByte_9 : decode cX6_writtenByte 9 = .ok (.invokestatic 76, 3) := by decide +kernel
theorem dX6_writtenByte_12 : decode cX6_writtenByte 12 = .ok (.ifCond .eq 7, 3) := by decide +kernel
theorem dX6_writtenByte_15 : decode cX6_writtenByte 15 = .ok (.iconst 0, 1) := by decide +kernel
theorem dX6_writtenByte_16 : decode cX6_writtenByte 16 = .ok (.goto 4, 3) := by decide +kernel
theorem dX6_writtenByte_19 : decode cX6_writtenByte 19 = .ok (.iconst 1, 1) := by decide +kernel
theorem dX6_writtenByte_20 : decode cX6_writtenByte 20 = .ok (.putfield 47, 3) := by decide +kernel
theorem dX6_writtenByte_23 : decode cX6_writtenByte 23 = .ok (.aload_n 0, 1) := by decide +kernel
theorem dX6_writtenByte_24 : decode cX6_writtenByte 24 = .ok (.getfield 47, 3) := by decide +kernel
theorem dX6_writtenByte_27 : decode cX6_writtenByte 27 = .ok (.ifCond .le 7, 3) := by decide +kernel
theorem dX6_writtenByte_30 : decode cX6_writtenByte 30 = .ok (.iconst 0, 1) := by decide +kernel
theorem dX6_writtenByte_31 : decode cX6_writtenByte 31 = .ok (.goto 9, 3) := by decide +kernel
theorem dX6_writtenByte_34 : decode cX6_writtenByte 34 = .ok (.aload_n 0, 1) := by decide +kernel
theorem dX6_writtenByte_35 : decode cX6_writtenByte 35 = .ok (.getfield 44, 3) := by decide +kernel
theorem dX6_writtenByte_38 : decode cX6_writtenByte 38 = .ok (.iload_n 1, 1) := by decide +kernel
theorem dX6_writtenByte_39 : decode cX6_writtenByte 39 = .ok (.iaload, 1) := by decide +kernel
theorem dX6_writtenByte_40 : decode cX6_writtenByte 40 = .ok (.ireturn, 1) := by decide +kernel
theorem dX6_save_0 : decode cX6_save 0 = .ok (.aload_n 0, 1) := by decide +kernel
theorem dX6_save_1 : decode cX6_save 1 = .ok (.iload_n 1, 1) := by decide +kernel
theorem dX6_save_2 : decode cX6_save 2 = .ok (.iconst 0, 1) := by decide +kernel
theorem dX6_save_3 : decode cX6_save 3 = .ok (.iconst 1, 1) := by decide +kernel
theorem dX6_save_4 : decode cX6_save 4 = .ok (.invokestatic 76, 3) := by decide +kernel
theorem dX6_save_7 : decode cX6_save 7 = .ok (.ifCond .eq 7, 3) := by decide +kernel
theorem dX6_save_10 : decode cX6_save 10 = .ok (.iconst 0, 1) := by decide +kernel
theorem dX6_save_11 : decode cX6_save 11 = .ok (.goto 4, 3) := by decide +kernel
theorem dX6_save_14 : decode cX6_save 14 = .ok (.iconst 1, 1) := by decide +kernel
theorem dX6_save_15 : decode cX6_save 15 = .ok (.putfield 47, 3) := by decide +kernel
theorem dX6_save_18 : decode cX6_save 18 = .ok (.aload_n 0, 1) := by decide +kernel
theorem dX6_save_19 : decode cX6_save 19 = .ok (.getfield 47, 3) := by decide +kernel
theorem dX6_save_22 : decode cX6_save 22 = .ok (.ifCond .le 5, 3) := by decide +kernel
theorem dX6_save_25 : decode cX6_save 25 = .ok (.iconst 0, 1) := by decide +kernel
theorem dX6_save_26 : decode cX6_save 26 = .ok (.ireturn, 1) := by decide +kernel
theorem dX6_save_27 : decode cX6_save 27 = .ok (.aload_n 0, 1) := by decide +kernel
theorem dX6_save_28 : decode cX6_save 28 = .ok (.getfield 26, 3) := by decide +kernel
theorem dX6_save_31 : decode cX6_save 31 = .ok (.iload_n 1, 1) := by decide +kernel
theorem dX6_save_32 : decode cX6_save 32 = .ok (.iconst 1, 1) := by decide +kernel
theorem dX6_save_33 : decode cX6_save 33 = .ok (.bastore, 1) := by decide +kernel
theorem dX6_save_34 : decode cX6_save 34 = .ok (.aload_n 0, 1) := by decide +kernel
theorem dX6_save_35 : decode cX6_save 35 = .ok (.getfield 23, 3) := by decide +kernel
theorem dX6_save_38 : decode cX6_save 38 = .ok (.sipush 4136, 3) := by decide +kernel
theorem dX6_save_41 : decode cX6_save 41 = .ok (.iload_n 1, 1) := by decide +kernel
theorem dX6_save_42 : decode cX6_save 42 = .ok (.imul, 1) := by decide +kernel
theorem dX6_save_43 : decode cX6_save 43 = .ok (.aload_n 0, 1) := by decide +kernel
theorem dX6_save_44 : decode cX6_save 44 = .ok (.getfield 7, 3) := by decide +kernel
theorem dX6_save_47 : decode cX6_save 47 = .ok (.iconst 0, 1) := by decide +kernel
theorem dX6_save_48 : decode cX6_save 48 = .ok (.invokestatic 53, 3) := by decide +kernel
theorem dX6_save_51 : decode cX6_save 51 = .ok (.aload_n 0, 1) := by decide +kernel
theorem dX6_save_52 : decode cX6_save 52 = .ok (.getfield 7, 3) := by decide +kernel
theorem dX6_save_55 : decode cX6_save 55 = .ok (.iconst 3, 1) := by decide +kernel
theorem dX6_save_56 : decode cX6_save 56 = .ok (.iaload, 1) := by decide +kernel
theorem dX6_save_57 : decode cX6_save 57 = .ok (.ireturn, 1) := by decide +kernel
theorem dX6_restore_0 : decode cX6_restore 0 = .ok (.aload_n 0, 1) := by decide +kernel
theorem dX6_restore_1 : decode cX6_restore 1 = .ok (.iload_n 1, 1) := by decide +kernel
theorem dX6_restore_2 : decode cX6_restore 2 = .ok (.iconst 0, 1) := by decide +kernel
theorem dX6_restore_3 : decode cX6_restore 3 = .ok (.iconst 1, 1) := by decide +kernel
theorem dX6_restore_4 : decode cX6_restore 4 = .ok (.invokestatic 76, 3) := by decide +kernel
theorem dX6_restore_7 : decode cX6_restore 7 = .ok (.ifCond .ne 7, 3) := by decide +kernel
theorem dX6_restore_10 : decode cX6_restore 10 = .ok (.iconst 1, 1) := by decide +kernel
theorem dX6_restore_11 : decode cX6_restore 11 = .ok (.goto 17, 3) := by decide +kernel
theorem dX6_restore_14 : decode cX6_restore 14 = .ok (.aload_n 0, 1) := by decide +kernel
theorem dX6_restore_15 : decode cX6_restore 15 = .ok (.getfield 26, 3) := by decide +kernel
theorem dX6_restore_18 : decode cX6_restore 18 = .ok (.iload_n 1, 1) := by decide +kernel
theorem dX6_restore_19 : decode cX6_restore 19 = .ok (.baload, 1) := by decide +kernel
theorem dX6_restore_20 : decode cX6_restore 20 = .ok (.ifCond .eq 7, 3) := by decide +kernel
theorem dX6_restore_23 : decode cX6_restore 23 = .ok (.iconst 0, 1) := by decide +kernel
theorem dX6_restore_24 : decode cX6_restore 24 = .ok (.goto 4, 3) := by decide +kernel
theorem dX6_restore_27 : decode cX6_restore 27 = .ok (.iconst 2, 1) := by decide +kernel
theorem dX6_restore_28 : decode cX6_restore 28 = .ok (.putfield 47, 3) := by decide +kernel
theorem dX6_restore_31 : decode cX6_restore 31 = .ok (.aload_n 0, 1) := by decide +kernel
theorem dX6_restore_32 : decode cX6_restore 32 = .ok (.getfield 47, 3) := by decide +kernel
theorem dX6_restore_35 : decode cX6_restore 35 = .ok (.ifCond .le 5, 3) := by decide +kernel
theorem dX6_restore_38 : decode cX6_restore 38 = .ok (.iconst 0, 1) := by decide +kernel
theorem dX6_restore_39 : decode cX6_restore 39 = .ok (.ireturn, 1) := by decide +kernel
theorem dX6_restore_40 : decode cX6_restore 40 = .ok (.aload_n 0, 1) := by decide +kernel
theorem dX6_restore_41 : decode cX6_restore 41 = .ok (.invokevirtual 167, 3) := by decide +kernel
theorem dX6_restore_44 : decode cX6_restore 44 = .ok (.aload_n 0, 1) := by decide +kernel
theorem dX6_restore_45 : decode cX6_restore 45 = .ok (.getfield 7, 3) := by decide +kernel
theorem dX6_restore_48 : decode cX6_restore 48 = .ok (.iconst 0, 1) := by decide +kernel
theorem dX6_restore_49 : decode cX6_restore 49 = .ok (.aload_n 0, 1) := by decide +kernel
theorem dX6_restore_50 : decode cX6_restore 50 = .ok (.getfield 23, 3) := by decide +kernel
theorem dX6_restore_53 : decode cX6_restore 53 = .ok (.sipush 4136, 3) := by decide +kernel
theorem dX6_restore_56 : decode cX6_restore 56 = .ok (.iload_n 1, 1) := by decide +kernel
theorem dX6_restore_57 : decode cX6_restore 57 = .ok (.imul, 1) := by decide +kernel
theorem dX6_restore_58 : decode cX6_restore 58 = .ok (.invokestatic 53, 3) := by decide +kernel
theorem dX6_restore_61 : decode cX6_restore 61 = .ok (.aload_n 0, 1) := by decide +kernel
theorem dX6_restore_62 : decode cX6_restore 62 = .ok (.getfield 7, 3) := by decide +kernel
theorem dX6_restore_65 : decode cX6_restore 65 = .ok (.iconst 3, 1) := by decide +kernel
theorem dX6_restore_66 : decode cX6_restore 66 = .ok (.iaload, 1) := by decide +kernel
theorem dX6_restore_67 : decode cX6_restore 67 = .ok (.ireturn, 1) := by decide +kernel
theorem dJ6_bitCount_0f7a4_0 : decode cJ6_bitCount_0f7a4 0 = .ok (.iload_n 0, 1) := by decide +kernel
theorem dJ6_bitCount_0f7a4_1 : decode cJ6_bitCount_0f7a4 1 = .ok (.iload_n 0, 1) := by decide +kernel
theorem dJ6_bitCount_0f7a4_2 : decode cJ6_bitCount_0f7a4 2 = .ok (.iconst 1, 1) := by decide +kernel
theorem dJ6_bitCount_0f7a4_3 : decode cJ6_bitCount_0f7a4 3 = .ok (.iushr, 1) := by decide +kernel
theorem dJ6_bitCount_0f7a4_4 : decode cJ6_bitCount_0f7a4 4 = .ok (.ldc_w 265, 3) := by decide +kernel
theorem dJ6_bitCount_0f7a4_7 : decode cJ6_bitCount_0f7a4 7 = .ok (.iand, 1) := by decide +kernel
theorem dJ6_bitCount_0f7a4_8 : decode cJ6_bitCount_0f7a4 8 = .ok (.isub, 1) := by decide +kernel
theorem dJ6_bitCount_0f7a4_9 : decode cJ6_bitCount_0f7a4 9 = .ok (.istore_n 0, 1) := by decide +kernel
theorem dJ6_bitCount_0f7a4_10 : decode cJ6_bitCount_0f7a4 10 = .ok (.iload_n 0, 1) := by decide +kernel
theorem dJ6_bitCount_0f7a4_11 : decode cJ6_bitCount_0f7a4 11 = .ok (.ldc_w 266, 3) := by decide +kernel
theorem dJ6_bitCount_0f7a4_14 : decode cJ6_bitCount_0f7a4 14 = .ok (.iand, 1) := by decide +kernel
theorem dJ6_bitCount_0f7a4_15 : decode cJ6_bitCount_0f7a4 15 = .ok (.iload_n 0, 1) := by decide +kernel
theorem dJ6_bitCount_0f7a4_16 : decode cJ6_bitCount_0f7a4 16 = .ok (.iconst 2, 1) := by decide +kernel
theorem dJ6_bitCount_0f7a4_17 : decode cJ6_bitCount_0f7a4 17 = .ok (.iushr, 1) := by decide +kernel
theorem dJ6_bitCount_0f7a4_18 : decode cJ6_bitCount_0f7a4 18 = .ok (.ldc_w 266, 3) := by decide +kernel
theorem dJ6_bitCount_0f7a4_21 : decode cJ6_bitCount_0f7a4 21 = .ok (.iand, 1) := by decide +kernel
theorem dJ6_bitCount_0f7a4_22 : decode cJ6_bitCount_0f7a4 22 = .ok (.iadd, 1) := by decide +kernel
theorem dJ6_bitCount_0f7a4_23 : decode cJ6_bitCount_0f7a4 23 = .ok (.istore_n 0, 1) := by decide +kernel
theorem dJ6_bitCount_0f7a4_24 : decode cJ6_bitCount_0f7a4 24 = .ok (.iload_n 0, 1) := by decide +kernel
theorem dJ6_bitCount_0f7a4_25 : decode cJ6_bitCount_0f7a4 25 = .ok (.iload_n 0, 1) := by decide +kernel
theorem dJ6_bitCount_0f7a4_26 : decode cJ6_bitCount_0f7a4 26 = .ok (.iconst 4, 1) := by decide +kernel
theorem dJ6_bitCount_0f7a4_27 : decode cJ6_bitCount_0f7a4 27 = .ok (.iushr, 1) := by decide +kernel
theorem dJ6_bitCount_0f7a4_28 : decode cJ6_bitCount_0f7a4 28 = .ok (.iadd, 1) := by decide +kernel
theorem dJ6_bitCount_0f7a4_29 : decode cJ6_bitCount_0f7a4 29 = .ok (.ldc_w 267, 3) := by decide +kernel
theorem dJ6_bitCount_0f7a4_32 : decode cJ6_bitCount_0f7a4 32 = .ok (.iand, 1) := by decide +kernel
theorem dJ6_bitCount_0f7a4_33 : decode cJ6_bitCount_0f7a4 33 = .ok (.istore_n 0, 1) := by decide +kernel
theorem dJ6_bitCount_0f7a4_34 : decode cJ6_bitCount_0f7a4 34 = .ok (.iload_n 0, 1) := by decide +kernel
theorem dJ6_bitCount_0f7a4_35 : decode cJ6_bitCount_0f7a4 35 = .ok (.iload_n 0, 1) := by decide +kernel
theorem dJ6_bitCount_0f7a4_36 : decode cJ6_bitCount_0f7a4 36 = .ok (.bipush 8, 2) := by decide +kernel
theorem dJ6_bitCount_0f7a4_38 : decode cJ6_bitCount_0f7a4 38 = .ok (.iushr, 1) := by decide +kernel
theorem dJ6_bitCount_0f7a4_39 : decode cJ6_bitCount_0f7a4 39 = .ok (.iadd, 1) := by decide +kernel
theorem dJ6_bitCount_0f7a4_40 : decode cJ6_bitCount_0f7a4 40 = .ok (.istore_n 0, 1) := by decide +kernel
theorem dJ6_bitCount_0f7a4_41 : decode cJ6_bitCount_0f7a4 41 = .ok (.iload_n 0, 1) := by decide +kernel
theorem dJ6_bitCount_0f7a4_42 : decode cJ6_bitCount_0f7a4 42 = .ok (.iload_n 0, 1) := by decide +kernel
theorem dJ6_bitCount_0f7a4_43 : decode cJ6_bitCount_0f7a4 43 = .ok (.bipush 16, 2) := by decide +kernel
theorem dJ6_bitCount_0f7a4_45 : decode cJ6_bitCount_0f7a4 45 = .ok (.iushr, 1) := by decide +kernel
theorem dJ6_bitCount_0f7a4_46 : decode cJ6_bitCount_0f7a4 46 = .ok (.iadd, 1) := by decide +kernel
theorem dJ6_bitCount_0f7a4_47 : decode cJ6_bitCount_0f7a4 47 = .ok (.istore_n 0, 1) := by decide +kernel
theorem dJ6_bitCount_0f7a4_48 : decode cJ6_bitCount_0f7a4 48 = .ok (.iload_n 0, 1) := by decide +kernel
theorem dJ6_bitCount_0f7a4_49 : decode cJ6_bitCount_0f7a4 49 = .ok (.bipush 63, 2) := by decide +kernel
theorem dJ6_bitCount_0f7a4_51 : decode cJ6_bitCount_0f7a4 51 = .ok (.iand, 1) := by decide +kernel
theorem dJ6_bitCount_0f7a4_52 : decode cJ6_bitCount_0f7a4 52 = .ok (.ireturn, 1) := by decide +kernel
theorem dJ9_max_7cf53_0 : decode cJ9_max_7cf53 0 = .ok (.iload_n 0, 1) := by decide +kernel
theorem dJ9_max_7cf53_1 : decode cJ9_max_7cf53 1 = .ok (.iload_n 1, 1) := by decide +kernel
theorem dJ9_max_7cf53_2 : decode cJ9_max_7cf53 2 = .ok (.if_icmp .lt 7, 3) := by decide +kernel
theorem dJ9_max_7cf53_5 : decode cJ9_max_7cf53 5 = .ok (.iload_n 0, 1) := by decide +kernel
theorem dJ9_max_7cf53_6 : decode cJ9_max_7cf53 6 = .ok (.goto 4, 3) := by decide +kernel
theorem dJ9_max_7cf53_9 : decode cJ9_max_7cf53 9 = .ok (.iload_n 1, 1) := by decide +kernel
theorem dJ9_max_7cf53_10 : decode cJ9_max_7cf53 10 = .ok (.ireturn, 1) := by decide +kernel
theorem dJ9_min_7cf53_0 : decode cJ9_min_7cf53 0 = .ok (.iload_n 0, 1) := by decide +kernel
theorem dJ9_min_7cf53_1 : decode cJ9_min_7cf53 1 = .ok (.iload_n 1, 1) := by decide +kernel
theorem dJ9_min_7cf53_2 : decode cJ9_min_7cf53 2 = .ok (.if_icmp .gt 7, 3) := by decide +kernel
theorem dJ9_min_7cf53_5 : decode cJ9_min_7cf53 5 = .ok (.iload_n 0, 1) := by decide +kernel
theorem dJ9_min_7cf53_6 : decode cJ9_min_7cf53 6 = .ok (.goto 4, 3) := by decide +kernel
theorem dJ9_min_7cf53_9 : decode cJ9_min_7cf53 9 = .ok (.iload_n 1, 1) := by decide +kernel
theorem dJ9_min_7cf53_10 : decode cJ9_min_7cf53 10 = .ok (.ireturn, 1) := by decide +kernel
theorem dJ0_length_8abf5_0 : decode cJ0_length_8abf5 0 = .ok (.aload_n 0, 1) := by decide +kernel
theorem dJ0_length_8abf5_1 : decode cJ0_length_8abf5 1 = .ok (.getfield 9, 3) := by decide +kernel
theorem dJ0_length_8abf5_4 : decode cJ0_length_8abf5 4 = .ok (.arraylength, 1) := by decide +kernel
theorem dJ0_length_8abf5_5 : decode cJ0_length_8abf5 5 = .ok (.aload_n 0, 1) := by decide +kernel
theorem dJ0_length_8abf5_6 : decode cJ0_length_8abf5 6 = .ok (.invokevirtual 335, 3) := by decide +kernel
theorem dJ0_length_8abf5_9 : decode cJ0_length_8abf5 9 = .ok (.ishr, 1) := by decide +kernel
theorem dJ0_length_8abf5_10 : decode cJ0_length_8abf5 10 = .ok (.ireturn, 1) := by decide +kernel
theorem dJ0_charAt_5068e_0 : decode cJ0_charAt_5068e 0 = .ok (.aload_n 0, 1) := by decide +kernel
theorem dJ0_charAt_5068e_1 : decode cJ0_charAt_5068e 1 = .ok (.invokevirtual 492, 3) := by decide +kernel
theorem dJ0_charAt_5068e_4 : decode cJ0_charAt_5068e 4 = .ok (.ifCond .eq 12, 3) := by decide +kernel
theorem dJ0_charAt_5068e_7 : decode cJ0_charAt_5068e 7 = .ok (.aload_n 0, 1) := by decide +kernel
theorem dJ0_charAt_5068e_8 : decode cJ0_charAt_5068e 8 = .ok (.getfield 9, 3) := by decide +kernel
theorem dJ0_charAt_5068e_11 : decode cJ0_charAt_5068e 11 = .ok (.iload_n 1, 1) := by decide +kernel
theorem dJ0_charAt_5068e_12 : decode cJ0_charAt_5068e 12 = .ok (.invokestatic 495, 3) := by decide +kernel
theorem dJ0_charAt_5068e_15 : decode cJ0_charAt_5068e 15 = .ok (.ireturn, 1) := by decide +kernel
theorem dJ0_charAt_5068e_16 : decode cJ0_charAt_5068e 16 = .ok (.aload_n 0, 1) := by decide +kernel
theorem dJ0_charAt_5068e_17 : decode cJ0_charAt_5068e 17 = .ok (.getfield 9, 3) := by decide +kernel
theorem dJ0_charAt_5068e_20 : decode cJ0_charAt_5068e 20 = .ok (.iload_n 1, 1) := by decide +kernel
theorem dJ0_charAt_5068e_21 : decode cJ0_charAt_5068e 21 = .ok (.invokestatic 498, 3) := by decide +kernel
theorem dJ0_charAt_5068e_24 : decode cJ0_charAt_5068e 24 = .ok (.ireturn, 1) := by decide +kernel
theorem dJ0_coder_7d493_0 : decode cJ0_coder_7d493 0 = .ok (.getstatic 38, 3) := by decide +kernel
theorem dJ0_coder_7d493_3 : decode cJ0_coder_7d493 3 = .ok (.ifCond .eq 10, 3) := by decide +kernel
theorem dJ0_coder_7d493_6 : decode cJ0_coder_7d493 6 = .ok (.aload_n 0, 1) := by decide +kernel
theorem dJ0_coder_7d493_7 : decode cJ0_coder_7d493 7 = .ok (.getfield 15, 3) := by decide +kernel
theorem dJ0_coder_7d493_10 : decode cJ0_coder_7d493 10 = .ok (.goto 4, 3) := by decide +kernel
theorem dJ0_coder_7d493_13 : decode cJ0_coder_7d493 13 = .ok (.iconst 1, 1) := by decide +kernel
theorem dJ0_coder_7d493_14 : decode cJ0_coder_7d493 14 = .ok (.ireturn, 1) := by decide +kernel
theorem dJ0_isLatin1_aae02_0 : decode cJ0_isLatin1_aae02 0 = .ok (.getstatic 38, 3) := by decide +kernel
theorem dJ0_isLatin1_aae02_3 : decode cJ0_isLatin1_aae02 3 = .ok (.ifCond .eq 14, 3) := by decide +kernel
theorem dJ0_isLatin1_aae02_6 : decode cJ0_isLatin1_aae02 6 = .ok (.aload_n 0, 1) := by decide +kernel
theorem dJ0_isLatin1_aae02_7 : decode cJ0_isLatin1_aae02 7 = .ok (.getfield 15, 3) := by decide +kernel
theorem dJ0_isLatin1_aae02_10 : decode cJ0_isLatin1_aae02 10 = .ok (.ifCond .ne 7, 3) := by decide +kernel
theorem dJ0_isLatin1_aae02_13 : decode cJ0_isLatin1_aae02 13 = .ok (.iconst 1, 1) := by decide +kernel
theorem dJ0_isLatin1_aae02_14 : decode cJ0_isLatin1_aae02 14 = .ok (.goto 4, 3) := by decide +kernel
theorem dJ0_isLatin1_aae02_17 : decode cJ0_isLatin1_aae02 17 = .ok (.iconst 0, 1) := by decide +kernel
theorem dJ0_isLatin1_aae02_18 : decode cJ0_isLatin1_aae02 18 = .ok (.ireturn, 1) := by decide +kernel
theorem dJ0_checkIndex_df160_0 : decode cJ0_checkIndex_df160 0 = .ok (.iload_n 0, 1) := by decide +kernel
theorem dJ0_checkIndex_df160_1 : decode cJ0_checkIndex_df160 1 = .ok (.iload_n 1, 1) := by decide +kernel
theorem dJ0_checkIndex_df160_2 : decode cJ0_checkIndex_df160 2 = .ok (.getstatic 1053, 3) := by decide +kernel
theorem dJ0_checkIndex_df160_5 : decode cJ0_checkIndex_df160 5 = .ok (.invokestatic 1059, 3) := by decide +kernel
theorem dJ0_checkIndex_df160_8 : decode cJ0_checkIndex_df160 8 = .ok (.pop, 1) := by decide +kernel
theorem dJ0_checkIndex_df160_9 : decode cJ0_checkIndex_df160 9 = .ok (.return_, 1) := by decide +kernel
theorem dJ1_charAt_3b067_0 : decode cJ1_charAt_3b067 0 = .ok (.iload_n 1, 1) := by decide +kernel
theorem dJ1_charAt_3b067_1 : decode cJ1_charAt_3b067 1 = .ok (.aload_n 0, 1) := by decide +kernel
theorem dJ1_charAt_3b067_2 : decode cJ1_charAt_3b067 2 = .ok (.arraylength, 1) := by decide +kernel
theorem dJ1_charAt_3b067_3 : decode cJ1_charAt_3b067 3 = .ok (.invokestatic 9, 3) := by decide +kernel
theorem dJ1_charAt_3b067_6 : decode cJ1_charAt_3b067 6 = .ok (.aload_n 0, 1) := by decide +kernel
theorem dJ1_charAt_3b067_7 : decode cJ1_charAt_3b067 7 = .ok (.iload_n 1, 1) := by decide +kernel
theorem dJ1_charAt_3b067_8 : decode cJ1_charAt_3b067 8 = .ok (.baload, 1) := by decide +kernel
theorem dJ1_charAt_3b067_9 : decode cJ1_charAt_3b067 9 = .ok (.sipush 255, 3) := by decide +kernel
theorem dJ1_charAt_3b067_12 : decode cJ1_charAt_3b067 12 = .ok (.iand, 1) := by decide +kernel
theorem dJ1_charAt_3b067_13 : decode cJ1_charAt_3b067 13 = .ok (.i2c, 1) := by decide +kernel
theorem dJ1_charAt_3b067_14 : decode cJ1_charAt_3b067 14 = .ok (.ireturn, 1) := by decide +kernel
theorem dJ2_getChar_3b067_0 : decode cJ2_getChar_3b067 0 = .ok (.getstatic 44, 3) := by decide +kernel
theorem dJ2_getChar_3b067_3 : decode cJ2_getChar_3b067 3 = .ok (.ifCond .ne 25, 3) := by decide +kernel
theorem dJ2_getChar_3b067_6 : decode cJ2_getChar_3b067 6 = .ok (.iload_n 1, 1) := by decide +kernel
theorem dJ2_getChar_3b067_7 : decode cJ2_getChar_3b067 7 = .ok (.ifCond .lt 11, 3) := by decide +kernel
theorem dJ2_getChar_3b067_10 : decode cJ2_getChar_3b067 10 = .ok (.iload_n 1, 1) := by decide +kernel
theorem dJ2_getChar_3b067_11 : decode cJ2_getChar_3b067 11 = .ok (.aload_n 0, 1) := by decide +kernel
theorem dJ2_getChar_3b067_12 : decode cJ2_getChar_3b067 12 = .ok (.invokestatic 48, 3) := by decide +kernel
theorem dJ2_getChar_3b067_15 : decode cJ2_getChar_3b067 15 = .ok (.if_icmp .lt 13, 3) := by decide +kernel
theorem dJ2_getChar_3b067_18 : decode cJ2_getChar_3b067 18 = .ok (.new 52, 3) := by decide +kernel
theorem dJ2_getChar_3b067_21 : decode cJ2_getChar_3b067 21 = .ok (.dup, 1) := by decide +kernel
theorem dJ2_getChar_3b067_22 : decode cJ2_getChar_3b067 22 = .ok (.ldc 54, 2) := by decide +kernel
theorem dJ2_getChar_3b067_24 : decode cJ2_getChar_3b067 24 = .ok (.invokespecial 56, 3) := by decide +kernel
theorem dJ2_getChar_3b067_27 : decode cJ2_getChar_3b067 27 = .ok (.athrow, 1) := by decide +kernel
theorem dJ2_getChar_3b067_28 : decode cJ2_getChar_3b067 28 = .ok (.iload_n 1, 1) := by decide +kernel
theorem dJ2_getChar_3b067_29 : decode cJ2_getChar_3b067 29 = .ok (.iconst 1, 1) := by decide +kernel
theorem dJ2_getChar_3b067_30 : decode cJ2_getChar_3b067 30 = .ok (.ishl, 1) := by decide +kernel
theorem dJ2_getChar_3b067_31 : decode cJ2_getChar_3b067 31 = .ok (.istore_n 1, 1) := by decide +kernel
theorem dJ2_getChar_3b067_32 : decode cJ2_getChar_3b067 32 = .ok (.aload_n 0, 1) := by decide +kernel
theorem dJ2_getChar_3b067_33 : decode cJ2_getChar_3b067 33 = .ok (.iload_n 1, 1) := by decide +kernel
theorem dJ2_getChar_3b067_34 : decode cJ2_getChar_3b067 34 = .ok (.iinc 1 1, 3) := by decide +kernel
theorem dJ2_getChar_3b067_37 : decode cJ2_getChar_3b067 37 = .ok (.baload, 1) := by decide +kernel
theorem dJ2_getChar_3b067_38 : decode cJ2_getChar_3b067 38 = .ok (.sipush 255, 3) := by decide +kernel
theorem dJ2_getChar_3b067_41 : decode cJ2_getChar_3b067 41 = .ok (.iand, 1) := by decide +kernel
theorem dJ2_getChar_3b067_42 : decode cJ2_getChar_3b067 42 = .ok (.getstatic 59, 3) := by decide +kernel
theorem dJ2_getChar_3b067_45 : decode cJ2_getChar_3b067 45 = .ok (.ishl, 1) := by decide +kernel
theorem dJ2_getChar_3b067_46 : decode cJ2_getChar_3b067 46 = .ok (.aload_n 0, 1) := by decide +kernel
theorem dJ2_getChar_3b067_47 : decode cJ2_getChar_3b067 47 = .ok (.iload_n 1, 1) := by decide +kernel
theorem dJ2_getChar_3b067_48 : decode cJ2_getChar_3b067 48 = .ok (.baload, 1) := by decide +kernel
theorem dJ2_getChar_3b067_49 : decode cJ2_getChar_3b067 49 = .ok (.sipush 255, 3) := by decide +kernel
theorem dJ2_getChar_3b067_52 : decode cJ2_getChar_3b067 52 = .ok (.iand, 1) := by decide +kernel
theorem dJ2_getChar_3b067_53 : decode cJ2_getChar_3b067 53 = .ok (.getstatic 63, 3) := by decide +kernel
theorem dJ2_getChar_3b067_56 : decode cJ2_getChar_3b067 56 = .ok (.ishl, 1) := by decide +kernel
theorem dJ2_getChar_3b067_57 : decode cJ2_getChar_3b067 57 = .ok (.ior, 1) := by decide +kernel
theorem dJ2_getChar_3b067_58 : decode cJ2_getChar_3b067 58 = .ok (.i2c, 1) := by decide +kernel
theorem dJ2_getChar_3b067_59 : decode cJ2_getChar_3b067 59 = .ok (.ireturn, 1) := by decide +kernel
theorem dJ2_length_9d52b_0 : decode cJ2_length_9d52b 0 = .ok (.aload_n 0, 1) := by decide +kernel
theorem dJ2_length_9d52b_1 : decode cJ2_length_9d52b 1 = .ok (.arraylength, 1) := by decide +kernel
theorem dJ2_length_9d52b_2 : decode cJ2_length_9d52b 2 = .ok (.iconst 1, 1) := by decide +kernel
theorem dJ2_length_9d52b_3 : decode cJ2_length_9d52b 3 = .ok (.ishr, 1) := by decide +kernel
theorem dJ2_length_9d52b_4 : decode cJ2_length_9d52b 4 = .ok (.ireturn, 1) := by decide +kernel
theorem dJ2_charAt_3b067_0 : decode cJ2_charAt_3b067 0 = .ok (.iload_n 1, 1) := by decide +kernel
theorem dJ2_charAt_3b067_1 : decode cJ2_charAt_3b067 1 = .ok (.aload_n 0, 1) := by decide +kernel
theorem dJ2_charAt_3b067_2 : decode cJ2_charAt_3b067 2 = .ok (.invokestatic 67, 3) := by decide +kernel
theorem dJ2_charAt_3b067_5 : decode cJ2_charAt_3b067 5 = .ok (.aload_n 0, 1) := by decide +kernel
theorem dJ2_charAt_3b067_6 : decode cJ2_charAt_3b067 6 = .ok (.iload_n 1, 1) := by decide +kernel
theorem dJ2_charAt_3b067_7 : decode cJ2_charAt_3b067 7 = .ok (.invokestatic 71, 3) := by decide +kernel
theorem dJ2_charAt_3b067_10 : decode cJ2_charAt_3b067 10 = .ok (.ireturn, 1) := by decide +kernel
theorem dJ2_checkIndex_2214a_0 : decode cJ2_checkIndex_2214a 0 = .ok (.iload_n 0, 1) := by decide +kernel
theorem dJ2_checkIndex_2214a_1 : decode cJ2_checkIndex_2214a 1 = .ok (.aload_n 1, 1) := by decide +kernel
theorem dJ2_checkIndex_2214a_2 : decode cJ2_checkIndex_2214a 2 = .ok (.invokestatic 48, 3) := by decide +kernel
theorem dJ2_checkIndex_2214a_5 : decode cJ2_checkIndex_2214a 5 = .ok (.invokestatic 414, 3) := by decide +kernel
theorem dJ2_checkIndex_2214a_8 : decode cJ2_checkIndex_2214a 8 = .ok (.return_, 1) := by decide +kernel
theorem dJ3_checkIndex_8e157_0 : decode cJ3_checkIndex_8e157 0 = .ok (.iload_n 0, 1) := by decide +kernel
theorem dJ3_checkIndex_8e157_1 : decode cJ3_checkIndex_8e157 1 = .ok (.ifCond .lt 8, 3) := by decide +kernel
theorem dJ3_checkIndex_8e157_4 : decode cJ3_checkIndex_8e157 4 = .ok (.iload_n 0, 1) := by decide +kernel
theorem dJ3_checkIndex_8e157_5 : decode cJ3_checkIndex_8e157 5 = .ok (.iload_n 1, 1) := by decide +kernel
theorem dJ3_checkIndex_8e157_6 : decode cJ3_checkIndex_8e157 6 = .ok (.if_icmp .lt 10, 3) := by decide +kernel
theorem dJ3_checkIndex_8e157_9 : decode cJ3_checkIndex_8e157 9 = .ok (.aload_n 2, 1) := by decide +kernel
theorem dJ3_checkIndex_8e157_10 : decode cJ3_checkIndex_8e157 10 = .ok (.iload_n 0, 1) := by decide +kernel
theorem dJ3_checkIndex_8e157_11 : decode cJ3_checkIndex_8e157 11 = .ok (.iload_n 1, 1) := by decide +kernel
theorem dJ3_checkIndex_8e157_12 : decode cJ3_checkIndex_8e157 12 = .ok (.invokestatic 95, 3) := by decide +kernel
theorem dJ3_checkIndex_8e157_15 : decode cJ3_checkIndex_8e157 15 = .ok (.athrow, 1) := by decide +kernel
theorem dJ3_checkIndex_8e157_16 : decode cJ3_checkIndex_8e157 16 = .ok (.iload_n 0, 1) := by decide +kernel
theorem dJ3_checkIndex_8e157_17 : decode cJ3_checkIndex_8e157 17 = .ok (.ireturn, 1) := by decide +kernel
theorem dL_append_0 : decode cL_append 0 = .ok (.aload 6, 2) := by decide +kernel
theorem dL_append_2 : decode cL_append 2 = .ok (.iconst 0, 1) := by decide +kernel
theorem dL_append_3 : decode cL_append 3 = .ok (.aload_n 0, 1) := by decide +kernel
theorem dL_append_4 : decode cL_append 4 = .ok (.iload_n 1, 1) := by decide +kernel
theorem dL_append_5 : decode cL_append 5 = .ok (.iload_n 2, 1) := by decide +kernel
theorem dL_append_6 : decode cL_append 6 = .ok (.iload_n 3, 1) := by decide +kernel
theorem dL_append_7 : decode cL_append 7 = .ok (.iload 4, 2) := by decide +kernel
theorem dL_append_9 : decode cL_append 9 = .ok (.iload 5, 2) := by decide +kernel
theorem dL_append_11 : decode cL_append 11 = .ok (.invokevirtual 7, 3) := by decide +kernel
theorem dL_append_14 : decode cL_append 14 = .ok (.i2l, 1) := by decide +kernel
theorem dL_append_15 : decode cL_append 15 = .ok (.lastore, 1) := by decide +kernel
theorem dL_append_16 : decode cL_append 16 = .ok (.goto 7, 3) := by decide +kernel
theorem dL_append_19 : decode cL_append 19 = .ok (.astore 7, 2) := by decide +kernel
theorem dL_append_21 : decode cL_append 21 = .ok (.iconst 1, 1) := by decide +kernel
theorem dL_append_22 : decode cL_append 22 = .ok (.ireturn, 1) := by decide +kernel
theorem dL_append_23 : decode cL_append 23 = .ok (.iconst 0, 1) := by decide +kernel
theorem dL_append_24 : decode cL_append 24 = .ok (.ireturn, 1) := by decide +kernel
theorem dL_load_0 : decode cL_load 0 = .ok (.aload_n 2, 1) := by decide +kernel
theorem dL_load_1 : decode cL_load 1 = .ok (.iconst 0, 1) := by decide +kernel
theorem dL_load_2 : decode cL_load 2 = .ok (.aload_n 0, 1) := by decide +kernel
theorem dL_load_3 : decode cL_load 3 = .ok (.iload_n 1, 1) := by decide +kernel
theorem dL_load_4 : decode cL_load 4 = .ok (.invokevirtual 15, 3) := by decide +kernel
theorem dL_load_7 : decode cL_load 7 = .ok (.i2l, 1) := by decide +kernel
theorem dL_load_8 : decode cL_load 8 = .ok (.lastore, 1) := by decide +kernel
theorem dL_load_9 : decode cL_load 9 = .ok (.goto 6, 3) := by decide +kernel
theorem dL_load_12 : decode cL_load 12 = .ok (.astore_n 3, 1) := by decide +kernel
theorem dL_load_13 : decode cL_load 13 = .ok (.iconst 1, 1) := by decide +kernel
theorem dL_load_14 : decode cL_load 14 = .ok (.ireturn, 1) := by decide +kernel
theorem dL_load_15 : decode cL_load 15 = .ok (.iconst 0, 1) := by decide +kernel
theorem dL_load_16 : decode cL_load 16 = .ok (.ireturn, 1) := by decide +kernel
theorem dL_count_0 : decode cL_count 0 = .ok (.aload_n 2, 1) := by decide +kernel
theorem dL_count_1 : decode cL_count 1 = .ok (.iconst 0, 1) := by decide +kernel
theorem dL_count_2 : decode cL_count 2 = .ok (.aload_n 0, 1) := by decide +kernel
theorem dL_count_3 : decode cL_count 3 = .ok (.iload_n 1, 1) := by decide +kernel
theorem dL_count_4 : decode cL_count 4 = .ok (.invokevirtual 21, 3) := by decide +kernel
theorem dL_count_7 : decode cL_count 7 = .ok (.i2l, 1) := by decide +kernel
theorem dL_count_8 : decode cL_count 8 = .ok (.lastore, 1) := by decide +kernel
theorem dL_count_9 : decode cL_count 9 = .ok (.goto 6, 3) := by decide +kernel
theorem dL_count_12 : decode cL_count 12 = .ok (.astore_n 3, 1) := by decide +kernel
theorem dL_count_13 : decode cL_count 13 = .ok (.iconst 1, 1) := by decide +kernel
theorem dL_count_14 : decode cL_count 14 = .ok (.ireturn, 1) := by decide +kernel
theorem dL_count_15 : decode cL_count 15 = .ok (.iconst 0, 1) := by decide +kernel
theorem dL_count_16 : decode cL_count 16 = .ok (.ireturn, 1) := by decide +kernel
theorem dL_vertex_0 : decode cL_vertex 0 = .ok (.aload_n 3, 1) := by decide +kernel
theorem dL_vertex_1 : decode cL_vertex 1 = .ok (.iconst 0, 1) := by decide +kernel
theorem dL_vertex_2 : decode cL_vertex 2 = .ok (.aload_n 0, 1) := by decide +kernel
theorem dL_vertex_3 : decode cL_vertex 3 = .ok (.iload_n 1, 1) := by decide +kernel
theorem dL_vertex_4 : decode cL_vertex 4 = .ok (.iload_n 2, 1) := by decide +kernel
theorem dL_vertex_5 : decode cL_vertex 5 = .ok (.invokevirtual 24, 3) := by decide +kernel
theorem dL_vertex_8 : decode cL_vertex 8 = .ok (.i2l, 1) := by decide +kernel
theorem dL_vertex_9 : decode cL_vertex 9 = .ok (.lastore, 1) := by decide +kernel
theorem dL_vertex_10 : decode cL_vertex 10 = .ok (.goto 11, 3) := by decide +kernel
theorem dL_vertex_13 : decode cL_vertex 13 = .ok (.astore 4, 2) := by decide +kernel
theorem dL_vertex_15 : decode cL_vertex 15 = .ok (.iconst 1, 1) := by decide +kernel
theorem dL_vertex_16 : decode cL_vertex 16 = .ok (.ireturn, 1) := by decide +kernel
theorem dL_vertex_17 : decode cL_vertex 17 = .ok (.astore 4, 2) := by decide +kernel
theorem dL_vertex_19 : decode cL_vertex 19 = .ok (.iconst 2, 1) := by decide +kernel
theorem dL_vertex_20 : decode cL_vertex 20 = .ok (.ireturn, 1) := by decide +kernel
theorem dL_vertex_21 : decode cL_vertex 21 = .ok (.iconst 0, 1) := by decide +kernel
theorem dL_vertex_22 : decode cL_vertex 22 = .ok (.ireturn, 1) := by decide +kernel
theorem dL_reason_0 : decode cL_reason 0 = .ok (.aload_n 3, 1) := by decide +kernel
theorem dL_reason_1 : decode cL_reason 1 = .ok (.iconst 0, 1) := by decide +kernel
theorem dL_reason_2 : decode cL_reason 2 = .ok (.aload_n 0, 1) := by decide +kernel
theorem dL_reason_3 : decode cL_reason 3 = .ok (.iload_n 1, 1) := by decide +kernel
theorem dL_reason_4 : decode cL_reason 4 = .ok (.iload_n 2, 1) := by decide +kernel
theorem dL_reason_5 : decode cL_reason 5 = .ok (.invokevirtual 30, 3) := by decide +kernel
theorem dL_reason_8 : decode cL_reason 8 = .ok (.i2l, 1) := by decide +kernel
theorem dL_reason_9 : decode cL_reason 9 = .ok (.lastore, 1) := by decide +kernel
theorem dL_reason_10 : decode cL_reason 10 = .ok (.goto 7, 3) := by decide +kernel
theorem dL_reason_13 : decode cL_reason 13 = .ok (.astore 4, 2) := by decide +kernel
theorem dL_reason_15 : decode cL_reason 15 = .ok (.iconst 1, 1) := by decide +kernel
theorem dL_reason_16 : decode cL_reason 16 = .ok (.ireturn, 1) := by decide +kernel
theorem dL_reason_17 : decode cL_reason 17 = .ok (.iconst 0, 1) := by decide +kernel
theorem dL_reason_18 : decode cL_reason 18 = .ok (.ireturn, 1) := by decide +kernel
theorem dL_part_0 : decode cL_part 0 = .ok (.aload_n 3, 1) := by decide +kernel
theorem dL_part_1 : decode cL_part 1 = .ok (.iconst 0, 1) := by decide +kernel
theorem dL_part_2 : decode cL_part 2 = .ok (.aload_n 0, 1) := by decide +kernel
theorem dL_part_3 : decode cL_part 3 = .ok (.iload_n 1, 1) := by decide +kernel
theorem dL_part_4 : decode cL_part 4 = .ok (.iload_n 2, 1) := by decide +kernel
theorem dL_part_5 : decode cL_part 5 = .ok (.invokevirtual 33, 3) := by decide +kernel
theorem dL_part_8 : decode cL_part 8 = .ok (.i2l, 1) := by decide +kernel
theorem dL_part_9 : decode cL_part 9 = .ok (.lastore, 1) := by decide +kernel
theorem dL_part_10 : decode cL_part 10 = .ok (.goto 11, 3) := by decide +kernel
theorem dL_part_13 : decode cL_part 13 = .ok (.astore 4, 2) := by decide +kernel
theorem dL_part_15 : decode cL_part 15 = .ok (.iconst 1, 1) := by decide +kernel
theorem dL_part_16 : decode cL_part 16 = .ok (.ireturn, 1) := by decide +kernel
theorem dL_part_17 : decode cL_part 17 = .ok (.astore 4, 2) := by decide +kernel
theorem dL_part_19 : decode cL_part 19 = .ok (.iconst 2, 1) := by decide +kernel
theorem dL_part_20 : decode cL_part 20 = .ok (.ireturn, 1) := by decide +kernel
theorem dL_part_21 : decode cL_part 21 = .ok (.iconst 0, 1) := by decide +kernel
theorem dL_part_22 : decode cL_part 22 = .ok (.ireturn, 1) := by decide +kernel
theorem dL_valueIf_0 : decode cL_valueIf 0 = .ok (.aload_n 3, 1) := by decide +kernel
theorem dL_valueIf_1 : decode cL_valueIf 1 = .ok (.iconst 0, 1) := by decide +kernel
theorem dL_valueIf_2 : decode cL_valueIf 2 = .ok (.aload_n 0, 1) := by decide +kernel
theorem dL_valueIf_3 : decode cL_valueIf 3 = .ok (.iload_n 1, 1) := by decide +kernel
theorem dL_valueIf_4 : decode cL_valueIf 4 = .ok (.iload_n 2, 1) := by decide +kernel
theorem dL_valueIf_5 : decode cL_valueIf 5 = .ok (.invokevirtual 36, 3) := by decide +kernel
theorem dL_valueIf_8 : decode cL_valueIf 8 = .ok (.i2l, 1) := by decide +kernel
theorem dL_valueIf_9 : decode cL_valueIf 9 = .ok (.lastore, 1) := by decide +kernel
theorem dL_valueIf_10 : decode cL_valueIf 10 = .ok (.goto 11, 3) := by decide +kernel
theorem dL_valueIf_13 : decode cL_valueIf 13 = .ok (.astore 4, 2) := by decide +kernel
theorem dL_valueIf_15 : decode cL_valueIf 15 = .ok (.iconst 1, 1) := by decide +kernel
theorem dL_valueIf_16 : decode cL_valueIf 16 = .ok (.ireturn, 1) := by decide +kernel
theorem dL_valueIf_17 : decode cL_valueIf 17 = .ok (.astore 4, 2) := by decide +kernel
theorem dL_valueIf_19 : decode cL_valueIf 19 = .ok (.iconst 2, 1) := by decide +kernel
theorem dL_valueIf_20 : decode cL_valueIf 20 = .ok (.ireturn, 1) := by decide +kernel
theorem dL_valueIf_21 : decode cL_valueIf 21 = .ok (.iconst 0, 1) := by decide +kernel
theorem dL_valueIf_22 : decode cL_valueIf 22 = .ok (.ireturn, 1) := by decide +kernel
theorem dL_bestMove_0 : decode cL_bestMove 0 = .ok (.aload_n 1, 1) := by decide +kernel
theorem dL_bestMove_1 : decode cL_bestMove 1 = .ok (.iconst 0, 1) := by decide +kernel
theorem dL_bestMove_2 : decode cL_bestMove 2 = .ok (.aload_n 0, 1) := by decide +kernel
theorem dL_bestMove_3 : decode cL_bestMove 3 = .ok (.invokevirtual 41, 3) := by decide +kernel
theorem dL_bestMove_6 : decode cL_bestMove 6 = .ok (.i2l, 1) := by decide +kernel
theorem dL_bestMove_7 : decode cL_bestMove 7 = .ok (.lastore, 1) := by decide +kernel
theorem dL_bestMove_8 : decode cL_bestMove 8 = .ok (.goto 6, 3) := by decide +kernel
theorem dL_bestMove_11 : decode cL_bestMove 11 = .ok (.astore_n 2, 1) := by decide +kernel
theorem dL_bestMove_12 : decode cL_bestMove 12 = .ok (.iconst 1, 1) := by decide +kernel
theorem dL_bestMove_13 : decode cL_bestMove 13 = .ok (.ireturn, 1) := by decide +kernel
theorem dL_bestMove_14 : decode cL_bestMove 14 = .ok (.iconst 0, 1) := by decide +kernel
theorem dL_bestMove_15 : decode cL_bestMove 15 = .ok (.ireturn, 1) := by decide +kernel
theorem dL_winningColours_0 : decode cL_winningColours 0 = .ok (.aload_n 2, 1) := by decide +kernel
theorem dL_winningColours_1 : decode cL_winningColours 1 = .ok (.iconst 0, 1) := by decide +kernel
theorem dL_winningColours_2 : decode cL_winningColours 2 = .ok (.aload_n 0, 1) := by decide +kernel
theorem dL_winningColours_3 : decode cL_winningColours 3 = .ok (.iload_n 1, 1) := by decide +kernel
theorem dL_winningColours_4 : decode cL_winningColours 4 = .ok (.invokevirtual 45, 3) := by decide +kernel
theorem dL_winningColours_7 : decode cL_winningColours 7 = .ok (.i2l, 1) := by decide +kernel
theorem dL_winningColours_8 : decode cL_winningColours 8 = .ok (.lastore, 1) := by decide +kernel
theorem dL_winningColours_9 : decode cL_winningColours 9 = .ok (.goto 6, 3) := by decide +kernel
theorem dL_winningColours_12 : decode cL_winningColours 12 = .ok (.astore_n 3, 1) := by decide +kernel
theorem dL_winningColours_13 : decode cL_winningColours 13 = .ok (.iconst 1, 1) := by decide +kernel
theorem dL_winningColours_14 : decode cL_winningColours 14 = .ok (.ireturn, 1) := by decide +kernel
theorem dL_winningColours_15 : decode cL_winningColours 15 = .ok (.iconst 0, 1) := by decide +kernel
theorem dL_winningColours_16 : decode cL_winningColours 16 = .ok (.ireturn, 1) := by decide +kernel
theorem dL_falls_0 : decode cL_falls 0 = .ok (.aload_n 2, 1) := by decide +kernel
theorem dL_falls_1 : decode cL_falls 1 = .ok (.iconst 0, 1) := by decide +kernel
theorem dL_falls_2 : decode cL_falls 2 = .ok (.aload_n 0, 1) := by decide +kernel
theorem dL_falls_3 : decode cL_falls 3 = .ok (.iload_n 1, 1) := by decide +kernel
theorem dL_falls_4 : decode cL_falls 4 = .ok (.invokevirtual 48, 3) := by decide +kernel
theorem dL_falls_7 : decode cL_falls 7 = .ok (.i2l, 1) := by decide +kernel
theorem dL_falls_8 : decode cL_falls 8 = .ok (.lastore, 1) := by decide +kernel
theorem dL_falls_9 : decode cL_falls 9 = .ok (.goto 9, 3) := by decide +kernel
theorem dL_falls_12 : decode cL_falls 12 = .ok (.astore_n 3, 1) := by decide +kernel
theorem dL_falls_13 : decode cL_falls 13 = .ok (.iconst 1, 1) := by decide +kernel
theorem dL_falls_14 : decode cL_falls 14 = .ok (.ireturn, 1) := by decide +kernel
theorem dL_falls_15 : decode cL_falls 15 = .ok (.astore_n 3, 1) := by decide +kernel
theorem dL_falls_16 : decode cL_falls 16 = .ok (.iconst 2, 1) := by decide +kernel
theorem dL_falls_17 : decode cL_falls 17 = .ok (.ireturn, 1) := by decide +kernel
theorem dL_falls_18 : decode cL_falls 18 = .ok (.iconst 0, 1) := by decide +kernel
theorem dL_falls_19 : decode cL_falls 19 = .ok (.ireturn, 1) := by decide +kernel
theorem dL_valueWithout_0 : decode cL_valueWithout 0 = .ok (.aload_n 2, 1) := by decide +kernel
theorem dL_valueWithout_1 : decode cL_valueWithout 1 = .ok (.iconst 0, 1) := by decide +kernel
theorem dL_valueWithout_2 : decode cL_valueWithout 2 = .ok (.aload_n 0, 1) := by decide +kernel
theorem dL_valueWithout_3 : decode cL_valueWithout 3 = .ok (.iload_n 1, 1) := by decide +kernel
theorem dL_valueWithout_4 : decode cL_valueWithout 4 = .ok (.invokevirtual 51, 3) := by decide +kernel
theorem dL_valueWithout_7 : decode cL_valueWithout 7 = .ok (.i2l, 1) := by decide +kernel
theorem dL_valueWithout_8 : decode cL_valueWithout 8 = .ok (.lastore, 1) := by decide +kernel
theorem dL_valueWithout_9 : decode cL_valueWithout 9 = .ok (.goto 9, 3) := by decide +kernel
theorem dL_valueWithout_12 : decode cL_valueWithout 12 = .ok (.astore_n 3, 1) := by decide +kernel
theorem dL_valueWithout_13 : decode cL_valueWithout 13 = .ok (.iconst 1, 1) := by decide +kernel
theorem dL_valueWithout_14 : decode cL_valueWithout 14 = .ok (.ireturn, 1) := by decide +kernel
theorem dL_valueWithout_15 : decode cL_valueWithout 15 = .ok (.astore_n 3, 1) := by decide +kernel
theorem dL_valueWithout_16 : decode cL_valueWithout 16 = .ok (.iconst 2, 1) := by decide +kernel
theorem dL_valueWithout_17 : decode cL_valueWithout 17 = .ok (.ireturn, 1) := by decide +kernel
theorem dL_valueWithout_18 : decode cL_valueWithout 18 = .ok (.iconst 0, 1) := by decide +kernel
theorem dL_valueWithout_19 : decode cL_valueWithout 19 = .ok (.ireturn, 1) := by decide +kernel
theorem dL_lay_0 : decode cL_lay 0 = .ok (.aload_n 3, 1) := by decide +kernel
theorem dL_lay_1 : decode cL_lay 1 = .ok (.iconst 0, 1) := by decide +kernel
theorem dL_lay_2 : decode cL_lay 2 = .ok (.aload_n 0, 1) := by decide +kernel
theorem dL_lay_3 : decode cL_lay 3 = .ok (.iload_n 1, 1) := by decide +kernel
theorem dL_lay_4 : decode cL_lay 4 = .ok (.iload_n 2, 1) := by decide +kernel
theorem dL_lay_5 : decode cL_lay 5 = .ok (.invokevirtual 54, 3) := by decide +kernel
theorem dL_lay_8 : decode cL_lay 8 = .ok (.i2l, 1) := by decide +kernel
theorem dL_lay_9 : decode cL_lay 9 = .ok (.lastore, 1) := by decide +kernel
theorem dL_lay_10 : decode cL_lay 10 = .ok (.goto 11, 3) := by decide +kernel
theorem dL_lay_13 : decode cL_lay 13 = .ok (.astore 4, 2) := by decide +kernel
theorem dL_lay_15 : decode cL_lay 15 = .ok (.iconst 1, 1) := by decide +kernel
theorem dL_lay_16 : decode cL_lay 16 = .ok (.ireturn, 1) := by decide +kernel
theorem dL_lay_17 : decode cL_lay 17 = .ok (.astore 4, 2) := by decide +kernel
theorem dL_lay_19 : decode cL_lay 19 = .ok (.iconst 2, 1) := by decide +kernel
theorem dL_lay_20 : decode cL_lay 20 = .ok (.ireturn, 1) := by decide +kernel
theorem dL_lay_21 : decode cL_lay 21 = .ok (.iconst 0, 1) := by decide +kernel
theorem dL_lay_22 : decode cL_lay 22 = .ok (.ireturn, 1) := by decide +kernel
theorem dL_pass_0 : decode cL_pass 0 = .ok (.aload_n 1, 1) := by decide +kernel
theorem dL_pass_1 : decode cL_pass 1 = .ok (.iconst 0, 1) := by decide +kernel
theorem dL_pass_2 : decode cL_pass 2 = .ok (.aload_n 0, 1) := by decide +kernel
theorem dL_pass_3 : decode cL_pass 3 = .ok (.invokevirtual 57, 3) := by decide +kernel
theorem dL_pass_6 : decode cL_pass 6 = .ok (.i2l, 1) := by decide +kernel
theorem dL_pass_7 : decode cL_pass 7 = .ok (.lastore, 1) := by decide +kernel
theorem dL_pass_8 : decode cL_pass 8 = .ok (.goto 6, 3) := by decide +kernel
theorem dL_pass_11 : decode cL_pass 11 = .ok (.astore_n 2, 1) := by decide +kernel
theorem dL_pass_12 : decode cL_pass 12 = .ok (.iconst 1, 1) := by decide +kernel
theorem dL_pass_13 : decode cL_pass 13 = .ok (.ireturn, 1) := by decide +kernel
theorem dL_pass_14 : decode cL_pass 14 = .ok (.iconst 0, 1) := by decide +kernel
theorem dL_pass_15 : decode cL_pass 15 = .ok (.ireturn, 1) := by decide +kernel
theorem dL_playOut_0 : decode cL_playOut 0 = .ok (.aload_n 2, 1) := by decide +kernel
theorem dL_playOut_1 : decode cL_playOut 1 = .ok (.iconst 0, 1) := by decide +kernel
theorem dL_playOut_2 : decode cL_playOut 2 = .ok (.aload_n 0, 1) := by decide +kernel
theorem dL_playOut_3 : decode cL_playOut 3 = .ok (.iload_n 1, 1) := by decide +kernel
theorem dL_playOut_4 : decode cL_playOut 4 = .ok (.invokevirtual 60, 3) := by decide +kernel
theorem dL_playOut_7 : decode cL_playOut 7 = .ok (.i2l, 1) := by decide +kernel
theorem dL_playOut_8 : decode cL_playOut 8 = .ok (.lastore, 1) := by decide +kernel
theorem dL_playOut_9 : decode cL_playOut 9 = .ok (.goto 6, 3) := by decide +kernel
theorem dL_playOut_12 : decode cL_playOut 12 = .ok (.astore_n 3, 1) := by decide +kernel
theorem dL_playOut_13 : decode cL_playOut 13 = .ok (.iconst 1, 1) := by decide +kernel
theorem dL_playOut_14 : decode cL_playOut 14 = .ok (.ireturn, 1) := by decide +kernel
theorem dL_playOut_15 : decode cL_playOut 15 = .ok (.iconst 0, 1) := by decide +kernel
theorem dL_playOut_16 : decode cL_playOut 16 = .ok (.ireturn, 1) := by decide +kernel
theorem dL_setPasses_0 : decode cL_setPasses 0 = .ok (.aload_n 2, 1) := by decide +kernel
theorem dL_setPasses_1 : decode cL_setPasses 1 = .ok (.iconst 0, 1) := by decide +kernel
theorem dL_setPasses_2 : decode cL_setPasses 2 = .ok (.aload_n 0, 1) := by decide +kernel
theorem dL_setPasses_3 : decode cL_setPasses 3 = .ok (.iload_n 1, 1) := by decide +kernel
theorem dL_setPasses_4 : decode cL_setPasses 4 = .ok (.invokevirtual 63, 3) := by decide +kernel
theorem dL_setPasses_7 : decode cL_setPasses 7 = .ok (.i2l, 1) := by decide +kernel
theorem dL_setPasses_8 : decode cL_setPasses 8 = .ok (.lastore, 1) := by decide +kernel
theorem dL_setPasses_9 : decode cL_setPasses 9 = .ok (.goto 6, 3) := by decide +kernel
theorem dL_setPasses_12 : decode cL_setPasses 12 = .ok (.astore_n 3, 1) := by decide +kernel
theorem dL_setPasses_13 : decode cL_setPasses 13 = .ok (.iconst 1, 1) := by decide +kernel
theorem dL_setPasses_14 : decode cL_setPasses 14 = .ok (.ireturn, 1) := by decide +kernel
theorem dL_setPasses_15 : decode cL_setPasses 15 = .ok (.iconst 0, 1) := by decide +kernel
theorem dL_setPasses_16 : decode cL_setPasses 16 = .ok (.ireturn, 1) := by decide +kernel
theorem dL_move_0 : decode cL_move 0 = .ok (.aload_n 3, 1) := by decide +kernel
theorem dL_move_1 : decode cL_move 1 = .ok (.iconst 0, 1) := by decide +kernel
theorem dL_move_2 : decode cL_move 2 = .ok (.aload_n 0, 1) := by decide +kernel
theorem dL_move_3 : decode cL_move 3 = .ok (.iload_n 1, 1) := by decide +kernel
theorem dL_move_4 : decode cL_move 4 = .ok (.iload_n 2, 1) := by decide +kernel
theorem dL_move_5 : decode cL_move 5 = .ok (.invokevirtual 66, 3) := by decide +kernel
theorem dL_move_8 : decode cL_move 8 = .ok (.i2l, 1) := by decide +kernel
theorem dL_move_9 : decode cL_move 9 = .ok (.lastore, 1) := by decide +kernel
theorem dL_move_10 : decode cL_move 10 = .ok (.goto 11, 3) := by decide +kernel
theorem dL_move_13 : decode cL_move 13 = .ok (.astore 4, 2) := by decide +kernel
theorem dL_move_15 : decode cL_move 15 = .ok (.iconst 1, 1) := by decide +kernel
theorem dL_move_16 : decode cL_move 16 = .ok (.ireturn, 1) := by decide +kernel
theorem dL_move_17 : decode cL_move 17 = .ok (.astore 4, 2) := by decide +kernel
theorem dL_move_19 : decode cL_move 19 = .ok (.iconst 2, 1) := by decide +kernel
theorem dL_move_20 : decode cL_move 20 = .ok (.ireturn, 1) := by decide +kernel
theorem dL_move_21 : decode cL_move 21 = .ok (.iconst 0, 1) := by decide +kernel
theorem dL_move_22 : decode cL_move 22 = .ok (.ireturn, 1) := by decide +kernel
theorem dL_account_0 : decode cL_account 0 = .ok (.aload_n 3, 1) := by decide +kernel
theorem dL_account_1 : decode cL_account 1 = .ok (.iconst 0, 1) := by decide +kernel
theorem dL_account_2 : decode cL_account 2 = .ok (.aload_n 0, 1) := by decide +kernel
theorem dL_account_3 : decode cL_account 3 = .ok (.iload_n 1, 1) := by decide +kernel
theorem dL_account_4 : decode cL_account 4 = .ok (.iload_n 2, 1) := by decide +kernel
theorem dL_account_5 : decode cL_account 5 = .ok (.invokevirtual 69, 3) := by decide +kernel
theorem dL_account_8 : decode cL_account 8 = .ok (.i2l, 1) := by decide +kernel
theorem dL_account_9 : decode cL_account 9 = .ok (.lastore, 1) := by decide +kernel
theorem dL_account_10 : decode cL_account 10 = .ok (.goto 11, 3) := by decide +kernel
theorem dL_account_13 : decode cL_account 13 = .ok (.astore 4, 2) := by decide +kernel
theorem dL_account_15 : decode cL_account 15 = .ok (.iconst 1, 1) := by decide +kernel
theorem dL_account_16 : decode cL_account 16 = .ok (.ireturn, 1) := by decide +kernel
theorem dL_account_17 : decode cL_account 17 = .ok (.astore 4, 2) := by decide +kernel
theorem dL_account_19 : decode cL_account 19 = .ok (.iconst 2, 1) := by decide +kernel
theorem dL_account_20 : decode cL_account 20 = .ok (.ireturn, 1) := by decide +kernel
theorem dL_account_21 : decode cL_account 21 = .ok (.iconst 0, 1) := by decide +kernel
theorem dL_account_22 : decode cL_account 22 = .ok (.ireturn, 1) := by decide +kernel
theorem dL_writtenByte_0 : decode cL_writtenByte 0 = .ok (.aload_n 2, 1) := by decide +kernel
theorem dL_writtenByte_1 : decode cL_writtenByte 1 = .ok (.iconst 0, 1) := by decide +kernel
theorem dL_writtenByte_2 : decode cL_writtenByte 2 = .ok (.aload_n 0, 1) := by decide +kernel
theorem dL_writtenByte_3 : decode cL_writtenByte 3 = .ok (.iload_n 1, 1) := by decide +kernel
theorem dL_writtenByte_4 : decode cL_writtenByte 4 = .ok (.invokevirtual 72, 3) := by decide +kernel
theorem dL_writtenByte_7 : decode cL_writtenByte 7 = .ok (.i2l, 1) := by decide +kernel
theorem dL_writtenByte_8 : decode cL_writtenByte 8 = .ok (.lastore, 1) := by decide +kernel
theorem dL_writtenByte_9 : decode cL_writtenByte 9 = .ok (.goto 6, 3) := by decide +kernel
theorem dL_writtenByte_12 : decode cL_writtenByte 12 = .ok (.astore_n 3, 1) := by decide +kernel
theorem dL_writtenByte_13 : decode cL_writtenByte 13 = .ok (.iconst 1, 1) := by decide +kernel
theorem dL_writtenByte_14 : decode cL_writtenByte 14 = .ok (.ireturn, 1) := by decide +kernel
theorem dL_writtenByte_15 : decode cL_writtenByte 15 = .ok (.iconst 0, 1) := by decide +kernel
theorem dL_writtenByte_16 : decode cL_writtenByte 16 = .ok (.ireturn, 1) := by decide +kernel
theorem dL_undo_0 : decode cL_undo 0 = .ok (.aload_n 1, 1) := by decide +kernel
theorem dL_undo_1 : decode cL_undo 1 = .ok (.iconst 0, 1) := by decide +kernel
theorem dL_undo_2 : decode cL_undo 2 = .ok (.aload_n 0, 1) := by decide +kernel
theorem dL_undo_3 : decode cL_undo 3 = .ok (.invokevirtual 75, 3) := by decide +kernel
theorem dL_undo_6 : decode cL_undo 6 = .ok (.i2l, 1) := by decide +kernel
theorem dL_undo_7 : decode cL_undo 7 = .ok (.lastore, 1) := by decide +kernel
theorem dL_undo_8 : decode cL_undo 8 = .ok (.goto 6, 3) := by decide +kernel
theorem dL_undo_11 : decode cL_undo 11 = .ok (.astore_n 2, 1) := by decide +kernel
theorem dL_undo_12 : decode cL_undo 12 = .ok (.iconst 1, 1) := by decide +kernel
theorem dL_undo_13 : decode cL_undo 13 = .ok (.ireturn, 1) := by decide +kernel
theorem dL_undo_14 : decode cL_undo 14 = .ok (.iconst 0, 1) := by decide +kernel
theorem dL_undo_15 : decode cL_undo 15 = .ok (.ireturn, 1) := by decide +kernel
theorem dL_save_0 : decode cL_save 0 = .ok (.aload_n 2, 1) := by decide +kernel
theorem dL_save_1 : decode cL_save 1 = .ok (.iconst 0, 1) := by decide +kernel
theorem dL_save_2 : decode cL_save 2 = .ok (.aload_n 0, 1) := by decide +kernel
theorem dL_save_3 : decode cL_save 3 = .ok (.iload_n 1, 1) := by decide +kernel
theorem dL_save_4 : decode cL_save 4 = .ok (.invokevirtual 78, 3) := by decide +kernel
theorem dL_save_7 : decode cL_save 7 = .ok (.i2l, 1) := by decide +kernel
theorem dL_save_8 : decode cL_save 8 = .ok (.lastore, 1) := by decide +kernel
theorem dL_save_9 : decode cL_save 9 = .ok (.goto 6, 3) := by decide +kernel
theorem dL_save_12 : decode cL_save 12 = .ok (.astore_n 3, 1) := by decide +kernel
theorem dL_save_13 : decode cL_save 13 = .ok (.iconst 1, 1) := by decide +kernel
theorem dL_save_14 : decode cL_save 14 = .ok (.ireturn, 1) := by decide +kernel
theorem dL_save_15 : decode cL_save 15 = .ok (.iconst 0, 1) := by decide +kernel
theorem dL_save_16 : decode cL_save 16 = .ok (.ireturn, 1) := by decide +kernel
theorem dL_restore_0 : decode cL_restore 0 = .ok (.aload_n 2, 1) := by decide +kernel
theorem dL_restore_1 : decode cL_restore 1 = .ok (.iconst 0, 1) := by decide +kernel
theorem dL_restore_2 : decode cL_restore 2 = .ok (.aload_n 0, 1) := by decide +kernel
theorem dL_restore_3 : decode cL_restore 3 = .ok (.iload_n 1, 1) := by decide +kernel
theorem dL_restore_4 : decode cL_restore 4 = .ok (.invokevirtual 81, 3) := by decide +kernel
theorem dL_restore_7 : decode cL_restore 7 = .ok (.i2l, 1) := by decide +kernel
theorem dL_restore_8 : decode cL_restore 8 = .ok (.lastore, 1) := by decide +kernel
theorem dL_restore_9 : decode cL_restore 9 = .ok (.goto 9, 3) := by decide +kernel
theorem dL_restore_12 : decode cL_restore 12 = .ok (.astore_n 3, 1) := by decide +kernel
end
section
theorem dL_restore_13 : decode cL_restore 13 = .ok (.iconst 1, 1) := by decide +kernel
theorem dL_restore_14 : decode cL_restore 14 = .ok (.ireturn, 1) := by decide +kernel
theorem dL_restore_15 : decode cL_restore 15 = .ok (.astore_n 3, 1) := by decide +kernel
theorem dL_restore_16 : decode cL_restore 16 = .ok (.iconst 2, 1) := by decide +kernel
theorem dL_restore_17 : decode cL_restore 17 = .ok (.ireturn, 1) := by decide +kernel
theorem dL_restore_18 : decode cL_restore 18 = .ok (.iconst 0, 1) := by decide +kernel
theorem dL_restore_19 : decode cL_restore 19 = .ok (.ireturn, 1) := by decide +kernel
theorem dL_law_0 : decode cL_law 0 = .ok (.new 8, 3) := by decide +kernel
theorem dL_law_3 : decode cL_law 3 = .ok (.dup, 1) := by decide +kernel
theorem dL_law_4 : decode cL_law 4 = .ok (.invokespecial 84, 3) := by decide +kernel
theorem dL_law_7 : decode cL_law 7 = .ok (.astore_n 1, 1) := by decide +kernel
theorem dL_law_8 : decode cL_law 8 = .ok (.new 85, 3) := by decide +kernel
theorem dL_law_11 : decode cL_law 11 = .ok (.dup, 1) := by decide +kernel
theorem dL_law_12 : decode cL_law 12 = .ok (.invokespecial 87, 3) := by decide +kernel
theorem dL_law_15 : decode cL_law 15 = .ok (.astore_n 2, 1) := by decide +kernel
theorem dL_law_16 : decode cL_law 16 = .ok (.iconst 1, 1) := by decide +kernel
theorem dL_law_17 : decode cL_law 17 = .ok (.newarray .long, 2) := by decide +kernel
theorem dL_law_19 : decode cL_law 19 = .ok (.astore_n 3, 1) := by decide +kernel
theorem dL_law_20 : decode cL_law 20 = .ok (.iconst 0, 1) := by decide +kernel
theorem dL_law_21 : decode cL_law 21 = .ok (.istore 4, 2) := by decide +kernel
theorem dL_law_23 : decode cL_law 23 = .ok (.iload 4, 2) := by decide +kernel
theorem dL_law_25 : decode cL_law 25 = .ok (.aload_n 0, 1) := by decide +kernel
theorem dL_law_26 : decode cL_law 26 = .ok (.arraylength, 1) := by decide +kernel
theorem dL_law_27 : decode cL_law 27 = .ok (.bipush 6, 2) := by decide +kernel
theorem dL_law_29 : decode cL_law 29 = .ok (.isub, 1) := by decide +kernel
theorem dL_law_30 : decode cL_law 30 = .ok (.if_icmp .gt 1537, 3) := by decide +kernel
theorem dL_law_33 : decode cL_law 33 = .ok (.aload_n 0, 1) := by decide +kernel
theorem dL_law_34 : decode cL_law 34 = .ok (.iload 4, 2) := by decide +kernel
theorem dL_law_36 : decode cL_law 36 = .ok (.iaload, 1) := by decide +kernel
theorem dL_law_37 : decode cL_law 37 = .ok (.bipush 31, 2) := by decide +kernel
theorem dL_law_39 : decode cL_law 39 = .ok (.iand, 1) := by decide +kernel
theorem dL_law_40 : decode cL_law 40 = .ok (.tableswitch 1521 0 27 #[128, 232, 288, 301, 357, 425, 493, 561, 574, 642, 655, 699, 712, 725, 768, 824, 880, 936, 1004, 1048, 1104, 1160, 1228, 1296, 1309, 1365, 1409, 1465], 128) := by decide +kernel
theorem dL_law_168 : decode cL_law 168 = .ok (.aload_n 1, 1) := by decide +kernel
theorem dL_law_169 : decode cL_law 169 = .ok (.aload_n 0, 1) := by decide +kernel
theorem dL_law_170 : decode cL_law 170 = .ok (.iload 4, 2) := by decide +kernel
theorem dL_law_172 : decode cL_law 172 = .ok (.iconst 1, 1) := by decide +kernel
theorem dL_law_173 : decode cL_law 173 = .ok (.iadd, 1) := by decide +kernel
theorem dL_law_174 : decode cL_law 174 = .ok (.iaload, 1) := by decide +kernel
theorem dL_law_175 : decode cL_law 175 = .ok (.aload_n 0, 1) := by decide +kernel
theorem dL_law_176 : decode cL_law 176 = .ok (.iload 4, 2) := by decide +kernel
theorem dL_law_178 : decode cL_law 178 = .ok (.iconst 2, 1) := by decide +kernel
theorem dL_law_179 : decode cL_law 179 = .ok (.iadd, 1) := by decide +kernel
theorem dL_law_180 : decode cL_law 180 = .ok (.iaload, 1) := by decide +kernel
theorem dL_law_181 : decode cL_law 181 = .ok (.aload_n 0, 1) := by decide +kernel
theorem dL_law_182 : decode cL_law 182 = .ok (.iload 4, 2) := by decide +kernel
theorem dL_law_184 : decode cL_law 184 = .ok (.iconst 3, 1) := by decide +kernel
theorem dL_law_185 : decode cL_law 185 = .ok (.iadd, 1) := by decide +kernel
theorem dL_law_186 : decode cL_law 186 = .ok (.iaload, 1) := by decide +kernel
theorem dL_law_187 : decode cL_law 187 = .ok (.aload_n 0, 1) := by decide +kernel
theorem dL_law_188 : decode cL_law 188 = .ok (.iload 4, 2) := by decide +kernel
theorem dL_law_190 : decode cL_law 190 = .ok (.iconst 4, 1) := by decide +kernel
theorem dL_law_191 : decode cL_law 191 = .ok (.iadd, 1) := by decide +kernel
theorem dL_law_192 : decode cL_law 192 = .ok (.iaload, 1) := by decide +kernel
theorem dL_law_193 : decode cL_law 193 = .ok (.aload_n 0, 1) := by decide +kernel
theorem dL_law_194 : decode cL_law 194 = .ok (.iload 4, 2) := by decide +kernel
theorem dL_law_196 : decode cL_law 196 = .ok (.iconst 5, 1) := by decide +kernel
theorem dL_law_197 : decode cL_law 197 = .ok (.iadd, 1) := by decide +kernel
theorem dL_law_198 : decode cL_law 198 = .ok (.iaload, 1) := by decide +kernel
theorem dL_law_199 : decode cL_law 199 = .ok (.aload_n 3, 1) := by decide +kernel
theorem dL_law_200 : decode cL_law 200 = .ok (.invokestatic 88, 3) := by decide +kernel
theorem dL_law_203 : decode cL_law 203 = .ok (.istore 5, 2) := by decide +kernel
theorem dL_law_205 : decode cL_law 205 = .ok (.aload_n 2, 1) := by decide +kernel
theorem dL_law_206 : decode cL_law 206 = .ok (.aload_n 0, 1) := by decide +kernel
theorem dL_law_207 : decode cL_law 207 = .ok (.iload 4, 2) := by decide +kernel
theorem dL_law_209 : decode cL_law 209 = .ok (.iconst 1, 1) := by decide +kernel
theorem dL_law_210 : decode cL_law 210 = .ok (.iadd, 1) := by decide +kernel
theorem dL_law_211 : decode cL_law 211 = .ok (.iaload, 1) := by decide +kernel
theorem dL_law_212 : decode cL_law 212 = .ok (.aload_n 0, 1) := by decide +kernel
theorem dL_law_213 : decode cL_law 213 = .ok (.iload 4, 2) := by decide +kernel
theorem dL_law_215 : decode cL_law 215 = .ok (.iconst 2, 1) := by decide +kernel
theorem dL_law_216 : decode cL_law 216 = .ok (.iadd, 1) := by decide +kernel
theorem dL_law_217 : decode cL_law 217 = .ok (.iaload, 1) := by decide +kernel
theorem dL_law_218 : decode cL_law 218 = .ok (.aload_n 0, 1) := by decide +kernel
theorem dL_law_219 : decode cL_law 219 = .ok (.iload 4, 2) := by decide +kernel
theorem dL_law_221 : decode cL_law 221 = .ok (.iconst 3, 1) := by decide +kernel
theorem dL_law_222 : decode cL_law 222 = .ok (.iadd, 1) := by decide +kernel
theorem dL_law_223 : decode cL_law 223 = .ok (.iaload, 1) := by decide +kernel
theorem dL_law_224 : decode cL_law 224 = .ok (.aload_n 0, 1) := by decide +kernel
theorem dL_law_225 : decode cL_law 225 = .ok (.iload 4, 2) := by decide +kernel
theorem dL_law_227 : decode cL_law 227 = .ok (.iconst 4, 1) := by decide +kernel
theorem dL_law_228 : decode cL_law 228 = .ok (.iadd, 1) := by decide +kernel
theorem dL_law_229 : decode cL_law 229 = .ok (.iaload, 1) := by decide +kernel
theorem dL_law_230 : decode cL_law 230 = .ok (.aload_n 0, 1) := by decide +kernel
theorem dL_law_231 : decode cL_law 231 = .ok (.iload 4, 2) := by decide +kernel
theorem dL_law_233 : decode cL_law 233 = .ok (.iconst 5, 1) := by decide +kernel
theorem dL_law_234 : decode cL_law 234 = .ok (.iadd, 1) := by decide +kernel
theorem dL_law_235 : decode cL_law 235 = .ok (.iaload, 1) := by decide +kernel
theorem dL_law_236 : decode cL_law 236 = .ok (.invokevirtual 93, 3) := by decide +kernel
theorem dL_law_239 : decode cL_law 239 = .ok (.istore 6, 2) := by decide +kernel
theorem dL_law_241 : decode cL_law 241 = .ok (.aload_n 2, 1) := by decide +kernel
theorem dL_law_242 : decode cL_law 242 = .ok (.invokevirtual 94, 3) := by decide +kernel
theorem dL_law_245 : decode cL_law 245 = .ok (.iload 5, 2) := by decide +kernel
theorem dL_law_247 : decode cL_law 247 = .ok (.if_icmp .eq 5, 3) := by decide +kernel
theorem dL_law_250 : decode cL_law 250 = .ok (.iconst 0, 1) := by decide +kernel
theorem dL_law_251 : decode cL_law 251 = .ok (.ireturn, 1) := by decide +kernel
theorem dL_law_252 : decode cL_law 252 = .ok (.iload 5, 2) := by decide +kernel
theorem dL_law_254 : decode cL_law 254 = .ok (.ifCond .ne 15, 3) := by decide +kernel
theorem dL_law_257 : decode cL_law 257 = .ok (.aload_n 3, 1) := by decide +kernel
theorem dL_law_258 : decode cL_law 258 = .ok (.iconst 0, 1) := by decide +kernel
theorem dL_law_259 : decode cL_law 259 = .ok (.laload, 1) := by decide +kernel
theorem dL_law_260 : decode cL_law 260 = .ok (.iload 6, 2) := by decide +kernel
theorem dL_law_262 : decode cL_law 262 = .ok (.i2l, 1) := by decide +kernel
theorem dL_law_263 : decode cL_law 263 = .ok (.lcmp, 1) := by decide +kernel
theorem dL_law_264 : decode cL_law 264 = .ok (.ifCond .eq 5, 3) := by decide +kernel
theorem dL_law_267 : decode cL_law 267 = .ok (.iconst 0, 1) := by decide +kernel
theorem dL_law_268 : decode cL_law 268 = .ok (.ireturn, 1) := by decide +kernel
theorem dL_law_269 : decode cL_law 269 = .ok (.goto 1292, 3) := by decide +kernel
theorem dL_law_272 : decode cL_law 272 = .ok (.aload_n 1, 1) := by decide +kernel
theorem dL_law_273 : decode cL_law 273 = .ok (.aload_n 0, 1) := by decide +kernel
theorem dL_law_274 : decode cL_law 274 = .ok (.iload 4, 2) := by decide +kernel
theorem dL_law_276 : decode cL_law 276 = .ok (.iconst 1, 1) := by decide +kernel
theorem dL_law_277 : decode cL_law 277 = .ok (.iadd, 1) := by decide +kernel
theorem dL_law_278 : decode cL_law 278 = .ok (.iaload, 1) := by decide +kernel
theorem dL_law_279 : decode cL_law 279 = .ok (.aload_n 3, 1) := by decide +kernel
theorem dL_law_280 : decode cL_law 280 = .ok (.invokestatic 97, 3) := by decide +kernel
theorem dL_law_283 : decode cL_law 283 = .ok (.istore 5, 2) := by decide +kernel
theorem dL_law_285 : decode cL_law 285 = .ok (.aload_n 2, 1) := by decide +kernel
theorem dL_law_286 : decode cL_law 286 = .ok (.aload_n 0, 1) := by decide +kernel
theorem dL_law_287 : decode cL_law 287 = .ok (.iload 4, 2) := by decide +kernel
theorem dL_law_289 : decode cL_law 289 = .ok (.iconst 1, 1) := by decide +kernel
theorem dL_law_290 : decode cL_law 290 = .ok (.iadd, 1) := by decide +kernel
theorem dL_law_291 : decode cL_law 291 = .ok (.iaload, 1) := by decide +kernel
theorem dL_law_292 : decode cL_law 292 = .ok (.invokevirtual 100, 3) := by decide +kernel
theorem dL_law_295 : decode cL_law 295 = .ok (.istore 6, 2) := by decide +kernel
theorem dL_law_297 : decode cL_law 297 = .ok (.aload_n 2, 1) := by decide +kernel
theorem dL_law_298 : decode cL_law 298 = .ok (.invokevirtual 94, 3) := by decide +kernel
theorem dL_law_301 : decode cL_law 301 = .ok (.iload 5, 2) := by decide +kernel
theorem dL_law_303 : decode cL_law 303 = .ok (.if_icmp .eq 5, 3) := by decide +kernel
theorem dL_law_306 : decode cL_law 306 = .ok (.iconst 0, 1) := by decide +kernel
theorem dL_law_307 : decode cL_law 307 = .ok (.ireturn, 1) := by decide +kernel
theorem dL_law_308 : decode cL_law 308 = .ok (.iload 5, 2) := by decide +kernel
theorem dL_law_310 : decode cL_law 310 = .ok (.ifCond .ne 15, 3) := by decide +kernel
theorem dL_law_313 : decode cL_law 313 = .ok (.aload_n 3, 1) := by decide +kernel
theorem dL_law_314 : decode cL_law 314 = .ok (.iconst 0, 1) := by decide +kernel
theorem dL_law_315 : decode cL_law 315 = .ok (.laload, 1) := by decide +kernel
theorem dL_law_316 : decode cL_law 316 = .ok (.iload 6, 2) := by decide +kernel
theorem dL_law_318 : decode cL_law 318 = .ok (.i2l, 1) := by decide +kernel
theorem dL_law_319 : decode cL_law 319 = .ok (.lcmp, 1) := by decide +kernel
theorem dL_law_320 : decode cL_law 320 = .ok (.ifCond .eq 5, 3) := by decide +kernel
theorem dL_law_323 : decode cL_law 323 = .ok (.iconst 0, 1) := by decide +kernel
theorem dL_law_324 : decode cL_law 324 = .ok (.ireturn, 1) := by decide +kernel
theorem dL_law_325 : decode cL_law 325 = .ok (.goto 1236, 3) := by decide +kernel
theorem dL_law_328 : decode cL_law 328 = .ok (.aload_n 1, 1) := by decide +kernel
theorem dL_law_329 : decode cL_law 329 = .ok (.invokevirtual 101, 3) := by decide +kernel
theorem dL_law_332 : decode cL_law 332 = .ok (.aload_n 2, 1) := by decide +kernel
theorem dL_law_333 : decode cL_law 333 = .ok (.invokevirtual 104, 3) := by decide +kernel
theorem dL_law_336 : decode cL_law 336 = .ok (.if_icmp .eq 1225, 3) := by decide +kernel
theorem dL_law_339 : decode cL_law 339 = .ok (.iconst 0, 1) := by decide +kernel
theorem dL_law_340 : decode cL_law 340 = .ok (.ireturn, 1) := by decide +kernel
theorem dL_law_341 : decode cL_law 341 = .ok (.aload_n 1, 1) := by decide +kernel
theorem dL_law_342 : decode cL_law 342 = .ok (.aload_n 0, 1) := by decide +kernel
theorem dL_law_343 : decode cL_law 343 = .ok (.iload 4, 2) := by decide +kernel
theorem dL_law_345 : decode cL_law 345 = .ok (.iconst 1, 1) := by decide +kernel
theorem dL_law_346 : decode cL_law 346 = .ok (.iadd, 1) := by decide +kernel
theorem dL_law_347 : decode cL_law 347 = .ok (.iaload, 1) := by decide +kernel
theorem dL_law_348 : decode cL_law 348 = .ok (.aload_n 3, 1) := by decide +kernel
theorem dL_law_349 : decode cL_law 349 = .ok (.invokestatic 105, 3) := by decide +kernel
theorem dL_law_352 : decode cL_law 352 = .ok (.istore 5, 2) := by decide +kernel
theorem dL_law_354 : decode cL_law 354 = .ok (.aload_n 2, 1) := by decide +kernel
theorem dL_law_355 : decode cL_law 355 = .ok (.aload_n 0, 1) := by decide +kernel
theorem dL_law_356 : decode cL_law 356 = .ok (.iload 4, 2) := by decide +kernel
theorem dL_law_358 : decode cL_law 358 = .ok (.iconst 1, 1) := by decide +kernel
theorem dL_law_359 : decode cL_law 359 = .ok (.iadd, 1) := by decide +kernel
theorem dL_law_360 : decode cL_law 360 = .ok (.iaload, 1) := by decide +kernel
theorem dL_law_361 : decode cL_law 361 = .ok (.invokevirtual 107, 3) := by decide +kernel
theorem dL_law_364 : decode cL_law 364 = .ok (.istore 6, 2) := by decide +kernel
theorem dL_law_366 : decode cL_law 366 = .ok (.aload_n 2, 1) := by decide +kernel
theorem dL_law_367 : decode cL_law 367 = .ok (.invokevirtual 94, 3) := by decide +kernel
theorem dL_law_370 : decode cL_law 370 = .ok (.iload 5, 2) := by decide +kernel
theorem dL_law_372 : decode cL_law 372 = .ok (.if_icmp .eq 5, 3) := by decide +kernel
theorem dL_law_375 : decode cL_law 375 = .ok (.iconst 0, 1) := by decide +kernel
theorem dL_law_376 : decode cL_law 376 = .ok (.ireturn, 1) := by decide +kernel
theorem dL_law_377 : decode cL_law 377 = .ok (.iload 5, 2) := by decide +kernel
theorem dL_law_379 : decode cL_law 379 = .ok (.ifCond .ne 15, 3) := by decide +kernel
theorem dL_law_382 : decode cL_law 382 = .ok (.aload_n 3, 1) := by decide +kernel
theorem dL_law_383 : decode cL_law 383 = .ok (.iconst 0, 1) := by decide +kernel
theorem dL_law_384 : decode cL_law 384 = .ok (.laload, 1) := by decide +kernel
theorem dL_law_385 : decode cL_law 385 = .ok (.iload 6, 2) := by decide +kernel
theorem dL_law_387 : decode cL_law 387 = .ok (.i2l, 1) := by decide +kernel
theorem dL_law_388 : decode cL_law 388 = .ok (.lcmp, 1) := by decide +kernel
theorem dL_law_389 : decode cL_law 389 = .ok (.ifCond .eq 5, 3) := by decide +kernel
theorem dL_law_392 : decode cL_law 392 = .ok (.iconst 0, 1) := by decide +kernel
theorem dL_law_393 : decode cL_law 393 = .ok (.ireturn, 1) := by decide +kernel
theorem dL_law_394 : decode cL_law 394 = .ok (.goto 1167, 3) := by decide +kernel
theorem dL_law_397 : decode cL_law 397 = .ok (.aload_n 1, 1) := by decide +kernel
theorem dL_law_398 : decode cL_law 398 = .ok (.aload_n 0, 1) := by decide +kernel
theorem dL_law_399 : decode cL_law 399 = .ok (.iload 4, 2) := by decide +kernel
theorem dL_law_401 : decode cL_law 401 = .ok (.iconst 1, 1) := by decide +kernel
theorem dL_law_402 : decode cL_law 402 = .ok (.iadd, 1) := by decide +kernel
theorem dL_law_403 : decode cL_law 403 = .ok (.iaload, 1) := by decide +kernel
theorem dL_law_404 : decode cL_law 404 = .ok (.aload_n 0, 1) := by decide +kernel
theorem dL_law_405 : decode cL_law 405 = .ok (.iload 4, 2) := by decide +kernel
theorem dL_law_407 : decode cL_law 407 = .ok (.iconst 2, 1) := by decide +kernel
theorem dL_law_408 : decode cL_law 408 = .ok (.iadd, 1) := by decide +kernel
theorem dL_law_409 : decode cL_law 409 = .ok (.iaload, 1) := by decide +kernel
theorem dL_law_410 : decode cL_law 410 = .ok (.aload_n 3, 1) := by decide +kernel
theorem dL_law_411 : decode cL_law 411 = .ok (.invokestatic 108, 3) := by decide +kernel
theorem dL_law_414 : decode cL_law 414 = .ok (.istore 5, 2) := by decide +kernel
theorem dL_law_416 : decode cL_law 416 = .ok (.aload_n 2, 1) := by decide +kernel
theorem dL_law_417 : decode cL_law 417 = .ok (.aload_n 0, 1) := by decide +kernel
theorem dL_law_418 : decode cL_law 418 = .ok (.iload 4, 2) := by decide +kernel
theorem dL_law_420 : decode cL_law 420 = .ok (.iconst 1, 1) := by decide +kernel
theorem dL_law_421 : decode cL_law 421 = .ok (.iadd, 1) := by decide +kernel
theorem dL_law_422 : decode cL_law 422 = .ok (.iaload, 1) := by decide +kernel
theorem dL_law_423 : decode cL_law 423 = .ok (.aload_n 0, 1) := by decide +kernel
theorem dL_law_424 : decode cL_law 424 = .ok (.iload 4, 2) := by decide +kernel
theorem dL_law_426 : decode cL_law 426 = .ok (.iconst 2, 1) := by decide +kernel
theorem dL_law_427 : decode cL_law 427 = .ok (.iadd, 1) := by decide +kernel
theorem dL_law_428 : decode cL_law 428 = .ok (.iaload, 1) := by decide +kernel
theorem dL_law_429 : decode cL_law 429 = .ok (.invokevirtual 111, 3) := by decide +kernel
theorem dL_law_432 : decode cL_law 432 = .ok (.istore 6, 2) := by decide +kernel
theorem dL_law_434 : decode cL_law 434 = .ok (.aload_n 2, 1) := by decide +kernel
theorem dL_law_435 : decode cL_law 435 = .ok (.invokevirtual 94, 3) := by decide +kernel
theorem dL_law_438 : decode cL_law 438 = .ok (.iload 5, 2) := by decide +kernel
theorem dL_law_440 : decode cL_law 440 = .ok (.if_icmp .eq 5, 3) := by decide +kernel
theorem dL_law_443 : decode cL_law 443 = .ok (.iconst 0, 1) := by decide +kernel
theorem dL_law_444 : decode cL_law 444 = .ok (.ireturn, 1) := by decide +kernel
theorem dL_law_445 : decode cL_law 445 = .ok (.iload 5, 2) := by decide +kernel
theorem dL_law_447 : decode cL_law 447 = .ok (.ifCond .ne 15, 3) := by decide +kernel
theorem dL_law_450 : decode cL_law 450 = .ok (.aload_n 3, 1) := by decide +kernel
theorem dL_law_451 : decode cL_law 451 = .ok (.iconst 0, 1) := by decide +kernel
theorem dL_law_452 : decode cL_law 452 = .ok (.laload, 1) := by decide +kernel
theorem dL_law_453 : decode cL_law 453 = .ok (.iload 6, 2) := by decide +kernel
theorem dL_law_455 : decode cL_law 455 = .ok (.i2l, 1) := by decide +kernel
theorem dL_law_456 : decode cL_law 456 = .ok (.lcmp, 1) := by decide +kernel
theorem dL_law_457 : decode cL_law 457 = .ok (.ifCond .eq 5, 3) := by decide +kernel
theorem dL_law_460 : decode cL_law 460 = .ok (.iconst 0, 1) := by decide +kernel
theorem dL_law_461 : decode cL_law 461 = .ok (.ireturn, 1) := by decide +kernel
theorem dL_law_462 : decode cL_law 462 = .ok (.goto 1099, 3) := by decide +kernel
theorem dL_law_465 : decode cL_law 465 = .ok (.aload_n 1, 1) := by decide +kernel
theorem dL_law_466 : decode cL_law 466 = .ok (.aload_n 0, 1) := by decide +kernel
theorem dL_law_467 : decode cL_law 467 = .ok (.iload 4, 2) := by decide +kernel
theorem dL_law_469 : decode cL_law 469 = .ok (.iconst 1, 1) := by decide +kernel
theorem dL_law_470 : decode cL_law 470 = .ok (.iadd, 1) := by decide +kernel
theorem dL_law_471 : decode cL_law 471 = .ok (.iaload, 1) := by decide +kernel
theorem dL_law_472 : decode cL_law 472 = .ok (.aload_n 0, 1) := by decide +kernel
theorem dL_law_473 : decode cL_law 473 = .ok (.iload 4, 2) := by decide +kernel
theorem dL_law_475 : decode cL_law 475 = .ok (.iconst 2, 1) := by decide +kernel
theorem dL_law_476 : decode cL_law 476 = .ok (.iadd, 1) := by decide +kernel
theorem dL_law_477 : decode cL_law 477 = .ok (.iaload, 1) := by decide +kernel
theorem dL_law_478 : decode cL_law 478 = .ok (.aload_n 3, 1) := by decide +kernel
theorem dL_law_479 : decode cL_law 479 = .ok (.invokestatic 112, 3) := by decide +kernel
theorem dL_law_482 : decode cL_law 482 = .ok (.istore 5, 2) := by decide +kernel
theorem dL_law_484 : decode cL_law 484 = .ok (.aload_n 2, 1) := by decide +kernel
theorem dL_law_485 : decode cL_law 485 = .ok (.aload_n 0, 1) := by decide +kernel
theorem dL_law_486 : decode cL_law 486 = .ok (.iload 4, 2) := by decide +kernel
theorem dL_law_488 : decode cL_law 488 = .ok (.iconst 1, 1) := by decide +kernel
theorem dL_law_489 : decode cL_law 489 = .ok (.iadd, 1) := by decide +kernel
theorem dL_law_490 : decode cL_law 490 = .ok (.iaload, 1) := by decide +kernel
theorem dL_law_491 : decode cL_law 491 = .ok (.aload_n 0, 1) := by decide +kernel
theorem dL_law_492 : decode cL_law 492 = .ok (.iload 4, 2) := by decide +kernel
theorem dL_law_494 : decode cL_law 494 = .ok (.iconst 2, 1) := by decide +kernel
theorem dL_law_495 : decode cL_law 495 = .ok (.iadd, 1) := by decide +kernel
theorem dL_law_496 : decode cL_law 496 = .ok (.iaload, 1) := by decide +kernel
theorem dL_law_497 : decode cL_law 497 = .ok (.invokevirtual 114, 3) := by decide +kernel
theorem dL_law_500 : decode cL_law 500 = .ok (.istore 6, 2) := by decide +kernel
theorem dL_law_502 : decode cL_law 502 = .ok (.aload_n 2, 1) := by decide +kernel
theorem dL_law_503 : decode cL_law 503 = .ok (.invokevirtual 94, 3) := by decide +kernel
theorem dL_law_506 : decode cL_law 506 = .ok (.iload 5, 2) := by decide +kernel
theorem dL_law_508 : decode cL_law 508 = .ok (.if_icmp .eq 5, 3) := by decide +kernel
theorem dL_law_511 : decode cL_law 511 = .ok (.iconst 0, 1) := by decide +kernel
theorem dL_law_512 : decode cL_law 512 = .ok (.ireturn, 1) := by decide +kernel
theorem dL_law_513 : decode cL_law 513 = .ok (.iload 5, 2) := by decide +kernel
theorem dL_law_515 : decode cL_law 515 = .ok (.ifCond .ne 15, 3) := by decide +kernel
theorem dL_law_518 : decode cL_law 518 = .ok (.aload_n 3, 1) := by decide +kernel
theorem dL_law_519 : decode cL_law 519 = .ok (.iconst 0, 1) := by decide +kernel
theorem dL_law_520 : decode cL_law 520 = .ok (.laload, 1) := by decide +kernel
theorem dL_law_521 : decode cL_law 521 = .ok (.iload 6, 2) := by decide +kernel
theorem dL_law_523 : decode cL_law 523 = .ok (.i2l, 1) := by decide +kernel
theorem dL_law_524 : decode cL_law 524 = .ok (.lcmp, 1) := by decide +kernel
theorem dL_law_525 : decode cL_law 525 = .ok (.ifCond .eq 5, 3) := by decide +kernel
theorem dL_law_528 : decode cL_law 528 = .ok (.iconst 0, 1) := by decide +kernel
theorem dL_law_529 : decode cL_law 529 = .ok (.ireturn, 1) := by decide +kernel
theorem dL_law_530 : decode cL_law 530 = .ok (.goto 1031, 3) := by decide +kernel
theorem dL_law_533 : decode cL_law 533 = .ok (.aload_n 1, 1) := by decide +kernel
theorem dL_law_534 : decode cL_law 534 = .ok (.aload_n 0, 1) := by decide +kernel
theorem dL_law_535 : decode cL_law 535 = .ok (.iload 4, 2) := by decide +kernel
theorem dL_law_537 : decode cL_law 537 = .ok (.iconst 1, 1) := by decide +kernel
theorem dL_law_538 : decode cL_law 538 = .ok (.iadd, 1) := by decide +kernel
theorem dL_law_539 : decode cL_law 539 = .ok (.iaload, 1) := by decide +kernel
theorem dL_law_540 : decode cL_law 540 = .ok (.aload_n 0, 1) := by decide +kernel
theorem dL_law_541 : decode cL_law 541 = .ok (.iload 4, 2) := by decide +kernel
theorem dL_law_543 : decode cL_law 543 = .ok (.iconst 2, 1) := by decide +kernel
theorem dL_law_544 : decode cL_law 544 = .ok (.iadd, 1) := by decide +kernel
theorem dL_law_545 : decode cL_law 545 = .ok (.iaload, 1) := by decide +kernel
theorem dL_law_546 : decode cL_law 546 = .ok (.aload_n 3, 1) := by decide +kernel
theorem dL_law_547 : decode cL_law 547 = .ok (.invokestatic 115, 3) := by decide +kernel
theorem dL_law_550 : decode cL_law 550 = .ok (.istore 5, 2) := by decide +kernel
theorem dL_law_552 : decode cL_law 552 = .ok (.aload_n 2, 1) := by decide +kernel
theorem dL_law_553 : decode cL_law 553 = .ok (.aload_n 0, 1) := by decide +kernel
theorem dL_law_554 : decode cL_law 554 = .ok (.iload 4, 2) := by decide +kernel
theorem dL_law_556 : decode cL_law 556 = .ok (.iconst 1, 1) := by decide +kernel
theorem dL_law_557 : decode cL_law 557 = .ok (.iadd, 1) := by decide +kernel
theorem dL_law_558 : decode cL_law 558 = .ok (.iaload, 1) := by decide +kernel
theorem dL_law_559 : decode cL_law 559 = .ok (.aload_n 0, 1) := by decide +kernel
theorem dL_law_560 : decode cL_law 560 = .ok (.iload 4, 2) := by decide +kernel
theorem dL_law_562 : decode cL_law 562 = .ok (.iconst 2, 1) := by decide +kernel
theorem dL_law_563 : decode cL_law 563 = .ok (.iadd, 1) := by decide +kernel
theorem dL_law_564 : decode cL_law 564 = .ok (.iaload, 1) := by decide +kernel
theorem dL_law_565 : decode cL_law 565 = .ok (.invokevirtual 117, 3) := by decide +kernel
theorem dL_law_568 : decode cL_law 568 = .ok (.istore 6, 2) := by decide +kernel
theorem dL_law_570 : decode cL_law 570 = .ok (.aload_n 2, 1) := by decide +kernel
theorem dL_law_571 : decode cL_law 571 = .ok (.invokevirtual 94, 3) := by decide +kernel
theorem dL_law_574 : decode cL_law 574 = .ok (.iload 5, 2) := by decide +kernel
theorem dL_law_576 : decode cL_law 576 = .ok (.if_icmp .eq 5, 3) := by decide +kernel
theorem dL_law_579 : decode cL_law 579 = .ok (.iconst 0, 1) := by decide +kernel
theorem dL_law_580 : decode cL_law 580 = .ok (.ireturn, 1) := by decide +kernel
theorem dL_law_581 : decode cL_law 581 = .ok (.iload 5, 2) := by decide +kernel
theorem dL_law_583 : decode cL_law 583 = .ok (.ifCond .ne 15, 3) := by decide +kernel
theorem dL_law_586 : decode cL_law 586 = .ok (.aload_n 3, 1) := by decide +kernel
theorem dL_law_587 : decode cL_law 587 = .ok (.iconst 0, 1) := by decide +kernel
theorem dL_law_588 : decode cL_law 588 = .ok (.laload, 1) := by decide +kernel
theorem dL_law_589 : decode cL_law 589 = .ok (.iload 6, 2) := by decide +kernel
theorem dL_law_591 : decode cL_law 591 = .ok (.i2l, 1) := by decide +kernel
theorem dL_law_592 : decode cL_law 592 = .ok (.lcmp, 1) := by decide +kernel
theorem dL_law_593 : decode cL_law 593 = .ok (.ifCond .eq 5, 3) := by decide +kernel
theorem dL_law_596 : decode cL_law 596 = .ok (.iconst 0, 1) := by decide +kernel
theorem dL_law_597 : decode cL_law 597 = .ok (.ireturn, 1) := by decide +kernel
theorem dL_law_598 : decode cL_law 598 = .ok (.goto 963, 3) := by decide +kernel
theorem dL_law_601 : decode cL_law 601 = .ok (.aload_n 1, 1) := by decide +kernel
theorem dL_law_602 : decode cL_law 602 = .ok (.invokevirtual 118, 3) := by decide +kernel
theorem dL_law_605 : decode cL_law 605 = .ok (.aload_n 2, 1) := by decide +kernel
theorem dL_law_606 : decode cL_law 606 = .ok (.invokevirtual 121, 3) := by decide +kernel
theorem dL_law_609 : decode cL_law 609 = .ok (.if_icmp .eq 952, 3) := by decide +kernel
theorem dL_law_612 : decode cL_law 612 = .ok (.iconst 0, 1) := by decide +kernel
theorem dL_law_613 : decode cL_law 613 = .ok (.ireturn, 1) := by decide +kernel
theorem dL_law_614 : decode cL_law 614 = .ok (.aload_n 1, 1) := by decide +kernel
theorem dL_law_615 : decode cL_law 615 = .ok (.aload_n 0, 1) := by decide +kernel
theorem dL_law_616 : decode cL_law 616 = .ok (.iload 4, 2) := by decide +kernel
theorem dL_law_618 : decode cL_law 618 = .ok (.iconst 1, 1) := by decide +kernel
theorem dL_law_619 : decode cL_law 619 = .ok (.iadd, 1) := by decide +kernel
theorem dL_law_620 : decode cL_law 620 = .ok (.iaload, 1) := by decide +kernel
theorem dL_law_621 : decode cL_law 621 = .ok (.aload_n 0, 1) := by decide +kernel
theorem dL_law_622 : decode cL_law 622 = .ok (.iload 4, 2) := by decide +kernel
theorem dL_law_624 : decode cL_law 624 = .ok (.iconst 2, 1) := by decide +kernel
theorem dL_law_625 : decode cL_law 625 = .ok (.iadd, 1) := by decide +kernel
theorem dL_law_626 : decode cL_law 626 = .ok (.iaload, 1) := by decide +kernel
theorem dL_law_627 : decode cL_law 627 = .ok (.aload_n 3, 1) := by decide +kernel
theorem dL_law_628 : decode cL_law 628 = .ok (.invokestatic 122, 3) := by decide +kernel
theorem dL_law_631 : decode cL_law 631 = .ok (.istore 5, 2) := by decide +kernel
theorem dL_law_633 : decode cL_law 633 = .ok (.aload_n 2, 1) := by decide +kernel
theorem dL_law_634 : decode cL_law 634 = .ok (.aload_n 0, 1) := by decide +kernel
theorem dL_law_635 : decode cL_law 635 = .ok (.iload 4, 2) := by decide +kernel
theorem dL_law_637 : decode cL_law 637 = .ok (.iconst 1, 1) := by decide +kernel
theorem dL_law_638 : decode cL_law 638 = .ok (.iadd, 1) := by decide +kernel
theorem dL_law_639 : decode cL_law 639 = .ok (.iaload, 1) := by decide +kernel
theorem dL_law_640 : decode cL_law 640 = .ok (.aload_n 0, 1) := by decide +kernel
theorem dL_law_641 : decode cL_law 641 = .ok (.iload 4, 2) := by decide +kernel
theorem dL_law_643 : decode cL_law 643 = .ok (.iconst 2, 1) := by decide +kernel
theorem dL_law_644 : decode cL_law 644 = .ok (.iadd, 1) := by decide +kernel
theorem dL_law_645 : decode cL_law 645 = .ok (.iaload, 1) := by decide +kernel
theorem dL_law_646 : decode cL_law 646 = .ok (.invokevirtual 124, 3) := by decide +kernel
theorem dL_law_649 : decode cL_law 649 = .ok (.istore 6, 2) := by decide +kernel
theorem dL_law_651 : decode cL_law 651 = .ok (.aload_n 2, 1) := by decide +kernel
theorem dL_law_652 : decode cL_law 652 = .ok (.invokevirtual 94, 3) := by decide +kernel
theorem dL_law_655 : decode cL_law 655 = .ok (.iload 5, 2) := by decide +kernel
theorem dL_law_657 : decode cL_law 657 = .ok (.if_icmp .eq 5, 3) := by decide +kernel
theorem dL_law_660 : decode cL_law 660 = .ok (.iconst 0, 1) := by decide +kernel
theorem dL_law_661 : decode cL_law 661 = .ok (.ireturn, 1) := by decide +kernel
theorem dL_law_662 : decode cL_law 662 = .ok (.iload 5, 2) := by decide +kernel
theorem dL_law_664 : decode cL_law 664 = .ok (.ifCond .ne 15, 3) := by decide +kernel
theorem dL_law_667 : decode cL_law 667 = .ok (.aload_n 3, 1) := by decide +kernel
theorem dL_law_668 : decode cL_law 668 = .ok (.iconst 0, 1) := by decide +kernel
theorem dL_law_669 : decode cL_law 669 = .ok (.laload, 1) := by decide +kernel
theorem dL_law_670 : decode cL_law 670 = .ok (.iload 6, 2) := by decide +kernel
theorem dL_law_672 : decode cL_law 672 = .ok (.i2l, 1) := by decide +kernel
theorem dL_law_673 : decode cL_law 673 = .ok (.lcmp, 1) := by decide +kernel
theorem dL_law_674 : decode cL_law 674 = .ok (.ifCond .eq 5, 3) := by decide +kernel
theorem dL_law_677 : decode cL_law 677 = .ok (.iconst 0, 1) := by decide +kernel
theorem dL_law_678 : decode cL_law 678 = .ok (.ireturn, 1) := by decide +kernel
theorem dL_law_679 : decode cL_law 679 = .ok (.goto 882, 3) := by decide +kernel
theorem dL_law_682 : decode cL_law 682 = .ok (.aload_n 1, 1) := by decide +kernel
theorem dL_law_683 : decode cL_law 683 = .ok (.invokevirtual 125, 3) := by decide +kernel
theorem dL_law_686 : decode cL_law 686 = .ok (.aload_n 2, 1) := by decide +kernel
theorem dL_law_687 : decode cL_law 687 = .ok (.invokevirtual 128, 3) := by decide +kernel
theorem dL_law_690 : decode cL_law 690 = .ok (.if_icmp .eq 871, 3) := by decide +kernel
theorem dL_law_693 : decode cL_law 693 = .ok (.iconst 0, 1) := by decide +kernel
theorem dL_law_694 : decode cL_law 694 = .ok (.ireturn, 1) := by decide +kernel
theorem dL_law_695 : decode cL_law 695 = .ok (.aload_n 1, 1) := by decide +kernel
theorem dL_law_696 : decode cL_law 696 = .ok (.aload_n 3, 1) := by decide +kernel
theorem dL_law_697 : decode cL_law 697 = .ok (.invokestatic 129, 3) := by decide +kernel
theorem dL_law_700 : decode cL_law 700 = .ok (.istore 5, 2) := by decide +kernel
theorem dL_law_702 : decode cL_law 702 = .ok (.aload_n 2, 1) := by decide +kernel
theorem dL_law_703 : decode cL_law 703 = .ok (.invokevirtual 132, 3) := by decide +kernel
theorem dL_law_706 : decode cL_law 706 = .ok (.istore 6, 2) := by decide +kernel
theorem dL_law_708 : decode cL_law 708 = .ok (.aload_n 2, 1) := by decide +kernel
theorem dL_law_709 : decode cL_law 709 = .ok (.invokevirtual 94, 3) := by decide +kernel
theorem dL_law_712 : decode cL_law 712 = .ok (.iload 5, 2) := by decide +kernel
theorem dL_law_714 : decode cL_law 714 = .ok (.if_icmp .eq 5, 3) := by decide +kernel
theorem dL_law_717 : decode cL_law 717 = .ok (.iconst 0, 1) := by decide +kernel
theorem dL_law_718 : decode cL_law 718 = .ok (.ireturn, 1) := by decide +kernel
theorem dL_law_719 : decode cL_law 719 = .ok (.iload 5, 2) := by decide +kernel
theorem dL_law_721 : decode cL_law 721 = .ok (.ifCond .ne 15, 3) := by decide +kernel
theorem dL_law_724 : decode cL_law 724 = .ok (.aload_n 3, 1) := by decide +kernel
theorem dL_law_725 : decode cL_law 725 = .ok (.iconst 0, 1) := by decide +kernel
theorem dL_law_726 : decode cL_law 726 = .ok (.laload, 1) := by decide +kernel
theorem dL_law_727 : decode cL_law 727 = .ok (.iload 6, 2) := by decide +kernel
theorem dL_law_729 : decode cL_law 729 = .ok (.i2l, 1) := by decide +kernel
theorem dL_law_730 : decode cL_law 730 = .ok (.lcmp, 1) := by decide +kernel
theorem dL_law_731 : decode cL_law 731 = .ok (.ifCond .eq 5, 3) := by decide +kernel
theorem dL_law_734 : decode cL_law 734 = .ok (.iconst 0, 1) := by decide +kernel
theorem dL_law_735 : decode cL_law 735 = .ok (.ireturn, 1) := by decide +kernel
theorem dL_law_736 : decode cL_law 736 = .ok (.goto 825, 3) := by decide +kernel
theorem dL_law_739 : decode cL_law 739 = .ok (.aload_n 1, 1) := by decide +kernel
theorem dL_law_740 : decode cL_law 740 = .ok (.invokevirtual 133, 3) := by decide +kernel
theorem dL_law_743 : decode cL_law 743 = .ok (.aload_n 2, 1) := by decide +kernel
theorem dL_law_744 : decode cL_law 744 = .ok (.invokevirtual 136, 3) := by decide +kernel
theorem dL_law_747 : decode cL_law 747 = .ok (.if_icmp .eq 814, 3) := by decide +kernel
theorem dL_law_750 : decode cL_law 750 = .ok (.iconst 0, 1) := by decide +kernel
theorem dL_law_751 : decode cL_law 751 = .ok (.ireturn, 1) := by decide +kernel
theorem dL_law_752 : decode cL_law 752 = .ok (.aload_n 1, 1) := by decide +kernel
theorem dL_law_753 : decode cL_law 753 = .ok (.invokevirtual 137, 3) := by decide +kernel
theorem dL_law_756 : decode cL_law 756 = .ok (.aload_n 2, 1) := by decide +kernel
theorem dL_law_757 : decode cL_law 757 = .ok (.invokevirtual 140, 3) := by decide +kernel
theorem dL_law_760 : decode cL_law 760 = .ok (.if_icmp .eq 801, 3) := by decide +kernel
theorem dL_law_763 : decode cL_law 763 = .ok (.iconst 0, 1) := by decide +kernel
theorem dL_law_764 : decode cL_law 764 = .ok (.ireturn, 1) := by decide +kernel
theorem dL_law_765 : decode cL_law 765 = .ok (.aload_n 1, 1) := by decide +kernel
theorem dL_law_766 : decode cL_law 766 = .ok (.invokevirtual 141, 3) := by decide +kernel
theorem dL_law_769 : decode cL_law 769 = .ok (.f2d, 1) := by decide +kernel
theorem dL_law_770 : decode cL_law 770 = .ok (.dstore 5, 2) := by decide +kernel
theorem dL_law_772 : decode cL_law 772 = .ok (.aload_n 2, 1) := by decide +kernel
theorem dL_law_773 : decode cL_law 773 = .ok (.invokevirtual 145, 3) := by decide +kernel
theorem dL_law_776 : decode cL_law 776 = .ok (.f2d, 1) := by decide +kernel
theorem dL_law_777 : decode cL_law 777 = .ok (.dstore 7, 2) := by decide +kernel
theorem dL_law_779 : decode cL_law 779 = .ok (.dload 5, 2) := by decide +kernel
theorem dL_law_781 : decode cL_law 781 = .ok (.dload 7, 2) := by decide +kernel
theorem dL_law_783 : decode cL_law 783 = .ok (.dcmp .l, 1) := by decide +kernel
theorem dL_law_784 : decode cL_law 784 = .ok (.ifCond .eq 21, 3) := by decide +kernel
theorem dL_law_787 : decode cL_law 787 = .ok (.dload 5, 2) := by decide +kernel
theorem dL_law_789 : decode cL_law 789 = .ok (.dload 5, 2) := by decide +kernel
theorem dL_law_791 : decode cL_law 791 = .ok (.dcmp .l, 1) := by decide +kernel
theorem dL_law_792 : decode cL_law 792 = .ok (.ifCond .eq 11, 3) := by decide +kernel
theorem dL_law_795 : decode cL_law 795 = .ok (.dload 7, 2) := by decide +kernel
theorem dL_law_797 : decode cL_law 797 = .ok (.dload 7, 2) := by decide +kernel
theorem dL_law_799 : decode cL_law 799 = .ok (.dcmp .l, 1) := by decide +kernel
theorem dL_law_800 : decode cL_law 800 = .ok (.ifCond .ne 5, 3) := by decide +kernel
theorem dL_law_803 : decode cL_law 803 = .ok (.iconst 0, 1) := by decide +kernel
theorem dL_law_804 : decode cL_law 804 = .ok (.ireturn, 1) := by decide +kernel
theorem dL_law_805 : decode cL_law 805 = .ok (.goto 756, 3) := by decide +kernel
theorem dL_law_808 : decode cL_law 808 = .ok (.aload_n 1, 1) := by decide +kernel
theorem dL_law_809 : decode cL_law 809 = .ok (.aload_n 0, 1) := by decide +kernel
theorem dL_law_810 : decode cL_law 810 = .ok (.iload 4, 2) := by decide +kernel
theorem dL_law_812 : decode cL_law 812 = .ok (.iconst 1, 1) := by decide +kernel
theorem dL_law_813 : decode cL_law 813 = .ok (.iadd, 1) := by decide +kernel
theorem dL_law_814 : decode cL_law 814 = .ok (.iaload, 1) := by decide +kernel
theorem dL_law_815 : decode cL_law 815 = .ok (.aload_n 3, 1) := by decide +kernel
theorem dL_law_816 : decode cL_law 816 = .ok (.invokestatic 146, 3) := by decide +kernel
theorem dL_law_819 : decode cL_law 819 = .ok (.istore 5, 2) := by decide +kernel
theorem dL_law_821 : decode cL_law 821 = .ok (.aload_n 2, 1) := by decide +kernel
theorem dL_law_822 : decode cL_law 822 = .ok (.aload_n 0, 1) := by decide +kernel
theorem dL_law_823 : decode cL_law 823 = .ok (.iload 4, 2) := by decide +kernel
theorem dL_law_825 : decode cL_law 825 = .ok (.iconst 1, 1) := by decide +kernel
theorem dL_law_826 : decode cL_law 826 = .ok (.iadd, 1) := by decide +kernel
theorem dL_law_827 : decode cL_law 827 = .ok (.iaload, 1) := by decide +kernel
theorem dL_law_828 : decode cL_law 828 = .ok (.invokevirtual 148, 3) := by decide +kernel
theorem dL_law_831 : decode cL_law 831 = .ok (.istore 6, 2) := by decide +kernel
theorem dL_law_833 : decode cL_law 833 = .ok (.aload_n 2, 1) := by decide +kernel
theorem dL_law_834 : decode cL_law 834 = .ok (.invokevirtual 94, 3) := by decide +kernel
theorem dL_law_837 : decode cL_law 837 = .ok (.iload 5, 2) := by decide +kernel
theorem dL_law_839 : decode cL_law 839 = .ok (.if_icmp .eq 5, 3) := by decide +kernel
theorem dL_law_842 : decode cL_law 842 = .ok (.iconst 0, 1) := by decide +kernel
theorem dL_law_843 : decode cL_law 843 = .ok (.ireturn, 1) := by decide +kernel
theorem dL_law_844 : decode cL_law 844 = .ok (.iload 5, 2) := by decide +kernel
theorem dL_law_846 : decode cL_law 846 = .ok (.ifCond .ne 15, 3) := by decide +kernel
theorem dL_law_849 : decode cL_law 849 = .ok (.aload_n 3, 1) := by decide +kernel
theorem dL_law_850 : decode cL_law 850 = .ok (.iconst 0, 1) := by decide +kernel
theorem dL_law_851 : decode cL_law 851 = .ok (.laload, 1) := by decide +kernel
theorem dL_law_852 : decode cL_law 852 = .ok (.iload 6, 2) := by decide +kernel
theorem dL_law_854 : decode cL_law 854 = .ok (.i2l, 1) := by decide +kernel
theorem dL_law_855 : decode cL_law 855 = .ok (.lcmp, 1) := by decide +kernel
theorem dL_law_856 : decode cL_law 856 = .ok (.ifCond .eq 5, 3) := by decide +kernel
theorem dL_law_859 : decode cL_law 859 = .ok (.iconst 0, 1) := by decide +kernel
theorem dL_law_860 : decode cL_law 860 = .ok (.ireturn, 1) := by decide +kernel
theorem dL_law_861 : decode cL_law 861 = .ok (.goto 700, 3) := by decide +kernel
theorem dL_law_864 : decode cL_law 864 = .ok (.aload_n 1, 1) := by decide +kernel
theorem dL_law_865 : decode cL_law 865 = .ok (.aload_n 0, 1) := by decide +kernel
theorem dL_law_866 : decode cL_law 866 = .ok (.iload 4, 2) := by decide +kernel
theorem dL_law_868 : decode cL_law 868 = .ok (.iconst 1, 1) := by decide +kernel
theorem dL_law_869 : decode cL_law 869 = .ok (.iadd, 1) := by decide +kernel
theorem dL_law_870 : decode cL_law 870 = .ok (.iaload, 1) := by decide +kernel
theorem dL_law_871 : decode cL_law 871 = .ok (.aload_n 3, 1) := by decide +kernel
theorem dL_law_872 : decode cL_law 872 = .ok (.invokestatic 149, 3) := by decide +kernel
theorem dL_law_875 : decode cL_law 875 = .ok (.istore 5, 2) := by decide +kernel
theorem dL_law_877 : decode cL_law 877 = .ok (.aload_n 2, 1) := by decide +kernel
theorem dL_law_878 : decode cL_law 878 = .ok (.aload_n 0, 1) := by decide +kernel
theorem dL_law_879 : decode cL_law 879 = .ok (.iload 4, 2) := by decide +kernel
theorem dL_law_881 : decode cL_law 881 = .ok (.iconst 1, 1) := by decide +kernel
theorem dL_law_882 : decode cL_law 882 = .ok (.iadd, 1) := by decide +kernel
theorem dL_law_883 : decode cL_law 883 = .ok (.iaload, 1) := by decide +kernel
theorem dL_law_884 : decode cL_law 884 = .ok (.invokevirtual 151, 3) := by decide +kernel
theorem dL_law_887 : decode cL_law 887 = .ok (.istore 6, 2) := by decide +kernel
theorem dL_law_889 : decode cL_law 889 = .ok (.aload_n 2, 1) := by decide +kernel
theorem dL_law_890 : decode cL_law 890 = .ok (.invokevirtual 94, 3) := by decide +kernel
theorem dL_law_893 : decode cL_law 893 = .ok (.iload 5, 2) := by decide +kernel
theorem dL_law_895 : decode cL_law 895 = .ok (.if_icmp .eq 5, 3) := by decide +kernel
theorem dL_law_898 : decode cL_law 898 = .ok (.iconst 0, 1) := by decide +kernel
theorem dL_law_899 : decode cL_law 899 = .ok (.ireturn, 1) := by decide +kernel
theorem dL_law_900 : decode cL_law 900 = .ok (.iload 5, 2) := by decide +kernel
theorem dL_law_902 : decode cL_law 902 = .ok (.ifCond .ne 15, 3) := by decide +kernel
theorem dL_law_905 : decode cL_law 905 = .ok (.aload_n 3, 1) := by decide +kernel
theorem dL_law_906 : decode cL_law 906 = .ok (.iconst 0, 1) := by decide +kernel
theorem dL_law_907 : decode cL_law 907 = .ok (.laload, 1) := by decide +kernel
theorem dL_law_908 : decode cL_law 908 = .ok (.iload 6, 2) := by decide +kernel
theorem dL_law_910 : decode cL_law 910 = .ok (.i2l, 1) := by decide +kernel
theorem dL_law_911 : decode cL_law 911 = .ok (.lcmp, 1) := by decide +kernel
theorem dL_law_912 : decode cL_law 912 = .ok (.ifCond .eq 5, 3) := by decide +kernel
theorem dL_law_915 : decode cL_law 915 = .ok (.iconst 0, 1) := by decide +kernel
theorem dL_law_916 : decode cL_law 916 = .ok (.ireturn, 1) := by decide +kernel
theorem dL_law_917 : decode cL_law 917 = .ok (.goto 644, 3) := by decide +kernel
theorem dL_law_920 : decode cL_law 920 = .ok (.aload_n 1, 1) := by decide +kernel
theorem dL_law_921 : decode cL_law 921 = .ok (.aload_n 0, 1) := by decide +kernel
theorem dL_law_922 : decode cL_law 922 = .ok (.iload 4, 2) := by decide +kernel
theorem dL_law_924 : decode cL_law 924 = .ok (.iconst 1, 1) := by decide +kernel
theorem dL_law_925 : decode cL_law 925 = .ok (.iadd, 1) := by decide +kernel
theorem dL_law_926 : decode cL_law 926 = .ok (.iaload, 1) := by decide +kernel
theorem dL_law_927 : decode cL_law 927 = .ok (.aload_n 3, 1) := by decide +kernel
theorem dL_law_928 : decode cL_law 928 = .ok (.invokestatic 152, 3) := by decide +kernel
theorem dL_law_931 : decode cL_law 931 = .ok (.istore 5, 2) := by decide +kernel
theorem dL_law_933 : decode cL_law 933 = .ok (.aload_n 2, 1) := by decide +kernel
theorem dL_law_934 : decode cL_law 934 = .ok (.aload_n 0, 1) := by decide +kernel
theorem dL_law_935 : decode cL_law 935 = .ok (.iload 4, 2) := by decide +kernel
theorem dL_law_937 : decode cL_law 937 = .ok (.iconst 1, 1) := by decide +kernel
theorem dL_law_938 : decode cL_law 938 = .ok (.iadd, 1) := by decide +kernel
theorem dL_law_939 : decode cL_law 939 = .ok (.iaload, 1) := by decide +kernel
theorem dL_law_940 : decode cL_law 940 = .ok (.invokevirtual 154, 3) := by decide +kernel
theorem dL_law_943 : decode cL_law 943 = .ok (.istore 6, 2) := by decide +kernel
theorem dL_law_945 : decode cL_law 945 = .ok (.aload_n 2, 1) := by decide +kernel
theorem dL_law_946 : decode cL_law 946 = .ok (.invokevirtual 94, 3) := by decide +kernel
theorem dL_law_949 : decode cL_law 949 = .ok (.iload 5, 2) := by decide +kernel
theorem dL_law_951 : decode cL_law 951 = .ok (.if_icmp .eq 5, 3) := by decide +kernel
theorem dL_law_954 : decode cL_law 954 = .ok (.iconst 0, 1) := by decide +kernel
theorem dL_law_955 : decode cL_law 955 = .ok (.ireturn, 1) := by decide +kernel
theorem dL_law_956 : decode cL_law 956 = .ok (.iload 5, 2) := by decide +kernel
theorem dL_law_958 : decode cL_law 958 = .ok (.ifCond .ne 15, 3) := by decide +kernel
theorem dL_law_961 : decode cL_law 961 = .ok (.aload_n 3, 1) := by decide +kernel
theorem dL_law_962 : decode cL_law 962 = .ok (.iconst 0, 1) := by decide +kernel
theorem dL_law_963 : decode cL_law 963 = .ok (.laload, 1) := by decide +kernel
theorem dL_law_964 : decode cL_law 964 = .ok (.iload 6, 2) := by decide +kernel
theorem dL_law_966 : decode cL_law 966 = .ok (.i2l, 1) := by decide +kernel
theorem dL_law_967 : decode cL_law 967 = .ok (.lcmp, 1) := by decide +kernel
theorem dL_law_968 : decode cL_law 968 = .ok (.ifCond .eq 5, 3) := by decide +kernel
theorem dL_law_971 : decode cL_law 971 = .ok (.iconst 0, 1) := by decide +kernel
theorem dL_law_972 : decode cL_law 972 = .ok (.ireturn, 1) := by decide +kernel
theorem dL_law_973 : decode cL_law 973 = .ok (.goto 588, 3) := by decide +kernel
theorem dL_law_976 : decode cL_law 976 = .ok (.aload_n 1, 1) := by decide +kernel
theorem dL_law_977 : decode cL_law 977 = .ok (.aload_n 0, 1) := by decide +kernel
theorem dL_law_978 : decode cL_law 978 = .ok (.iload 4, 2) := by decide +kernel
theorem dL_law_980 : decode cL_law 980 = .ok (.iconst 1, 1) := by decide +kernel
theorem dL_law_981 : decode cL_law 981 = .ok (.iadd, 1) := by decide +kernel
theorem dL_law_982 : decode cL_law 982 = .ok (.iaload, 1) := by decide +kernel
theorem dL_law_983 : decode cL_law 983 = .ok (.aload_n 0, 1) := by decide +kernel
theorem dL_law_984 : decode cL_law 984 = .ok (.iload 4, 2) := by decide +kernel
theorem dL_law_986 : decode cL_law 986 = .ok (.iconst 2, 1) := by decide +kernel
theorem dL_law_987 : decode cL_law 987 = .ok (.iadd, 1) := by decide +kernel
theorem dL_law_988 : decode cL_law 988 = .ok (.iaload, 1) := by decide +kernel
theorem dL_law_989 : decode cL_law 989 = .ok (.aload_n 3, 1) := by decide +kernel
theorem dL_law_990 : decode cL_law 990 = .ok (.invokestatic 155, 3) := by decide +kernel
theorem dL_law_993 : decode cL_law 993 = .ok (.istore 5, 2) := by decide +kernel
theorem dL_law_995 : decode cL_law 995 = .ok (.aload_n 2, 1) := by decide +kernel
theorem dL_law_996 : decode cL_law 996 = .ok (.aload_n 0, 1) := by decide +kernel
theorem dL_law_997 : decode cL_law 997 = .ok (.iload 4, 2) := by decide +kernel
theorem dL_law_999 : decode cL_law 999 = .ok (.iconst 1, 1) := by decide +kernel
theorem dL_law_1000 : decode cL_law 1000 = .ok (.iadd, 1) := by decide +kernel
theorem dL_law_1001 : decode cL_law 1001 = .ok (.iaload, 1) := by decide +kernel
theorem dL_law_1002 : decode cL_law 1002 = .ok (.aload_n 0, 1) := by decide +kernel
theorem dL_law_1003 : decode cL_law 1003 = .ok (.iload 4, 2) := by decide +kernel
theorem dL_law_1005 : decode cL_law 1005 = .ok (.iconst 2, 1) := by decide +kernel
theorem dL_law_1006 : decode cL_law 1006 = .ok (.iadd, 1) := by decide +kernel
theorem dL_law_1007 : decode cL_law 1007 = .ok (.iaload, 1) := by decide +kernel
theorem dL_law_1008 : decode cL_law 1008 = .ok (.invokevirtual 157, 3) := by decide +kernel
theorem dL_law_1011 : decode cL_law 1011 = .ok (.istore 6, 2) := by decide +kernel
theorem dL_law_1013 : decode cL_law 1013 = .ok (.aload_n 2, 1) := by decide +kernel
theorem dL_law_1014 : decode cL_law 1014 = .ok (.invokevirtual 94, 3) := by decide +kernel
theorem dL_law_1017 : decode cL_law 1017 = .ok (.iload 5, 2) := by decide +kernel
theorem dL_law_1019 : decode cL_law 1019 = .ok (.if_icmp .eq 5, 3) := by decide +kernel
theorem dL_law_1022 : decode cL_law 1022 = .ok (.iconst 0, 1) := by decide +kernel
theorem dL_law_1023 : decode cL_law 1023 = .ok (.ireturn, 1) := by decide +kernel
theorem dL_law_1024 : decode cL_law 1024 = .ok (.iload 5, 2) := by decide +kernel
theorem dL_law_1026 : decode cL_law 1026 = .ok (.ifCond .ne 15, 3) := by decide +kernel
theorem dL_law_1029 : decode cL_law 1029 = .ok (.aload_n 3, 1) := by decide +kernel
theorem dL_law_1030 : decode cL_law 1030 = .ok (.iconst 0, 1) := by decide +kernel
theorem dL_law_1031 : decode cL_law 1031 = .ok (.laload, 1) := by decide +kernel
theorem dL_law_1032 : decode cL_law 1032 = .ok (.iload 6, 2) := by decide +kernel
theorem dL_law_1034 : decode cL_law 1034 = .ok (.i2l, 1) := by decide +kernel
theorem dL_law_1035 : decode cL_law 1035 = .ok (.lcmp, 1) := by decide +kernel
theorem dL_law_1036 : decode cL_law 1036 = .ok (.ifCond .eq 5, 3) := by decide +kernel
theorem dL_law_1039 : decode cL_law 1039 = .ok (.iconst 0, 1) := by decide +kernel
theorem dL_law_1040 : decode cL_law 1040 = .ok (.ireturn, 1) := by decide +kernel
theorem dL_law_1041 : decode cL_law 1041 = .ok (.goto 520, 3) := by decide +kernel
theorem dL_law_1044 : decode cL_law 1044 = .ok (.aload_n 1, 1) := by decide +kernel
theorem dL_law_1045 : decode cL_law 1045 = .ok (.aload_n 3, 1) := by decide +kernel
theorem dL_law_1046 : decode cL_law 1046 = .ok (.invokestatic 158, 3) := by decide +kernel
theorem dL_law_1049 : decode cL_law 1049 = .ok (.istore 5, 2) := by decide +kernel
theorem dL_law_1051 : decode cL_law 1051 = .ok (.aload_n 2, 1) := by decide +kernel
theorem dL_law_1052 : decode cL_law 1052 = .ok (.invokevirtual 160, 3) := by decide +kernel
theorem dL_law_1055 : decode cL_law 1055 = .ok (.istore 6, 2) := by decide +kernel
theorem dL_law_1057 : decode cL_law 1057 = .ok (.aload_n 2, 1) := by decide +kernel
theorem dL_law_1058 : decode cL_law 1058 = .ok (.invokevirtual 94, 3) := by decide +kernel
theorem dL_law_1061 : decode cL_law 1061 = .ok (.iload 5, 2) := by decide +kernel
theorem dL_law_1063 : decode cL_law 1063 = .ok (.if_icmp .eq 5, 3) := by decide +kernel
theorem dL_law_1066 : decode cL_law 1066 = .ok (.iconst 0, 1) := by decide +kernel
theorem dL_law_1067 : decode cL_law 1067 = .ok (.ireturn, 1) := by decide +kernel
theorem dL_law_1068 : decode cL_law 1068 = .ok (.iload 5, 2) := by decide +kernel
theorem dL_law_1070 : decode cL_law 1070 = .ok (.ifCond .ne 15, 3) := by decide +kernel
theorem dL_law_1073 : decode cL_law 1073 = .ok (.aload_n 3, 1) := by decide +kernel
theorem dL_law_1074 : decode cL_law 1074 = .ok (.iconst 0, 1) := by decide +kernel
theorem dL_law_1075 : decode cL_law 1075 = .ok (.laload, 1) := by decide +kernel
theorem dL_law_1076 : decode cL_law 1076 = .ok (.iload 6, 2) := by decide +kernel
theorem dL_law_1078 : decode cL_law 1078 = .ok (.i2l, 1) := by decide +kernel
theorem dL_law_1079 : decode cL_law 1079 = .ok (.lcmp, 1) := by decide +kernel
theorem dL_law_1080 : decode cL_law 1080 = .ok (.ifCond .eq 5, 3) := by decide +kernel
theorem dL_law_1083 : decode cL_law 1083 = .ok (.iconst 0, 1) := by decide +kernel
theorem dL_law_1084 : decode cL_law 1084 = .ok (.ireturn, 1) := by decide +kernel
theorem dL_law_1085 : decode cL_law 1085 = .ok (.goto 476, 3) := by decide +kernel
theorem dL_law_1088 : decode cL_law 1088 = .ok (.aload_n 1, 1) := by decide +kernel
theorem dL_law_1089 : decode cL_law 1089 = .ok (.aload_n 0, 1) := by decide +kernel
theorem dL_law_1090 : decode cL_law 1090 = .ok (.iload 4, 2) := by decide +kernel
theorem dL_law_1092 : decode cL_law 1092 = .ok (.iconst 1, 1) := by decide +kernel
theorem dL_law_1093 : decode cL_law 1093 = .ok (.iadd, 1) := by decide +kernel
theorem dL_law_1094 : decode cL_law 1094 = .ok (.iaload, 1) := by decide +kernel
theorem dL_law_1095 : decode cL_law 1095 = .ok (.aload_n 3, 1) := by decide +kernel
theorem dL_law_1096 : decode cL_law 1096 = .ok (.invokestatic 161, 3) := by decide +kernel
theorem dL_law_1099 : decode cL_law 1099 = .ok (.istore 5, 2) := by decide +kernel
theorem dL_law_1101 : decode cL_law 1101 = .ok (.aload_n 2, 1) := by decide +kernel
theorem dL_law_1102 : decode cL_law 1102 = .ok (.aload_n 0, 1) := by decide +kernel
theorem dL_law_1103 : decode cL_law 1103 = .ok (.iload 4, 2) := by decide +kernel
theorem dL_law_1105 : decode cL_law 1105 = .ok (.iconst 1, 1) := by decide +kernel
theorem dL_law_1106 : decode cL_law 1106 = .ok (.iadd, 1) := by decide +kernel
theorem dL_law_1107 : decode cL_law 1107 = .ok (.iaload, 1) := by decide +kernel
theorem dL_law_1108 : decode cL_law 1108 = .ok (.invokevirtual 163, 3) := by decide +kernel
theorem dL_law_1111 : decode cL_law 1111 = .ok (.istore 6, 2) := by decide +kernel
theorem dL_law_1113 : decode cL_law 1113 = .ok (.aload_n 2, 1) := by decide +kernel
theorem dL_law_1114 : decode cL_law 1114 = .ok (.invokevirtual 94, 3) := by decide +kernel
theorem dL_law_1117 : decode cL_law 1117 = .ok (.iload 5, 2) := by decide +kernel
theorem dL_law_1119 : decode cL_law 1119 = .ok (.if_icmp .eq 5, 3) := by decide +kernel
theorem dL_law_1122 : decode cL_law 1122 = .ok (.iconst 0, 1) := by decide +kernel
theorem dL_law_1123 : decode cL_law 1123 = .ok (.ireturn, 1) := by decide +kernel
theorem dL_law_1124 : decode cL_law 1124 = .ok (.iload 5, 2) := by decide +kernel
theorem dL_law_1126 : decode cL_law 1126 = .ok (.ifCond .ne 15, 3) := by decide +kernel
theorem dL_law_1129 : decode cL_law 1129 = .ok (.aload_n 3, 1) := by decide +kernel
theorem dL_law_1130 : decode cL_law 1130 = .ok (.iconst 0, 1) := by decide +kernel
theorem dL_law_1131 : decode cL_law 1131 = .ok (.laload, 1) := by decide +kernel
theorem dL_law_1132 : decode cL_law 1132 = .ok (.iload 6, 2) := by decide +kernel
theorem dL_law_1134 : decode cL_law 1134 = .ok (.i2l, 1) := by decide +kernel
theorem dL_law_1135 : decode cL_law 1135 = .ok (.lcmp, 1) := by decide +kernel
theorem dL_law_1136 : decode cL_law 1136 = .ok (.ifCond .eq 5, 3) := by decide +kernel
theorem dL_law_1139 : decode cL_law 1139 = .ok (.iconst 0, 1) := by decide +kernel
theorem dL_law_1140 : decode cL_law 1140 = .ok (.ireturn, 1) := by decide +kernel
theorem dL_law_1141 : decode cL_law 1141 = .ok (.goto 420, 3) := by decide +kernel
theorem dL_law_1144 : decode cL_law 1144 = .ok (.aload_n 1, 1) := by decide +kernel
theorem dL_law_1145 : decode cL_law 1145 = .ok (.aload_n 0, 1) := by decide +kernel
theorem dL_law_1146 : decode cL_law 1146 = .ok (.iload 4, 2) := by decide +kernel
theorem dL_law_1148 : decode cL_law 1148 = .ok (.iconst 1, 1) := by decide +kernel
theorem dL_law_1149 : decode cL_law 1149 = .ok (.iadd, 1) := by decide +kernel
theorem dL_law_1150 : decode cL_law 1150 = .ok (.iaload, 1) := by decide +kernel
theorem dL_law_1151 : decode cL_law 1151 = .ok (.aload_n 3, 1) := by decide +kernel
theorem dL_law_1152 : decode cL_law 1152 = .ok (.invokestatic 164, 3) := by decide +kernel
theorem dL_law_1155 : decode cL_law 1155 = .ok (.istore 5, 2) := by decide +kernel
theorem dL_law_1157 : decode cL_law 1157 = .ok (.aload_n 2, 1) := by decide +kernel
theorem dL_law_1158 : decode cL_law 1158 = .ok (.aload_n 0, 1) := by decide +kernel
theorem dL_law_1159 : decode cL_law 1159 = .ok (.iload 4, 2) := by decide +kernel
theorem dL_law_1161 : decode cL_law 1161 = .ok (.iconst 1, 1) := by decide +kernel
theorem dL_law_1162 : decode cL_law 1162 = .ok (.iadd, 1) := by decide +kernel
theorem dL_law_1163 : decode cL_law 1163 = .ok (.iaload, 1) := by decide +kernel
theorem dL_law_1164 : decode cL_law 1164 = .ok (.invokevirtual 166, 3) := by decide +kernel
theorem dL_law_1167 : decode cL_law 1167 = .ok (.istore 6, 2) := by decide +kernel
theorem dL_law_1169 : decode cL_law 1169 = .ok (.aload_n 2, 1) := by decide +kernel
theorem dL_law_1170 : decode cL_law 1170 = .ok (.invokevirtual 94, 3) := by decide +kernel
theorem dL_law_1173 : decode cL_law 1173 = .ok (.iload 5, 2) := by decide +kernel
theorem dL_law_1175 : decode cL_law 1175 = .ok (.if_icmp .eq 5, 3) := by decide +kernel
theorem dL_law_1178 : decode cL_law 1178 = .ok (.iconst 0, 1) := by decide +kernel
theorem dL_law_1179 : decode cL_law 1179 = .ok (.ireturn, 1) := by decide +kernel
theorem dL_law_1180 : decode cL_law 1180 = .ok (.iload 5, 2) := by decide +kernel
theorem dL_law_1182 : decode cL_law 1182 = .ok (.ifCond .ne 15, 3) := by decide +kernel
theorem dL_law_1185 : decode cL_law 1185 = .ok (.aload_n 3, 1) := by decide +kernel
theorem dL_law_1186 : decode cL_law 1186 = .ok (.iconst 0, 1) := by decide +kernel
theorem dL_law_1187 : decode cL_law 1187 = .ok (.laload, 1) := by decide +kernel
theorem dL_law_1188 : decode cL_law 1188 = .ok (.iload 6, 2) := by decide +kernel
theorem dL_law_1190 : decode cL_law 1190 = .ok (.i2l, 1) := by decide +kernel
theorem dL_law_1191 : decode cL_law 1191 = .ok (.lcmp, 1) := by decide +kernel
theorem dL_law_1192 : decode cL_law 1192 = .ok (.ifCond .eq 5, 3) := by decide +kernel
theorem dL_law_1195 : decode cL_law 1195 = .ok (.iconst 0, 1) := by decide +kernel
theorem dL_law_1196 : decode cL_law 1196 = .ok (.ireturn, 1) := by decide +kernel
theorem dL_law_1197 : decode cL_law 1197 = .ok (.goto 364, 3) := by decide +kernel
theorem dL_law_1200 : decode cL_law 1200 = .ok (.aload_n 1, 1) := by decide +kernel
theorem dL_law_1201 : decode cL_law 1201 = .ok (.aload_n 0, 1) := by decide +kernel
theorem dL_law_1202 : decode cL_law 1202 = .ok (.iload 4, 2) := by decide +kernel
theorem dL_law_1204 : decode cL_law 1204 = .ok (.iconst 1, 1) := by decide +kernel
theorem dL_law_1205 : decode cL_law 1205 = .ok (.iadd, 1) := by decide +kernel
theorem dL_law_1206 : decode cL_law 1206 = .ok (.iaload, 1) := by decide +kernel
theorem dL_law_1207 : decode cL_law 1207 = .ok (.aload_n 0, 1) := by decide +kernel
theorem dL_law_1208 : decode cL_law 1208 = .ok (.iload 4, 2) := by decide +kernel
theorem dL_law_1210 : decode cL_law 1210 = .ok (.iconst 2, 1) := by decide +kernel
theorem dL_law_1211 : decode cL_law 1211 = .ok (.iadd, 1) := by decide +kernel
theorem dL_law_1212 : decode cL_law 1212 = .ok (.iaload, 1) := by decide +kernel
theorem dL_law_1213 : decode cL_law 1213 = .ok (.aload_n 3, 1) := by decide +kernel
theorem dL_law_1214 : decode cL_law 1214 = .ok (.invokestatic 167, 3) := by decide +kernel
theorem dL_law_1217 : decode cL_law 1217 = .ok (.istore 5, 2) := by decide +kernel
theorem dL_law_1219 : decode cL_law 1219 = .ok (.aload_n 2, 1) := by decide +kernel
theorem dL_law_1220 : decode cL_law 1220 = .ok (.aload_n 0, 1) := by decide +kernel
theorem dL_law_1221 : decode cL_law 1221 = .ok (.iload 4, 2) := by decide +kernel
theorem dL_law_1223 : decode cL_law 1223 = .ok (.iconst 1, 1) := by decide +kernel
theorem dL_law_1224 : decode cL_law 1224 = .ok (.iadd, 1) := by decide +kernel
theorem dL_law_1225 : decode cL_law 1225 = .ok (.iaload, 1) := by decide +kernel
theorem dL_law_1226 : decode cL_law 1226 = .ok (.aload_n 0, 1) := by decide +kernel
theorem dL_law_1227 : decode cL_law 1227 = .ok (.iload 4, 2) := by decide +kernel
theorem dL_law_1229 : decode cL_law 1229 = .ok (.iconst 2, 1) := by decide +kernel
theorem dL_law_1230 : decode cL_law 1230 = .ok (.iadd, 1) := by decide +kernel
theorem dL_law_1231 : decode cL_law 1231 = .ok (.iaload, 1) := by decide +kernel
theorem dL_law_1232 : decode cL_law 1232 = .ok (.invokevirtual 169, 3) := by decide +kernel
theorem dL_law_1235 : decode cL_law 1235 = .ok (.istore 6, 2) := by decide +kernel
theorem dL_law_1237 : decode cL_law 1237 = .ok (.aload_n 2, 1) := by decide +kernel
theorem dL_law_1238 : decode cL_law 1238 = .ok (.invokevirtual 94, 3) := by decide +kernel
theorem dL_law_1241 : decode cL_law 1241 = .ok (.iload 5, 2) := by decide +kernel
theorem dL_law_1243 : decode cL_law 1243 = .ok (.if_icmp .eq 5, 3) := by decide +kernel
theorem dL_law_1246 : decode cL_law 1246 = .ok (.iconst 0, 1) := by decide +kernel
theorem dL_law_1247 : decode cL_law 1247 = .ok (.ireturn, 1) := by decide +kernel
theorem dL_law_1248 : decode cL_law 1248 = .ok (.iload 5, 2) := by decide +kernel
theorem dL_law_1250 : decode cL_law 1250 = .ok (.ifCond .ne 15, 3) := by decide +kernel
theorem dL_law_1253 : decode cL_law 1253 = .ok (.aload_n 3, 1) := by decide +kernel
theorem dL_law_1254 : decode cL_law 1254 = .ok (.iconst 0, 1) := by decide +kernel
theorem dL_law_1255 : decode cL_law 1255 = .ok (.laload, 1) := by decide +kernel
theorem dL_law_1256 : decode cL_law 1256 = .ok (.iload 6, 2) := by decide +kernel
theorem dL_law_1258 : decode cL_law 1258 = .ok (.i2l, 1) := by decide +kernel
theorem dL_law_1259 : decode cL_law 1259 = .ok (.lcmp, 1) := by decide +kernel
theorem dL_law_1260 : decode cL_law 1260 = .ok (.ifCond .eq 5, 3) := by decide +kernel
theorem dL_law_1263 : decode cL_law 1263 = .ok (.iconst 0, 1) := by decide +kernel
theorem dL_law_1264 : decode cL_law 1264 = .ok (.ireturn, 1) := by decide +kernel
theorem dL_law_1265 : decode cL_law 1265 = .ok (.goto 296, 3) := by decide +kernel
theorem dL_law_1268 : decode cL_law 1268 = .ok (.aload_n 1, 1) := by decide +kernel
theorem dL_law_1269 : decode cL_law 1269 = .ok (.aload_n 0, 1) := by decide +kernel
theorem dL_law_1270 : decode cL_law 1270 = .ok (.iload 4, 2) := by decide +kernel
theorem dL_law_1272 : decode cL_law 1272 = .ok (.iconst 1, 1) := by decide +kernel
theorem dL_law_1273 : decode cL_law 1273 = .ok (.iadd, 1) := by decide +kernel
theorem dL_law_1274 : decode cL_law 1274 = .ok (.iaload, 1) := by decide +kernel
theorem dL_law_1275 : decode cL_law 1275 = .ok (.aload_n 0, 1) := by decide +kernel
theorem dL_law_1276 : decode cL_law 1276 = .ok (.iload 4, 2) := by decide +kernel
theorem dL_law_1278 : decode cL_law 1278 = .ok (.iconst 2, 1) := by decide +kernel
theorem dL_law_1279 : decode cL_law 1279 = .ok (.iadd, 1) := by decide +kernel
theorem dL_law_1280 : decode cL_law 1280 = .ok (.iaload, 1) := by decide +kernel
theorem dL_law_1281 : decode cL_law 1281 = .ok (.aload_n 3, 1) := by decide +kernel
theorem dL_law_1282 : decode cL_law 1282 = .ok (.invokestatic 170, 3) := by decide +kernel
theorem dL_law_1285 : decode cL_law 1285 = .ok (.istore 5, 2) := by decide +kernel
theorem dL_law_1287 : decode cL_law 1287 = .ok (.aload_n 2, 1) := by decide +kernel
theorem dL_law_1288 : decode cL_law 1288 = .ok (.aload_n 0, 1) := by decide +kernel
theorem dL_law_1289 : decode cL_law 1289 = .ok (.iload 4, 2) := by decide +kernel
theorem dL_law_1291 : decode cL_law 1291 = .ok (.iconst 1, 1) := by decide +kernel
theorem dL_law_1292 : decode cL_law 1292 = .ok (.iadd, 1) := by decide +kernel
theorem dL_law_1293 : decode cL_law 1293 = .ok (.iaload, 1) := by decide +kernel
theorem dL_law_1294 : decode cL_law 1294 = .ok (.aload_n 0, 1) := by decide +kernel
theorem dL_law_1295 : decode cL_law 1295 = .ok (.iload 4, 2) := by decide +kernel
theorem dL_law_1297 : decode cL_law 1297 = .ok (.iconst 2, 1) := by decide +kernel
theorem dL_law_1298 : decode cL_law 1298 = .ok (.iadd, 1) := by decide +kernel
theorem dL_law_1299 : decode cL_law 1299 = .ok (.iaload, 1) := by decide +kernel
theorem dL_law_1300 : decode cL_law 1300 = .ok (.invokevirtual 172, 3) := by decide +kernel
theorem dL_law_1303 : decode cL_law 1303 = .ok (.istore 6, 2) := by decide +kernel
theorem dL_law_1305 : decode cL_law 1305 = .ok (.aload_n 2, 1) := by decide +kernel
theorem dL_law_1306 : decode cL_law 1306 = .ok (.invokevirtual 94, 3) := by decide +kernel
theorem dL_law_1309 : decode cL_law 1309 = .ok (.iload 5, 2) := by decide +kernel
theorem dL_law_1311 : decode cL_law 1311 = .ok (.if_icmp .eq 5, 3) := by decide +kernel
theorem dL_law_1314 : decode cL_law 1314 = .ok (.iconst 0, 1) := by decide +kernel
theorem dL_law_1315 : decode cL_law 1315 = .ok (.ireturn, 1) := by decide +kernel
theorem dL_law_1316 : decode cL_law 1316 = .ok (.iload 5, 2) := by decide +kernel
theorem dL_law_1318 : decode cL_law 1318 = .ok (.ifCond .ne 15, 3) := by decide +kernel
theorem dL_law_1321 : decode cL_law 1321 = .ok (.aload_n 3, 1) := by decide +kernel
theorem dL_law_1322 : decode cL_law 1322 = .ok (.iconst 0, 1) := by decide +kernel
theorem dL_law_1323 : decode cL_law 1323 = .ok (.laload, 1) := by decide +kernel
theorem dL_law_1324 : decode cL_law 1324 = .ok (.iload 6, 2) := by decide +kernel
theorem dL_law_1326 : decode cL_law 1326 = .ok (.i2l, 1) := by decide +kernel
theorem dL_law_1327 : decode cL_law 1327 = .ok (.lcmp, 1) := by decide +kernel
theorem dL_law_1328 : decode cL_law 1328 = .ok (.ifCond .eq 5, 3) := by decide +kernel
theorem dL_law_1331 : decode cL_law 1331 = .ok (.iconst 0, 1) := by decide +kernel
theorem dL_law_1332 : decode cL_law 1332 = .ok (.ireturn, 1) := by decide +kernel
theorem dL_law_1333 : decode cL_law 1333 = .ok (.goto 228, 3) := by decide +kernel
theorem dL_law_1336 : decode cL_law 1336 = .ok (.aload_n 1, 1) := by decide +kernel
theorem dL_law_1337 : decode cL_law 1337 = .ok (.invokevirtual 173, 3) := by decide +kernel
theorem dL_law_1340 : decode cL_law 1340 = .ok (.aload_n 2, 1) := by decide +kernel
theorem dL_law_1341 : decode cL_law 1341 = .ok (.invokevirtual 176, 3) := by decide +kernel
theorem dL_law_1344 : decode cL_law 1344 = .ok (.if_icmp .eq 217, 3) := by decide +kernel
theorem dL_law_1347 : decode cL_law 1347 = .ok (.iconst 0, 1) := by decide +kernel
theorem dL_law_1348 : decode cL_law 1348 = .ok (.ireturn, 1) := by decide +kernel
theorem dL_law_1349 : decode cL_law 1349 = .ok (.aload_n 1, 1) := by decide +kernel
theorem dL_law_1350 : decode cL_law 1350 = .ok (.aload_n 0, 1) := by decide +kernel
theorem dL_law_1351 : decode cL_law 1351 = .ok (.iload 4, 2) := by decide +kernel
theorem dL_law_1353 : decode cL_law 1353 = .ok (.iconst 1, 1) := by decide +kernel
theorem dL_law_1354 : decode cL_law 1354 = .ok (.iadd, 1) := by decide +kernel
theorem dL_law_1355 : decode cL_law 1355 = .ok (.iaload, 1) := by decide +kernel
theorem dL_law_1356 : decode cL_law 1356 = .ok (.aload_n 3, 1) := by decide +kernel
theorem dL_law_1357 : decode cL_law 1357 = .ok (.invokestatic 177, 3) := by decide +kernel
theorem dL_law_1360 : decode cL_law 1360 = .ok (.istore 5, 2) := by decide +kernel
theorem dL_law_1362 : decode cL_law 1362 = .ok (.aload_n 2, 1) := by decide +kernel
theorem dL_law_1363 : decode cL_law 1363 = .ok (.aload_n 0, 1) := by decide +kernel
theorem dL_law_1364 : decode cL_law 1364 = .ok (.iload 4, 2) := by decide +kernel
theorem dL_law_1366 : decode cL_law 1366 = .ok (.iconst 1, 1) := by decide +kernel
theorem dL_law_1367 : decode cL_law 1367 = .ok (.iadd, 1) := by decide +kernel
theorem dL_law_1368 : decode cL_law 1368 = .ok (.iaload, 1) := by decide +kernel
theorem dL_law_1369 : decode cL_law 1369 = .ok (.invokevirtual 179, 3) := by decide +kernel
theorem dL_law_1372 : decode cL_law 1372 = .ok (.istore 6, 2) := by decide +kernel
theorem dL_law_1374 : decode cL_law 1374 = .ok (.aload_n 2, 1) := by decide +kernel
theorem dL_law_1375 : decode cL_law 1375 = .ok (.invokevirtual 94, 3) := by decide +kernel
theorem dL_law_1378 : decode cL_law 1378 = .ok (.iload 5, 2) := by decide +kernel
theorem dL_law_1380 : decode cL_law 1380 = .ok (.if_icmp .eq 5, 3) := by decide +kernel
theorem dL_law_1383 : decode cL_law 1383 = .ok (.iconst 0, 1) := by decide +kernel
theorem dL_law_1384 : decode cL_law 1384 = .ok (.ireturn, 1) := by decide +kernel
theorem dL_law_1385 : decode cL_law 1385 = .ok (.iload 5, 2) := by decide +kernel
theorem dL_law_1387 : decode cL_law 1387 = .ok (.ifCond .ne 15, 3) := by decide +kernel
theorem dL_law_1390 : decode cL_law 1390 = .ok (.aload_n 3, 1) := by decide +kernel
theorem dL_law_1391 : decode cL_law 1391 = .ok (.iconst 0, 1) := by decide +kernel
theorem dL_law_1392 : decode cL_law 1392 = .ok (.laload, 1) := by decide +kernel
theorem dL_law_1393 : decode cL_law 1393 = .ok (.iload 6, 2) := by decide +kernel
theorem dL_law_1395 : decode cL_law 1395 = .ok (.i2l, 1) := by decide +kernel
theorem dL_law_1396 : decode cL_law 1396 = .ok (.lcmp, 1) := by decide +kernel
theorem dL_law_1397 : decode cL_law 1397 = .ok (.ifCond .eq 5, 3) := by decide +kernel
theorem dL_law_1400 : decode cL_law 1400 = .ok (.iconst 0, 1) := by decide +kernel
theorem dL_law_1401 : decode cL_law 1401 = .ok (.ireturn, 1) := by decide +kernel
theorem dL_law_1402 : decode cL_law 1402 = .ok (.goto 159, 3) := by decide +kernel
theorem dL_law_1405 : decode cL_law 1405 = .ok (.aload_n 1, 1) := by decide +kernel
theorem dL_law_1406 : decode cL_law 1406 = .ok (.aload_n 3, 1) := by decide +kernel
theorem dL_law_1407 : decode cL_law 1407 = .ok (.invokestatic 180, 3) := by decide +kernel
theorem dL_law_1410 : decode cL_law 1410 = .ok (.istore 5, 2) := by decide +kernel
theorem dL_law_1412 : decode cL_law 1412 = .ok (.aload_n 2, 1) := by decide +kernel
theorem dL_law_1413 : decode cL_law 1413 = .ok (.invokevirtual 182, 3) := by decide +kernel
theorem dL_law_1416 : decode cL_law 1416 = .ok (.istore 6, 2) := by decide +kernel
theorem dL_law_1418 : decode cL_law 1418 = .ok (.aload_n 2, 1) := by decide +kernel
theorem dL_law_1419 : decode cL_law 1419 = .ok (.invokevirtual 94, 3) := by decide +kernel
theorem dL_law_1422 : decode cL_law 1422 = .ok (.iload 5, 2) := by decide +kernel
theorem dL_law_1424 : decode cL_law 1424 = .ok (.if_icmp .eq 5, 3) := by decide +kernel
theorem dL_law_1427 : decode cL_law 1427 = .ok (.iconst 0, 1) := by decide +kernel
theorem dL_law_1428 : decode cL_law 1428 = .ok (.ireturn, 1) := by decide +kernel
theorem dL_law_1429 : decode cL_law 1429 = .ok (.iload 5, 2) := by decide +kernel
theorem dL_law_1431 : decode cL_law 1431 = .ok (.ifCond .ne 15, 3) := by decide +kernel
theorem dL_law_1434 : decode cL_law 1434 = .ok (.aload_n 3, 1) := by decide +kernel
theorem dL_law_1435 : decode cL_law 1435 = .ok (.iconst 0, 1) := by decide +kernel
theorem dL_law_1436 : decode cL_law 1436 = .ok (.laload, 1) := by decide +kernel
theorem dL_law_1437 : decode cL_law 1437 = .ok (.iload 6, 2) := by decide +kernel
theorem dL_law_1439 : decode cL_law 1439 = .ok (.i2l, 1) := by decide +kernel
theorem dL_law_1440 : decode cL_law 1440 = .ok (.lcmp, 1) := by decide +kernel
theorem dL_law_1441 : decode cL_law 1441 = .ok (.ifCond .eq 5, 3) := by decide +kernel
theorem dL_law_1444 : decode cL_law 1444 = .ok (.iconst 0, 1) := by decide +kernel
theorem dL_law_1445 : decode cL_law 1445 = .ok (.ireturn, 1) := by decide +kernel
theorem dL_law_1446 : decode cL_law 1446 = .ok (.goto 115, 3) := by decide +kernel
theorem dL_law_1449 : decode cL_law 1449 = .ok (.aload_n 1, 1) := by decide +kernel
theorem dL_law_1450 : decode cL_law 1450 = .ok (.aload_n 0, 1) := by decide +kernel
theorem dL_law_1451 : decode cL_law 1451 = .ok (.iload 4, 2) := by decide +kernel
theorem dL_law_1453 : decode cL_law 1453 = .ok (.iconst 1, 1) := by decide +kernel
theorem dL_law_1454 : decode cL_law 1454 = .ok (.iadd, 1) := by decide +kernel
theorem dL_law_1455 : decode cL_law 1455 = .ok (.iaload, 1) := by decide +kernel
theorem dL_law_1456 : decode cL_law 1456 = .ok (.aload_n 3, 1) := by decide +kernel
theorem dL_law_1457 : decode cL_law 1457 = .ok (.invokestatic 183, 3) := by decide +kernel
theorem dL_law_1460 : decode cL_law 1460 = .ok (.istore 5, 2) := by decide +kernel
theorem dL_law_1462 : decode cL_law 1462 = .ok (.aload_n 2, 1) := by decide +kernel
theorem dL_law_1463 : decode cL_law 1463 = .ok (.aload_n 0, 1) := by decide +kernel
theorem dL_law_1464 : decode cL_law 1464 = .ok (.iload 4, 2) := by decide +kernel
theorem dL_law_1466 : decode cL_law 1466 = .ok (.iconst 1, 1) := by decide +kernel
theorem dL_law_1467 : decode cL_law 1467 = .ok (.iadd, 1) := by decide +kernel
theorem dL_law_1468 : decode cL_law 1468 = .ok (.iaload, 1) := by decide +kernel
theorem dL_law_1469 : decode cL_law 1469 = .ok (.invokevirtual 185, 3) := by decide +kernel
theorem dL_law_1472 : decode cL_law 1472 = .ok (.istore 6, 2) := by decide +kernel
theorem dL_law_1474 : decode cL_law 1474 = .ok (.aload_n 2, 1) := by decide +kernel
theorem dL_law_1475 : decode cL_law 1475 = .ok (.invokevirtual 94, 3) := by decide +kernel
theorem dL_law_1478 : decode cL_law 1478 = .ok (.iload 5, 2) := by decide +kernel
theorem dL_law_1480 : decode cL_law 1480 = .ok (.if_icmp .eq 5, 3) := by decide +kernel
theorem dL_law_1483 : decode cL_law 1483 = .ok (.iconst 0, 1) := by decide +kernel
theorem dL_law_1484 : decode cL_law 1484 = .ok (.ireturn, 1) := by decide +kernel
theorem dL_law_1485 : decode cL_law 1485 = .ok (.iload 5, 2) := by decide +kernel
theorem dL_law_1487 : decode cL_law 1487 = .ok (.ifCond .ne 15, 3) := by decide +kernel
theorem dL_law_1490 : decode cL_law 1490 = .ok (.aload_n 3, 1) := by decide +kernel
theorem dL_law_1491 : decode cL_law 1491 = .ok (.iconst 0, 1) := by decide +kernel
theorem dL_law_1492 : decode cL_law 1492 = .ok (.laload, 1) := by decide +kernel
theorem dL_law_1493 : decode cL_law 1493 = .ok (.iload 6, 2) := by decide +kernel
theorem dL_law_1495 : decode cL_law 1495 = .ok (.i2l, 1) := by decide +kernel
theorem dL_law_1496 : decode cL_law 1496 = .ok (.lcmp, 1) := by decide +kernel
theorem dL_law_1497 : decode cL_law 1497 = .ok (.ifCond .eq 5, 3) := by decide +kernel
theorem dL_law_1500 : decode cL_law 1500 = .ok (.iconst 0, 1) := by decide +kernel
theorem dL_law_1501 : decode cL_law 1501 = .ok (.ireturn, 1) := by decide +kernel
theorem dL_law_1502 : decode cL_law 1502 = .ok (.goto 59, 3) := by decide +kernel
theorem dL_law_1505 : decode cL_law 1505 = .ok (.aload_n 1, 1) := by decide +kernel
theorem dL_law_1506 : decode cL_law 1506 = .ok (.aload_n 0, 1) := by decide +kernel
theorem dL_law_1507 : decode cL_law 1507 = .ok (.iload 4, 2) := by decide +kernel
theorem dL_law_1509 : decode cL_law 1509 = .ok (.iconst 1, 1) := by decide +kernel
theorem dL_law_1510 : decode cL_law 1510 = .ok (.iadd, 1) := by decide +kernel
theorem dL_law_1511 : decode cL_law 1511 = .ok (.iaload, 1) := by decide +kernel
theorem dL_law_1512 : decode cL_law 1512 = .ok (.aload_n 3, 1) := by decide +kernel
theorem dL_law_1513 : decode cL_law 1513 = .ok (.invokestatic 186, 3) := by decide +kernel
theorem dL_law_1516 : decode cL_law 1516 = .ok (.istore 5, 2) := by decide +kernel
theorem dL_law_1518 : decode cL_law 1518 = .ok (.aload_n 2, 1) := by decide +kernel
theorem dL_law_1519 : decode cL_law 1519 = .ok (.aload_n 0, 1) := by decide +kernel
theorem dL_law_1520 : decode cL_law 1520 = .ok (.iload 4, 2) := by decide +kernel
theorem dL_law_1522 : decode cL_law 1522 = .ok (.iconst 1, 1) := by decide +kernel
theorem dL_law_1523 : decode cL_law 1523 = .ok (.iadd, 1) := by decide +kernel
theorem dL_law_1524 : decode cL_law 1524 = .ok (.iaload, 1) := by decide +kernel
theorem dL_law_1525 : decode cL_law 1525 = .ok (.invokevirtual 188, 3) := by decide +kernel
theorem dL_law_1528 : decode cL_law 1528 = .ok (.istore 6, 2) := by decide +kernel
theorem dL_law_1530 : decode cL_law 1530 = .ok (.aload_n 2, 1) := by decide +kernel
theorem dL_law_1531 : decode cL_law 1531 = .ok (.invokevirtual 94, 3) := by decide +kernel
theorem dL_law_1534 : decode cL_law 1534 = .ok (.iload 5, 2) := by decide +kernel
theorem dL_law_1536 : decode cL_law 1536 = .ok (.if_icmp .eq 5, 3) := by decide +kernel
theorem dL_law_1539 : decode cL_law 1539 = .ok (.iconst 0, 1) := by decide +kernel
theorem dL_law_1540 : decode cL_law 1540 = .ok (.ireturn, 1) := by decide +kernel
end
section
theorem dL_law_1541 : decode cL_law 1541 = .ok (.iload 5, 2) := by decide +kernel
theorem dL_law_1543 : decode cL_law 1543 = .ok (.ifCond .ne 15, 3) := by decide +kernel
theorem dL_law_1546 : decode cL_law 1546 = .ok (.aload_n 3, 1) := by decide +kernel
theorem dL_law_1547 : decode cL_law 1547 = .ok (.iconst 0, 1) := by decide +kernel
theorem dL_law_1548 : decode cL_law 1548 = .ok (.laload, 1) := by decide +kernel
theorem dL_law_1549 : decode cL_law 1549 = .ok (.iload 6, 2) := by decide +kernel
theorem dL_law_1551 : decode cL_law 1551 = .ok (.i2l, 1) := by decide +kernel
theorem dL_law_1552 : decode cL_law 1552 = .ok (.lcmp, 1) := by decide +kernel
theorem dL_law_1553 : decode cL_law 1553 = .ok (.ifCond .eq 5, 3) := by decide +kernel
theorem dL_law_1556 : decode cL_law 1556 = .ok (.iconst 0, 1) := by decide +kernel
theorem dL_law_1557 : decode cL_law 1557 = .ok (.ireturn, 1) := by decide +kernel
theorem dL_law_1558 : decode cL_law 1558 = .ok (.goto 3, 3) := by decide +kernel
theorem dL_law_1561 : decode cL_law 1561 = .ok (.iinc 4 6, 3) := by decide +kernel
theorem dL_law_1564 : decode cL_law 1564 = .ok (.goto (-1541), 3) := by decide +kernel
theorem dL_law_1567 : decode cL_law 1567 = .ok (.iconst 1, 1) := by decide +kernel
theorem dL_law_1568 : decode cL_law 1568 = .ok (.ireturn, 1) := by decide +kernel
end
section
/-! the abstract machine: a heap of numbered cells; Sim: what a model's answer says of the walk -/
abbrev Ac : Type := (Nat × vp_A) ⊕ (Nat × List Value)
abbrev Hp : Type := (Nat → Ac) × Nat × Nat
abbrev Gx : Type := Nat × va_G × (Nat → ClassId) × (Nat → Nat)
abbrev Oc : Type := Option Value ⊕ Nat
abbrev Mt : Type := MethodName × ByteArray × Nat × Option FieldType × List (Nat × Nat × Nat × Nat)
def TE : u_T := fun _ => ("", "", "", false)
def xn : Nat → String
  | 0 => "java/lang/IllegalStateException"
  | 1 => "java/lang/IllegalArgumentException"
  | 2 => "java/lang/IndexOutOfBoundsException"
  | _ => "java/util/NoSuchElementException"
abbrev cls_ : List vw_C := vwCl ++ [(xn 0, TE, 0), (xn 1, TE, 0), (xn 2, TE, 0), (xn 3, TE, 0)]
abbrev tys_ (G : Gx) : List (ClassId × FieldType) := [(G.2.2.1 0, .int), (G.2.2.1 1, .long), (G.2.2.1 2, .byte), (G.2.2.1 3, .boolean), (G.2.2.1 4, .object "ColourDuel$Board")]
def sh (G : Gx) : Value → Value
  | .ref k => .ref (G.1 + k)
  | .retAddr j => .ref (G.2.2.2 j)
  | v => v
theorem sh_cat (G : Gx) (v : Value) : (sh G v).category = v.category := by cases v <;> rfl
def shA (G : Gx) (a : vp_A) : vp_A := match a.2 with
  | .inr (.inr (.inr (.inr f))) => (a.1, .inr (.inr (.inr (.inr (fun j => (f j).map (fun k => G.1 + k))))))
  | x => (a.1, x)
def she (G : Gx) : Ac → va_E
  | .inl x => .inl (G.2.2.1 x.1, shA G x.2)
  | .inr o => .inr (o.1, o.2.map (sh G))
def Rl (G : Gx) (h : Hp) (H : Heap) : Prop := H.size = G.1 + h.2.1 ∧ ∀ k : Nat, k < h.2.1 → va_at G.2.1 cls_ (G.1 + k, she G (h.1 k)) H
def nwk : Cond → Bool
  | .methodLinkNest .. => true
  | .fieldLinkNest .. => true
  | .castable .. => true
  | _ => false
/-- the string constants: their texts, as bytes -/
def str_ : List String := ["colours", "passes", "vertex", "edge", "lay", "pass"]
def strB (j : Nat) : List Int32 := (str_.getD j "").toList.map (fun c => Int32.ofNat c.toNat)
abbrev Tb : List Cond := lw_tbl.filter goodWord
/-- what is known of the tables and of the cells below the base -/
def Kn (G : Gx) (U : State) (H : Heap) : Prop :=
  va_K G.2.1 cls_ (tys_ G) U ∧ (∃ adV : Nat → Nat, vk_S 6 ((List.range 6).map (fun j => (strB j).length)) ((List.range 6).map strB) G.2.2.2 adV (fun q => G.1 ≤ q) U H) ∧
  (∀ (own : String) (k : Nat) (tx : String), Cond.stringRef own k tx ∈ lw_tbl → ∃ q : Nat, vk_R own k tx q U ∧ ∀ j : Nat, str_[j]? = some tx → q = G.2.2.2 j) ∧
  (∀ w ∈ lw_tbl, nwk w = true → va_Nw w U) ∧ va_AO "ColourDuel$Board" U ∧
  vx_Zq Bundle.tN "UNASSIGNED_STACK" Bundle.steD (fun q => G.1 ≤ q) U H ∧ vx_Zq Bundle.tN "SUPPRESSED_SENTINEL" Bundle.listD (fun q => G.1 ≤ q) U H ∧
  (va_Nc (xn 1) (xn 2) U ∧ va_Nc (xn 3) (xn 2) U ∧ va_Nc (xn 0) (xn 2) U) ∧ (∀ w ∈ Tb, (∃ ty, w = .arrayClass ty) → w.before #[] U = true) ∧ G.1 ≤ H.size
/-- where a walk stands -/
def Cx (l : Launch) (G : Gx) (lev : Nat) (M : Mt) (lv : List (Nat × Value)) (h : Hp) (p : Program) (R : Room) (s : State) (m : MethodId) (args : Array Value) (meth : Method) (c : Code) (H : Heap) (locs : List Loc) (ls : Array Slot) : Prop :=
  p.tables.exec = Jvm.exec ∧ c.code = M.2.1 ∧ meth.sig.returnType = M.2.2.2.1 ∧ c.maxLocals = M.2.2.1 ∧ (∀ w ∈ Tb, w.before args s = true) ∧ s.vm.findClass M.1.cls = some m.cls ∧ meth.locks = false ∧ meth.name = M.1.name ∧ c.exceptionTable.toList = tableOf M.2.2.2.2 ∧
  Kn G s s.heap ∧ Rl G h H ∧ va_S (fun q => G.1 ≤ q) s.heap H locs ∧ lv_has ls M.2.2.1 (lv.map (fun q => (q.1, sh G q.2))) ∧ l.stackTraces = false ∧ lev + 8 ≤ R.frames ∧ 64 * lev + 256 ≤ R.locals
def PqC (G : Gx) (o : Oc × Hp) : Array Value → State → Outcome → State → Prop := fun _ st oc t => ∃ v, o.1 = .inl v ∧ oc = .returned (v.map (sh G)) ∧ Rl G o.2 t.heap ∧ ∀ q : Nat, q < G.1 → t.heap[q]? = st.heap[q]?
def PqX (G : Gx) (o : Oc × Hp) : String → State → State → Prop := fun E st t => ∃ k, o.1 = .inr k ∧ E = xn k ∧ Rl G o.2 t.heap ∧ ∀ q : Nat, q < G.1 → t.heap[q]? = st.heap[q]?
def Sim (l : Launch) (G : Gx) (lev : Nat) (M : Mt) {ρ : Type} (fin : ρ → Oc × Hp) (pc : Nat) (lv : List (Nat × Value)) (st : List Value) (h : Hp) (r : Option ρ) : Prop :=
  ∀ v, r = some v → (h.2.1 ≤ (fin v).2.2.1 ∧ h.2.2 ≤ (fin v).2.2.2) ∧
    ∀ (p : Program) (e : Env) (R : Room) (s : State) (m : MethodId) (args : Array Value) (below : List Frame) (meth : Method) (c : Code) (H : Heap) (locs : List Loc) (cells slots : Nat) (ls : Array Slot),
      Cx l G lev M lv h p R s m args meth c H locs ls → cells + (fin v).2.2.1 ≤ R.cells + h.2.1 → slots + (fin v).2.2.2 ≤ R.slots + h.2.2 →
      W p l e R s m args below meth c H locs cells slots (vx_MQ below (PqC G (fin v)) (PqX G (fin v)) args s R.cells R.slots (fun q => G.1 ≤ q)) (F0 m pc ls (st.map (sh G)))
section BASE
variable {l : Launch} {G : Gx} {lev : Nat} {M : Mt} {ρ : Type} {fin : ρ → Oc × Hp} {pc : Nat} {lv : List (Nat × Value)} {st : List Value} {h : Hp} {r : Option ρ}
theorem Sim.pure {pc' : Nat} {st' : List Value} (k : Sim l G lev M fin pc' lv st' h r)
    (hw : ∀ {p : Program} {e : Env} {R : Room} {s : State} {m : MethodId} {args : Array Value} {below : List Frame} {meth : Method} {c : Code} {H : Heap} {locs : List Loc} {cells slots : Nat} {ls : Array Slot} {Q : State → Prop},
      Cx l G lev M lv h p R s m args meth c H locs ls → W p l e R s m args below meth c H locs cells slots Q (F0 m pc' ls (st'.map (sh G))) → W p l e R s m args below meth c H locs cells slots Q (F0 m pc ls (st.map (sh G)))) :
    Sim l G lev M fin pc lv st h r := fun v hv => ⟨(k v hv).1, fun p e R s m args below meth c H locs cells slots ls C h1 h2 => hw C ((k v hv).2 p e R s m args below meth c H locs cells slots ls C h1 h2)⟩
theorem Sim.loc {pc' : Nat} {st' : List Value} {lv' : List (Nat × Value)} (k : Sim l G lev M fin pc' lv' st' h r)
    (hw : ∀ {p : Program} {e : Env} {R : Room} {s : State} {m : MethodId} {args : Array Value} {below : List Frame} {meth : Method} {c : Code} {H : Heap} {locs : List Loc} {cells slots : Nat} {ls : Array Slot} {Q : State → Prop},
      p.tables.exec = Jvm.exec → c.code = M.2.1 → lv_has ls M.2.2.1 (lv.map (fun q => (q.1, sh G q.2))) → (∀ ls' : Array Slot, lv_has ls' M.2.2.1 (lv'.map (fun q => (q.1, sh G q.2))) → W p l e R s m args below meth c H locs cells slots Q (F0 m pc' ls' (st'.map (sh G)))) → W p l e R s m args below meth c H locs cells slots Q (F0 m pc ls (st.map (sh G)))) :
    Sim l G lev M fin pc lv st h r := fun v hv => ⟨(k v hv).1, fun p e R s m args below meth c H locs cells slots ls C h1 h2 => by
      obtain ⟨a1, a2, a3, a4, a5, a6, a7, a8, a9, a10, a11, a12, a13, a14, a15, a16⟩ := C
      exact hw a1 a2 a13 fun ls' hl' => (k v hv).2 p e R s m args below meth c H locs cells slots ls' ⟨a1, a2, a3, a4, a5, a6, a7, a8, a9, a10, a11, a12, hl', a14, a15, a16⟩ h1 h2⟩
theorem Sim.br {c : Prop} [Decidable c] {r1 r2 : Option ρ} {t f : Nat} {st' : List Value} (kt : c → Sim l G lev M fin t lv st' h r1) (kf : ¬ c → Sim l G lev M fin f lv st' h r2)
    (hw : ∀ {p : Program} {e : Env} {R : Room} {s : State} {m : MethodId} {args : Array Value} {below : List Frame} {meth : Method} {cd : Code} {H : Heap} {locs : List Loc} {cells slots : Nat} {ls : Array Slot} {Q : State → Prop},
      p.tables.exec = Jvm.exec → cd.code = M.2.1 → (c → W p l e R s m args below meth cd H locs cells slots Q (F0 m t ls (st'.map (sh G)))) → (¬ c → W p l e R s m args below meth cd H locs cells slots Q (F0 m f ls (st'.map (sh G)))) → W p l e R s m args below meth cd H locs cells slots Q (F0 m pc ls (st.map (sh G)))) :
    Sim l G lev M fin pc lv st h (if c then r1 else r2) := by
  intro v hv
  by_cases hc : c
  · rw [if_pos hc] at hv
    exact ⟨(kt hc v hv).1, fun p e R s m args below meth cd H locs cells slots ls C h1 h2 => hw C.1 C.2.1 (fun _ => (kt hc v hv).2 p e R s m args below meth cd H locs cells slots ls C h1 h2) (fun q => absurd hc q)⟩
  · rw [if_neg hc] at hv
    exact ⟨(kf hc v hv).1, fun p e R s m args below meth cd H locs cells slots ls C h1 h2 => hw C.1 C.2.1 (fun q => absurd q hc) (fun _ => (kf hc v hv).2 p e R s m args below meth cd H locs cells slots ls C h1 h2)⟩
theorem Sim.sub {lv' : List (Nat × Value)} (ks : List Nat) (hk : lv_pick lv ks = lv') (k : Sim l G lev M fin pc lv' st h r) : Sim l G lev M fin pc lv st h r :=
  Sim.loc k fun _ _ hl w => w _ (by
    refine lv_sub hl ks ?_
    rw [← hk]
    unfold lv_pick
    rw [List.map_filterMap]
    congr 1
    funext i
    rw [List.getElem?_map])
theorem lv_get {ls : Array Slot} {n i : Nat} {v : Value} (hl : lv_has ls n (lv.map (fun q => (q.1, sh G q.2)))) (k : Nat) (hk : lv[k]? = some (i, v)) : ls[i]? = some (.val (sh G v)) :=
  lv_at hl k (by rw [List.getElem?_map, hk]; rfl)
theorem lv_sto1 {i : Nat} {v : Value} {lv' : List (Nat × Value)} (h : (i, v) :: lv.filter (fun q => !(q.1 == i) && !(q.1 + 1 == i && q.2.category == 2)) = lv') :
    (i, sh G v) :: (lv.map (fun q => (q.1, sh G q.2))).filter (fun q => !(q.1 == i) && !(q.1 + 1 == i && q.2.category == 2)) = lv'.map (fun q => (q.1, sh G q.2)) := by
  rw [← h, List.map_cons, List.filter_map]
  refine congrArg (fun F => (i, sh G v) :: (List.filter F lv).map (fun q => (q.1, sh G q.2))) (funext fun q => ?_)
  show (!(q.1 == i) && !(q.1 + 1 == i && (sh G q.2).category == 2)) = _
  rw [sh_cat]
theorem lv_sto2 {i : Nat} {v : Value} {lv' : List (Nat × Value)} (h : (i, v) :: lv.filter (fun q => !(q.1 == i) && (!(q.1 == i + 1) && !(q.1 + 1 == i && q.2.category == 2))) = lv') :
    (i, sh G v) :: (lv.map (fun q => (q.1, sh G q.2))).filter (fun q => !(q.1 == i) && (!(q.1 == i + 1) && !(q.1 + 1 == i && q.2.category == 2))) = lv'.map (fun q => (q.1, sh G q.2)) := by
  rw [← h, List.map_cons, List.filter_map]
  refine congrArg (fun F => (i, sh G v) :: (List.filter F lv).map (fun q => (q.1, sh G q.2))) (funext fun q => ?_)
  show (!(q.1 == i) && (!(q.1 == i + 1) && !(q.1 + 1 == i && (sh G q.2).category == 2))) = _
  rw [sh_cat]
theorem S_iadd {x y : Int32} (hd : decode M.2.1 pc = .ok (.iadd, 1)) (k : Sim l G lev M fin (pc + 1) lv (.int (x + y) :: st) h r) : Sim l G lev M fin pc lv (.int y :: .int x :: st) h r := Sim.pure k fun C w => lv_iadd C.1 C.2.1 hd w
theorem S_isub {x y : Int32} (hd : decode M.2.1 pc = .ok (.isub, 1)) (k : Sim l G lev M fin (pc + 1) lv (.int (x - y) :: st) h r) : Sim l G lev M fin pc lv (.int y :: .int x :: st) h r := Sim.pure k fun C w => lv_isub C.1 C.2.1 hd w
theorem S_imul {x y : Int32} (hd : decode M.2.1 pc = .ok (.imul, 1)) (k : Sim l G lev M fin (pc + 1) lv (.int (x * y) :: st) h r) : Sim l G lev M fin pc lv (.int y :: .int x :: st) h r := Sim.pure k fun C w => lv_imul C.1 C.2.1 hd w
theorem S_iand {x y : Int32} (hd : decode M.2.1 pc = .ok (.iand, 1)) (k : Sim l G lev M fin (pc + 1) lv (.int (x &&& y) :: st) h r) : Sim l G lev M fin pc lv (.int y :: .int x :: st) h r := Sim.pure k fun C w => lv_iand C.1 C.2.1 hd w
theorem S_ior {x y : Int32} (hd : decode M.2.1 pc = .ok (.ior, 1)) (k : Sim l G lev M fin (pc + 1) lv (.int (x ||| y) :: st) h r) : Sim l G lev M fin pc lv (.int y :: .int x :: st) h r := Sim.pure k fun C w => lv_ior C.1 C.2.1 hd w
theorem S_ixor {x y : Int32} (hd : decode M.2.1 pc = .ok (.ixor, 1)) (k : Sim l G lev M fin (pc + 1) lv (.int (x ^^^ y) :: st) h r) : Sim l G lev M fin pc lv (.int y :: .int x :: st) h r := Sim.pure k fun C w => lv_ixor C.1 C.2.1 hd w
theorem S_ladd {x y : Int64} (hd : decode M.2.1 pc = .ok (.ladd, 1)) (k : Sim l G lev M fin (pc + 1) lv (.long (x + y) :: st) h r) : Sim l G lev M fin pc lv (.long y :: .long x :: st) h r := Sim.pure k fun C w => lv_ladd C.1 C.2.1 hd w
theorem S_lsub {x y : Int64} (hd : decode M.2.1 pc = .ok (.lsub, 1)) (k : Sim l G lev M fin (pc + 1) lv (.long (x - y) :: st) h r) : Sim l G lev M fin pc lv (.long y :: .long x :: st) h r := Sim.pure k fun C w => lv_lsub C.1 C.2.1 hd w
theorem S_lmul {x y : Int64} (hd : decode M.2.1 pc = .ok (.lmul, 1)) (k : Sim l G lev M fin (pc + 1) lv (.long (x * y) :: st) h r) : Sim l G lev M fin pc lv (.long y :: .long x :: st) h r := Sim.pure k fun C w => lv_lmul C.1 C.2.1 hd w
theorem S_land {x y : Int64} (hd : decode M.2.1 pc = .ok (.land, 1)) (k : Sim l G lev M fin (pc + 1) lv (.long (x &&& y) :: st) h r) : Sim l G lev M fin pc lv (.long y :: .long x :: st) h r := Sim.pure k fun C w => lv_land C.1 C.2.1 hd w
theorem S_lor {x y : Int64} (hd : decode M.2.1 pc = .ok (.lor, 1)) (k : Sim l G lev M fin (pc + 1) lv (.long (x ||| y) :: st) h r) : Sim l G lev M fin pc lv (.long y :: .long x :: st) h r := Sim.pure k fun C w => lv_lor C.1 C.2.1 hd w
theorem S_lxor {x y : Int64} (hd : decode M.2.1 pc = .ok (.lxor, 1)) (k : Sim l G lev M fin (pc + 1) lv (.long (x ^^^ y) :: st) h r) : Sim l G lev M fin pc lv (.long y :: .long x :: st) h r := Sim.pure k fun C w => lv_lxor C.1 C.2.1 hd w
theorem S_ishl {x y : Int32} (hd : decode M.2.1 pc = .ok (.ishl, 1)) (k : Sim l G lev M fin (pc + 1) lv (.int (x <<< (y &&& 31)) :: st) h r) : Sim l G lev M fin pc lv (.int y :: .int x :: st) h r := Sim.pure k fun C w => lv_ishl C.1 C.2.1 hd w
theorem S_ishr {x y : Int32} (hd : decode M.2.1 pc = .ok (.ishr, 1)) (k : Sim l G lev M fin (pc + 1) lv (.int (x >>> (y &&& 31)) :: st) h r) : Sim l G lev M fin pc lv (.int y :: .int x :: st) h r := Sim.pure k fun C w => lv_ishr C.1 C.2.1 hd w
theorem S_iushr {x y : Int32} (hd : decode M.2.1 pc = .ok (.iushr, 1)) (k : Sim l G lev M fin (pc + 1) lv (.int ((x.toUInt32 >>> (y.toUInt32 &&& Int32.toUInt32 31)).toInt32) :: st) h r) : Sim l G lev M fin pc lv (.int y :: .int x :: st) h r := Sim.pure k fun C w => lv_iushr C.1 C.2.1 hd rfl w
theorem S_lushr {x : Int64} {y : Int32} (hd : decode M.2.1 pc = .ok (.lushr, 1)) (k : Sim l G lev M fin (pc + 1) lv (.long ((x.toUInt64 >>> (y.toInt64.toUInt64 &&& Int64.toUInt64 63)).toInt64) :: st) h r) : Sim l G lev M fin pc lv (.int y :: .long x :: st) h r := Sim.pure k fun C w => lv_lushr C.1 C.2.1 hd rfl w
theorem S_lshl {x : Int64} {y : Int32} (hd : decode M.2.1 pc = .ok (.lshl, 1)) (k : Sim l G lev M fin (pc + 1) lv (.long (x <<< (y.toInt64 &&& 63)) :: st) h r) : Sim l G lev M fin pc lv (.int y :: .long x :: st) h r := Sim.pure k fun C w => lv_lshl C.1 C.2.1 hd rfl w
theorem S_ineg {x : Int32} (hd : decode M.2.1 pc = .ok (.ineg, 1)) (k : Sim l G lev M fin (pc + 1) lv (.int (-x) :: st) h r) : Sim l G lev M fin pc lv (.int x :: st) h r := Sim.pure k fun C w => lv_ineg C.1 C.2.1 hd w
theorem S_i2l {x : Int32} (hd : decode M.2.1 pc = .ok (.i2l, 1)) (k : Sim l G lev M fin (pc + 1) lv (.long x.toInt64 :: st) h r) : Sim l G lev M fin pc lv (.int x :: st) h r := Sim.pure k fun C w => lv_i2l C.1 C.2.1 hd rfl w
theorem S_l2i {x : Int64} (hd : decode M.2.1 pc = .ok (.l2i, 1)) (k : Sim l G lev M fin (pc + 1) lv (.int x.toInt32 :: st) h r) : Sim l G lev M fin pc lv (.long x :: st) h r := Sim.pure k fun C w => lv_l2i C.1 C.2.1 hd rfl w
theorem S_i2b {x : Int32} (hd : decode M.2.1 pc = .ok (.i2b, 1)) (k : Sim l G lev M fin (pc + 1) lv (.int x.toInt8.toInt32 :: st) h r) : Sim l G lev M fin pc lv (.int x :: st) h r := Sim.pure k fun C w => lv_i2b C.1 C.2.1 hd rfl w
theorem S_i2f {x : Int32} (hd : decode M.2.1 pc = .ok (.i2f, 1)) (k : Sim l G lev M fin (pc + 1) lv (.float (FP.i2f x) :: st) h r) : Sim l G lev M fin pc lv (.int x :: st) h r := Sim.pure k fun C w => lv_i2f C.1 C.2.1 hd w
theorem S_lcmp {x y : Int64} (hd : decode M.2.1 pc = .ok (.lcmp, 1)) (k : Sim l G lev M fin (pc + 1) lv (.int (lg_cmp x y) :: st) h r) : Sim l G lev M fin pc lv (.long y :: .long x :: st) h r := Sim.pure k fun C w => W.lcmp C.1 C.2.1 hd w
theorem S_dcmp {x y : UInt64} {op : CmpOp} (hd : decode M.2.1 pc = .ok (.dcmp op, 1)) (k : Sim l G lev M fin (pc + 1) lv (.int (Op.cmpValue (FP.dcmp x y) op) :: st) h r) : Sim l G lev M fin pc lv (.double y :: .double x :: st) h r := Sim.pure k fun C w => lv_dcmp C.1 C.2.1 hd w
theorem S_fconst0  (hd : decode M.2.1 pc = .ok (.fconst 0, 1)) (k : Sim l G lev M fin (pc + 1) lv (.float FP.fconst0 :: st) h r) : Sim l G lev M fin pc lv (st) h r := Sim.pure k fun C w => lv_fconst0 C.1 C.2.1 hd w
theorem S_iconst {n : Int} (v : Int32) (hd : decode M.2.1 pc = .ok (.iconst n, 1)) (hv : Int32.ofInt n = v) (k : Sim l G lev M fin (pc + 1) lv (.int v :: st) h r) : Sim l G lev M fin pc lv (st) h r := Sim.pure k fun C w => lv_iconst C.1 C.2.1 hd hv w
theorem S_bipush {n : Int} (v : Int32) (hd : decode M.2.1 pc = .ok (.bipush n, 2)) (hv : (Int8.ofInt n).toInt32 = v) (k : Sim l G lev M fin (pc + 2) lv (.int v :: st) h r) : Sim l G lev M fin pc lv (st) h r := Sim.pure k fun C w => lv_bipush C.1 C.2.1 hd hv w
theorem S_sipush {n : Int} (v : Int32) (hd : decode M.2.1 pc = .ok (.sipush n, 3)) (hv : (Int16.ofInt n).toInt32 = v) (k : Sim l G lev M fin (pc + 3) lv (.int v :: st) h r) : Sim l G lev M fin pc lv (st) h r := Sim.pure k fun C w => lv_sipush C.1 C.2.1 hd hv w
theorem S_null  (hd : decode M.2.1 pc = .ok (.aconst_null, 1)) (k : Sim l G lev M fin (pc + 1) lv (.null :: st) h r) : Sim l G lev M fin pc lv (st) h r := Sim.pure k fun C w => lv_null C.1 C.2.1 hd w
theorem S_ldc {index : Nat} (v : Int32) (hc : Cond.constant M.1.cls index v ∈ Tb) (hd : decode M.2.1 pc = .ok (.ldc index, 2)) (k : Sim l G lev M fin (pc + 2) lv (.int v :: st) h r) : Sim l G lev M fin pc lv (st) h r := Sim.pure k fun C w => lv_ldc C.1 C.2.1 C.2.2.2.2.2.1 (C.2.2.2.2.1 _ hc) hd w
theorem S_ldcw {index : Nat} (v : Int32) (hc : Cond.constant M.1.cls index v ∈ Tb) (hd : decode M.2.1 pc = .ok (.ldc_w index, 3)) (k : Sim l G lev M fin (pc + 3) lv (.int v :: st) h r) : Sim l G lev M fin pc lv (st) h r := Sim.pure k fun C w => lv_ldcw C.1 C.2.1 C.2.2.2.2.2.1 (C.2.2.2.2.1 _ hc) hd w
theorem S_ldc2 {index : Nat} (v : Int64) (hc : Cond.constantLong M.1.cls index v ∈ Tb) (hd : decode M.2.1 pc = .ok (.ldc2_w index, 3)) (k : Sim l G lev M fin (pc + 3) lv (.long v :: st) h r) : Sim l G lev M fin pc lv (st) h r := Sim.pure k fun C w => lv_ldc2 C.1 C.2.1 C.2.2.2.2.2.1 (C.2.2.2.2.1 _ hc) hd w
theorem S_dup {va : Value} (hd : decode M.2.1 pc = .ok (.dup, 1)) (hc : va.category = 1) (k : Sim l G lev M fin (pc + 1) lv (va :: va :: st) h r) : Sim l G lev M fin pc lv (va :: st) h r := Sim.pure k fun C w => lv_dup C.1 C.2.1 hd ((sh_cat G va).trans hc) w
theorem S_pop {va : Value} (hd : decode M.2.1 pc = .ok (.pop, 1)) (hc : va.category = 1) (k : Sim l G lev M fin (pc + 1) lv (st) h r) : Sim l G lev M fin pc lv (va :: st) h r := Sim.pure k fun C w => lv_pop C.1 C.2.1 hd ((sh_cat G va).trans hc) w
theorem S_dup2 {va vb : Value} (hd : decode M.2.1 pc = .ok (.dup2, 1)) (hc : va.category = 1) (hc2 : vb.category = 1) (k : Sim l G lev M fin (pc + 1) lv (va :: vb :: va :: vb :: st) h r) : Sim l G lev M fin pc lv (va :: vb :: st) h r := Sim.pure k fun C w => lv_dup2_11 C.1 C.2.1 hd ((sh_cat G va).trans hc) ((sh_cat G vb).trans hc2) w
theorem S_goto {off : Int} (tgt : Nat) (hd : decode M.2.1 pc = .ok (.goto off, 3)) (ht : (pc : Int) + off = (tgt : Int)) (k : Sim l G lev M fin tgt lv (st) h r) : Sim l G lev M fin pc lv (st) h r := Sim.pure k fun C w => lv_goto C.1 C.2.1 hd ht w
theorem S_iload_n {n : Fin 4} {i : Nat} {x : Int32} (kk : Nat) (hd : decode M.2.1 pc = .ok (.iload_n n, 1)) (hi : (n : Nat) = i) (hl : lv[kk]? = some (i, .int x)) (k : Sim l G lev M fin (pc + 1) lv (.int x :: st) h r) : Sim l G lev M fin pc lv (st) h r := Sim.pure k fun C w => lv_iload_n C.1 C.2.1 hd hi (lv_get C.2.2.2.2.2.2.2.2.2.2.2.2.1 kk hl) w
theorem S_iload {i : Nat} {x : Int32} (kk : Nat) (hd : decode M.2.1 pc = .ok (.iload i, 2)) (hl : lv[kk]? = some (i, .int x)) (k : Sim l G lev M fin (pc + 2) lv (.int x :: st) h r) : Sim l G lev M fin pc lv (st) h r := Sim.pure k fun C w => lv_iload C.1 C.2.1 hd (lv_get C.2.2.2.2.2.2.2.2.2.2.2.2.1 kk hl) w
theorem S_lload_n {n : Fin 4} {i : Nat} {x : Int64} (kk : Nat) (hd : decode M.2.1 pc = .ok (.lload_n n, 1)) (hi : (n : Nat) = i) (hl : lv[kk]? = some (i, .long x)) (k : Sim l G lev M fin (pc + 1) lv (.long x :: st) h r) : Sim l G lev M fin pc lv (st) h r := Sim.pure k fun C w => lv_lload_n C.1 C.2.1 hd hi (lv_get C.2.2.2.2.2.2.2.2.2.2.2.2.1 kk hl) w
theorem S_lload {i : Nat} {x : Int64} (kk : Nat) (hd : decode M.2.1 pc = .ok (.lload i, 2)) (hl : lv[kk]? = some (i, .long x)) (k : Sim l G lev M fin (pc + 2) lv (.long x :: st) h r) : Sim l G lev M fin pc lv (st) h r := Sim.pure k fun C w => lv_lload C.1 C.2.1 hd (lv_get C.2.2.2.2.2.2.2.2.2.2.2.2.1 kk hl) w
theorem S_dload_n {n : Fin 4} {i : Nat} {x : UInt64} (kk : Nat) (hd : decode M.2.1 pc = .ok (.dload_n n, 1)) (hi : (n : Nat) = i) (hl : lv[kk]? = some (i, .double x)) (k : Sim l G lev M fin (pc + 1) lv (.double x :: st) h r) : Sim l G lev M fin pc lv (st) h r := Sim.pure k fun C w => lv_dload_n C.1 C.2.1 hd hi (lv_get C.2.2.2.2.2.2.2.2.2.2.2.2.1 kk hl) w
theorem S_dload {i : Nat} {x : UInt64} (kk : Nat) (hd : decode M.2.1 pc = .ok (.dload i, 2)) (hl : lv[kk]? = some (i, .double x)) (k : Sim l G lev M fin (pc + 2) lv (.double x :: st) h r) : Sim l G lev M fin pc lv (st) h r := Sim.pure k fun C w => lv_dload C.1 C.2.1 hd (lv_get C.2.2.2.2.2.2.2.2.2.2.2.2.1 kk hl) w
theorem S_aload_n {n : Fin 4} {i a : Nat} (kk : Nat) (hd : decode M.2.1 pc = .ok (.aload_n n, 1)) (hi : (n : Nat) = i) (hl : lv[kk]? = some (i, .ref a)) (k : Sim l G lev M fin (pc + 1) lv (.ref a :: st) h r) : Sim l G lev M fin pc lv (st) h r := Sim.pure k fun C w => lv_aload_n C.1 C.2.1 hd hi (lv_get C.2.2.2.2.2.2.2.2.2.2.2.2.1 kk hl) w
theorem S_aload {i a : Nat} (kk : Nat) (hd : decode M.2.1 pc = .ok (.aload i, 2)) (hl : lv[kk]? = some (i, .ref a)) (k : Sim l G lev M fin (pc + 2) lv (.ref a :: st) h r) : Sim l G lev M fin pc lv (st) h r := Sim.pure k fun C w => lv_aload C.1 C.2.1 hd (lv_get C.2.2.2.2.2.2.2.2.2.2.2.2.1 kk hl) w
theorem S_sload_n {n : Fin 4} {i j : Nat} (kk : Nat) (hd : decode M.2.1 pc = .ok (.aload_n n, 1)) (hi : (n : Nat) = i) (hl : lv[kk]? = some (i, .retAddr j)) (k : Sim l G lev M fin (pc + 1) lv (.retAddr j :: st) h r) : Sim l G lev M fin pc lv (st) h r := Sim.pure k fun C w => lv_aload_n C.1 C.2.1 hd hi (lv_get C.2.2.2.2.2.2.2.2.2.2.2.2.1 kk hl) w
theorem S_qload_n {n : Fin 4} {i : Nat} {q : Option Nat} (kk : Nat) (hd : decode M.2.1 pc = .ok (.aload_n n, 1)) (hi : (n : Nat) = i) (hl : lv[kk]? = some (i, va_rf q)) (k : Sim l G lev M fin (pc + 1) lv (va_rf q :: st) h r) : Sim l G lev M fin pc lv st h r := by
  cases q with
  | none => exact Sim.pure k fun C w => lv_aload_nN C.1 C.2.1 hd hi (lv_get C.2.2.2.2.2.2.2.2.2.2.2.2.1 kk hl) w
  | some a => exact Sim.pure k fun C w => lv_aload_n C.1 C.2.1 hd hi (lv_get C.2.2.2.2.2.2.2.2.2.2.2.2.1 kk hl) w
theorem S_qload {i : Nat} {q : Option Nat} (kk : Nat) (hd : decode M.2.1 pc = .ok (.aload i, 2)) (hl : lv[kk]? = some (i, va_rf q)) (k : Sim l G lev M fin (pc + 2) lv (va_rf q :: st) h r) : Sim l G lev M fin pc lv st h r := by
  cases q with
  | none => exact Sim.pure k fun C w => lv_aloadN C.1 C.2.1 hd (lv_get C.2.2.2.2.2.2.2.2.2.2.2.2.1 kk hl) w
  | some a => exact Sim.pure k fun C w => lv_aload C.1 C.2.1 hd (lv_get C.2.2.2.2.2.2.2.2.2.2.2.2.1 kk hl) w
theorem S_istore_n {n : Fin 4} {i : Nat} {x : Int32} (lv' : List (Nat × Value)) (hd : decode M.2.1 pc = .ok (.istore_n n, 1)) (hi : (n : Nat) = i) (hn : i < M.2.2.1) (hl : (i, Value.int x) :: lv.filter (fun q => !(q.1 == i) && !(q.1 + 1 == i && q.2.category == 2)) = lv') (k : Sim l G lev M fin (pc + 1) lv' st h r) : Sim l G lev M fin pc lv (.int x :: st) h r := Sim.loc k fun a1 a2 hv w => lv_istore_n a1 a2 hd hi hv hn (lv_sto1 hl) w
theorem S_istore {i : Nat} {x : Int32} (lv' : List (Nat × Value)) (hd : decode M.2.1 pc = .ok (.istore i, 2)) (hn : i < M.2.2.1) (hl : (i, Value.int x) :: lv.filter (fun q => !(q.1 == i) && !(q.1 + 1 == i && q.2.category == 2)) = lv') (k : Sim l G lev M fin (pc + 2) lv' st h r) : Sim l G lev M fin pc lv (.int x :: st) h r := Sim.loc k fun a1 a2 hv w => lv_istore a1 a2 hd hv hn (lv_sto1 hl) w
theorem S_lstore_n {n : Fin 4} {i : Nat} {x : Int64} (lv' : List (Nat × Value)) (hd : decode M.2.1 pc = .ok (.lstore_n n, 1)) (hi : (n : Nat) = i) (hn : i + 1 < M.2.2.1) (hl : (i, Value.long x) :: lv.filter (fun q => !(q.1 == i) && (!(q.1 == i + 1) && !(q.1 + 1 == i && q.2.category == 2))) = lv') (k : Sim l G lev M fin (pc + 1) lv' st h r) : Sim l G lev M fin pc lv (.long x :: st) h r := Sim.loc k fun a1 a2 hv w => lv_lstore_n a1 a2 hd hi hv hn (lv_sto2 hl) w
theorem S_lstore {i : Nat} {x : Int64} (lv' : List (Nat × Value)) (hd : decode M.2.1 pc = .ok (.lstore i, 2)) (hn : i + 1 < M.2.2.1) (hl : (i, Value.long x) :: lv.filter (fun q => !(q.1 == i) && (!(q.1 == i + 1) && !(q.1 + 1 == i && q.2.category == 2))) = lv') (k : Sim l G lev M fin (pc + 2) lv' st h r) : Sim l G lev M fin pc lv (.long x :: st) h r := Sim.loc k fun a1 a2 hv w => lv_lstore a1 a2 hd hv hn (lv_sto2 hl) w
theorem S_dstore_n {n : Fin 4} {i : Nat} {x : UInt64} (lv' : List (Nat × Value)) (hd : decode M.2.1 pc = .ok (.dstore_n n, 1)) (hi : (n : Nat) = i) (hn : i + 1 < M.2.2.1) (hl : (i, Value.double x) :: lv.filter (fun q => !(q.1 == i) && (!(q.1 == i + 1) && !(q.1 + 1 == i && q.2.category == 2))) = lv') (k : Sim l G lev M fin (pc + 1) lv' st h r) : Sim l G lev M fin pc lv (.double x :: st) h r := Sim.loc k fun a1 a2 hv w => lv_dstore_n a1 a2 hd hi hv hn (lv_sto2 hl) w
theorem S_dstore {i : Nat} {x : UInt64} (lv' : List (Nat × Value)) (hd : decode M.2.1 pc = .ok (.dstore i, 2)) (hn : i + 1 < M.2.2.1) (hl : (i, Value.double x) :: lv.filter (fun q => !(q.1 == i) && (!(q.1 == i + 1) && !(q.1 + 1 == i && q.2.category == 2))) = lv') (k : Sim l G lev M fin (pc + 2) lv' st h r) : Sim l G lev M fin pc lv (.double x :: st) h r := Sim.loc k fun a1 a2 hv w => lv_dstore a1 a2 hd hv hn (lv_sto2 hl) w
theorem S_astore_n {n : Fin 4} {i a : Nat} (lv' : List (Nat × Value)) (hd : decode M.2.1 pc = .ok (.astore_n n, 1)) (hi : (n : Nat) = i) (hn : i < M.2.2.1) (hl : (i, Value.ref a) :: lv.filter (fun q => !(q.1 == i) && !(q.1 + 1 == i && q.2.category == 2)) = lv') (k : Sim l G lev M fin (pc + 1) lv' st h r) : Sim l G lev M fin pc lv (.ref a :: st) h r := Sim.loc k fun a1 a2 hv w => lv_astore_n a1 a2 hd hi hv hn (lv_sto1 hl) w
theorem S_astore {i a : Nat} (lv' : List (Nat × Value)) (hd : decode M.2.1 pc = .ok (.astore i, 2)) (hn : i < M.2.2.1) (hl : (i, Value.ref a) :: lv.filter (fun q => !(q.1 == i) && !(q.1 + 1 == i && q.2.category == 2)) = lv') (k : Sim l G lev M fin (pc + 2) lv' st h r) : Sim l G lev M fin pc lv (.ref a :: st) h r := Sim.loc k fun a1 a2 hv w => lv_astore a1 a2 hd hv hn (lv_sto1 hl) w
theorem S_qstore_n {n : Fin 4} {i : Nat} {q : Option Nat} (lv' : List (Nat × Value)) (hd : decode M.2.1 pc = .ok (.astore_n n, 1)) (hi : (n : Nat) = i) (hn : i < M.2.2.1) (hl : (i, va_rf q) :: lv.filter (fun q => !(q.1 == i) && !(q.1 + 1 == i && q.2.category == 2)) = lv') (k : Sim l G lev M fin (pc + 1) lv' st h r) : Sim l G lev M fin pc lv (va_rf q :: st) h r := by
  cases q with
  | none => exact Sim.loc k fun a1 a2 hv w => lv_astore_nN a1 a2 hd hi hv hn (lv_sto1 hl) w
  | some a => exact Sim.loc k fun a1 a2 hv w => lv_astore_n a1 a2 hd hi hv hn (lv_sto1 hl) w
theorem S_qstore {i : Nat} {q : Option Nat} (lv' : List (Nat × Value)) (hd : decode M.2.1 pc = .ok (.astore i, 2)) (hn : i < M.2.2.1) (hl : (i, va_rf q) :: lv.filter (fun q => !(q.1 == i) && !(q.1 + 1 == i && q.2.category == 2)) = lv') (k : Sim l G lev M fin (pc + 2) lv' st h r) : Sim l G lev M fin pc lv (va_rf q :: st) h r := by
  cases q with
  | none => exact Sim.loc k fun a1 a2 hv w => lv_astoreN a1 a2 hd hv hn (lv_sto1 hl) w
  | some a => exact Sim.loc k fun a1 a2 hv w => lv_astore a1 a2 hd hv hn (lv_sto1 hl) w
theorem S_iinc {i : Nat} {n : Int} {x : Int32} (kk : Nat) (v : Int32) (lv' : List (Nat × Value)) (hd : decode M.2.1 pc = .ok (.iinc i n, 3)) (hk : lv[kk]? = some (i, .int x)) (hv : x + Int32.ofInt n = v) (hn : i < M.2.2.1) (hl : (i, Value.int v) :: lv.filter (fun q => !(q.1 == i) && !(q.1 + 1 == i && q.2.category == 2)) = lv') (k : Sim l G lev M fin (pc + 3) lv' st h r) : Sim l G lev M fin pc lv st h r := Sim.loc k fun a1 a2 hh w => lv_iinc (k := kk) a1 a2 hd hh (by rw [List.getElem?_map, hk]; rfl) hv hn (lv_sto1 hl) w
theorem S_if_eq {x : Int32} {off : Int} (tgt : Nat) {r1 r2 : Option ρ} (hd : decode M.2.1 pc = .ok (.ifCond .eq off, 3)) (ht : (pc : Int) + off = (tgt : Int)) (kt : x = 0 → Sim l G lev M fin tgt lv st h r1) (kf : ¬ (x = 0) → Sim l G lev M fin (pc + 3) lv st h r2) : Sim l G lev M fin pc lv (.int x :: st) h (if x = 0 then r1 else r2) := Sim.br kt kf fun a1 a2 wt wf => lv_if_eq a1 a2 hd ht wt wf
theorem S_if_ne {x : Int32} {off : Int} (tgt : Nat) {r1 r2 : Option ρ} (hd : decode M.2.1 pc = .ok (.ifCond .ne off, 3)) (ht : (pc : Int) + off = (tgt : Int)) (kt : ¬ x = 0 → Sim l G lev M fin tgt lv st h r1) (kf : x = 0 → Sim l G lev M fin (pc + 3) lv st h r2) : Sim l G lev M fin pc lv (.int x :: st) h (if x = 0 then r2 else r1) := Sim.br kf kt fun a1 a2 wf wt => lv_if_ne a1 a2 hd ht wt wf
theorem S_if_lt {x : Int32} {off : Int} (tgt : Nat) {r1 r2 : Option ρ} (hd : decode M.2.1 pc = .ok (.ifCond .lt off, 3)) (ht : (pc : Int) + off = (tgt : Int)) (kt : x < 0 → Sim l G lev M fin tgt lv st h r1) (kf : ¬ (x < 0) → Sim l G lev M fin (pc + 3) lv st h r2) : Sim l G lev M fin pc lv (.int x :: st) h (if x < 0 then r1 else r2) := Sim.br kt kf fun a1 a2 wt wf => lv_if_lt a1 a2 hd ht wt wf
theorem S_if_ge {x : Int32} {off : Int} (tgt : Nat) {r1 r2 : Option ρ} (hd : decode M.2.1 pc = .ok (.ifCond .ge off, 3)) (ht : (pc : Int) + off = (tgt : Int)) (kt : 0 ≤ x → Sim l G lev M fin tgt lv st h r1) (kf : ¬ (0 ≤ x) → Sim l G lev M fin (pc + 3) lv st h r2) : Sim l G lev M fin pc lv (.int x :: st) h (if 0 ≤ x then r1 else r2) := Sim.br kt kf fun a1 a2 wt wf => lv_if_ge a1 a2 hd ht wt wf
theorem S_if_gt {x : Int32} {off : Int} (tgt : Nat) {r1 r2 : Option ρ} (hd : decode M.2.1 pc = .ok (.ifCond .gt off, 3)) (ht : (pc : Int) + off = (tgt : Int)) (kt : 0 < x → Sim l G lev M fin tgt lv st h r1) (kf : ¬ (0 < x) → Sim l G lev M fin (pc + 3) lv st h r2) : Sim l G lev M fin pc lv (.int x :: st) h (if 0 < x then r1 else r2) := Sim.br kt kf fun a1 a2 wt wf => lv_if_gt a1 a2 hd ht wt wf
theorem S_if_le {x : Int32} {off : Int} (tgt : Nat) {r1 r2 : Option ρ} (hd : decode M.2.1 pc = .ok (.ifCond .le off, 3)) (ht : (pc : Int) + off = (tgt : Int)) (kt : x ≤ 0 → Sim l G lev M fin tgt lv st h r1) (kf : ¬ (x ≤ 0) → Sim l G lev M fin (pc + 3) lv st h r2) : Sim l G lev M fin pc lv (.int x :: st) h (if x ≤ 0 then r1 else r2) := Sim.br kt kf fun a1 a2 wt wf => lv_if_le a1 a2 hd ht wt wf
theorem S_icmp_eq {x y : Int32} {off : Int} (tgt : Nat) {r1 r2 : Option ρ} (hd : decode M.2.1 pc = .ok (.if_icmp .eq off, 3)) (ht : (pc : Int) + off = (tgt : Int)) (kt : x = y → Sim l G lev M fin tgt lv st h r1) (kf : ¬ (x = y) → Sim l G lev M fin (pc + 3) lv st h r2) : Sim l G lev M fin pc lv (.int y :: .int x :: st) h (if x = y then r1 else r2) := Sim.br kt kf fun a1 a2 wt wf => lv_icmp_eq a1 a2 hd ht wt wf
theorem S_icmp_ne {x y : Int32} {off : Int} (tgt : Nat) {r1 r2 : Option ρ} (hd : decode M.2.1 pc = .ok (.if_icmp .ne off, 3)) (ht : (pc : Int) + off = (tgt : Int)) (kt : ¬ x = y → Sim l G lev M fin tgt lv st h r1) (kf : x = y → Sim l G lev M fin (pc + 3) lv st h r2) : Sim l G lev M fin pc lv (.int y :: .int x :: st) h (if x = y then r2 else r1) := Sim.br kf kt fun a1 a2 wf wt => lv_icmp_ne a1 a2 hd ht wt wf
theorem S_icmp_lt {x y : Int32} {off : Int} (tgt : Nat) {r1 r2 : Option ρ} (hd : decode M.2.1 pc = .ok (.if_icmp .lt off, 3)) (ht : (pc : Int) + off = (tgt : Int)) (kt : x < y → Sim l G lev M fin tgt lv st h r1) (kf : ¬ (x < y) → Sim l G lev M fin (pc + 3) lv st h r2) : Sim l G lev M fin pc lv (.int y :: .int x :: st) h (if x < y then r1 else r2) := Sim.br kt kf fun a1 a2 wt wf => lv_icmp_lt a1 a2 hd ht wt wf
theorem S_icmp_ge {x y : Int32} {off : Int} (tgt : Nat) {r1 r2 : Option ρ} (hd : decode M.2.1 pc = .ok (.if_icmp .ge off, 3)) (ht : (pc : Int) + off = (tgt : Int)) (kt : y ≤ x → Sim l G lev M fin tgt lv st h r1) (kf : ¬ (y ≤ x) → Sim l G lev M fin (pc + 3) lv st h r2) : Sim l G lev M fin pc lv (.int y :: .int x :: st) h (if y ≤ x then r1 else r2) := Sim.br kt kf fun a1 a2 wt wf => lv_icmp_ge a1 a2 hd ht wt wf
theorem S_icmp_gt {x y : Int32} {off : Int} (tgt : Nat) {r1 r2 : Option ρ} (hd : decode M.2.1 pc = .ok (.if_icmp .gt off, 3)) (ht : (pc : Int) + off = (tgt : Int)) (kt : y < x → Sim l G lev M fin tgt lv st h r1) (kf : ¬ (y < x) → Sim l G lev M fin (pc + 3) lv st h r2) : Sim l G lev M fin pc lv (.int y :: .int x :: st) h (if y < x then r1 else r2) := Sim.br kt kf fun a1 a2 wt wf => lv_icmp_gt a1 a2 hd ht wt wf
theorem S_icmp_le {x y : Int32} {off : Int} (tgt : Nat) {r1 r2 : Option ρ} (hd : decode M.2.1 pc = .ok (.if_icmp .le off, 3)) (ht : (pc : Int) + off = (tgt : Int)) (kt : x ≤ y → Sim l G lev M fin tgt lv st h r1) (kf : ¬ (x ≤ y) → Sim l G lev M fin (pc + 3) lv st h r2) : Sim l G lev M fin pc lv (.int y :: .int x :: st) h (if x ≤ y then r1 else r2) := Sim.br kt kf fun a1 a2 wt wf => lv_icmp_le a1 a2 hd ht wt wf
end BASE
end
section
theorem zz_last : True := trivial
end
