/-! printed by wip/whole/emit2.py: contracts of the throwing methods; words -/
theorem sx_X5_append {l : Launch} {G : Gx} (hs : l.stackTraces = false) (o : Nat) (p1 : Int32) (p2 : Int32) (p3 : Int32) (p4 : Int32) (p5 : Int32) (h : Hp) : ∀ x, m_X5_append o p1 p2 p3 p4 p5 h = some x → SX l G 1 M_X5_append [.ref o, .int p1, .int p2, .int p3, .int p4, .int p5] h (finX x) := fun x e => SX.of K_X5_append hs rfl (Nat.le_of_ble_eq_true rfl) (ss_X5_append hs o p1 p2 p3 p4 p5 h) e
theorem sx_X5_load {l : Launch} {G : Gx} (hs : l.stackTraces = false) (o : Nat) (p1 : Int32) (h : Hp) : ∀ x, m_X5_load o p1 h = some x → SX l G 13 M_X5_load [.ref o, .int p1] h (finX x) := fun x e => SX.of K_X5_load hs rfl (Nat.le_of_ble_eq_true rfl) (ss_X5_load hs o p1 h) e
theorem sx_X5_count {l : Launch} {G : Gx} (hs : l.stackTraces = false) (o : Nat) (p1 : Int32) (h : Hp) : ∀ x, m_X5_count o p1 h = some x → SX l G 6 M_X5_count [.ref o, .int p1] h (finX x) := fun x e => SX.of K_X5_count hs rfl (Nat.le_of_ble_eq_true rfl) (ss_X5_count hs o p1 h) e
theorem sx_X5_vertex {l : Launch} {G : Gx} (hs : l.stackTraces = false) (o : Nat) (p1 : Int32) (p2 : Int32) (h : Hp) : ∀ x, m_X5_vertex o p1 p2 h = some x → SX l G 4 M_X5_vertex [.ref o, .int p1, .int p2] h (finX x) := fun x e => SX.of K_X5_vertex hs rfl (Nat.le_of_ble_eq_true rfl) (ss_X5_vertex hs o p1 p2 h) e
theorem sx_X5_reason {l : Launch} {G : Gx} (hs : l.stackTraces = false) (o : Nat) (p1 : Int32) (p2 : Int32) (h : Hp) : ∀ x, m_X5_reason o p1 p2 h = some x → SX l G 3 M_X5_reason [.ref o, .int p1, .int p2] h (finX x) := fun x e => SX.of K_X5_reason hs rfl (Nat.le_of_ble_eq_true rfl) (ss_X5_reason hs o p1 p2 h) e
theorem sx_X5_part {l : Launch} {G : Gx} (hs : l.stackTraces = false) (o : Nat) (p1 : Int32) (p2 : Int32) (h : Hp) : ∀ x, m_X5_part o p1 p2 h = some x → SX l G 184 M_X5_part [.ref o, .int p1, .int p2] h (finX x) := fun x e => SX.of K_X5_part hs rfl (Nat.le_of_ble_eq_true rfl) (ss_X5_part hs o p1 p2 h) e
theorem sx_X5_valueIf {l : Launch} {G : Gx} (hs : l.stackTraces = false) (o : Nat) (p1 : Int32) (p2 : Int32) (h : Hp) : ∀ x, m_X5_valueIf o p1 p2 h = some x → SX l G 185 M_X5_valueIf [.ref o, .int p1, .int p2] h (finX x) := fun x e => SX.of K_X5_valueIf hs rfl (Nat.le_of_ble_eq_true rfl) (ss_X5_valueIf hs o p1 p2 h) e
theorem sx_X5_bestMove {l : Launch} {G : Gx} (hs : l.stackTraces = false) (o : Nat) (h : Hp) : ∀ x, m_X5_bestMove o h = some x → SX l G 186 M_X5_bestMove [.ref o] h (finX x) := fun x e => SX.of K_X5_bestMove hs rfl (Nat.le_of_ble_eq_true rfl) (ss_X5_bestMove hs o h) e
theorem sx_X5_winningColours {l : Launch} {G : Gx} (hs : l.stackTraces = false) (o : Nat) (p1 : Int32) (h : Hp) : ∀ x, m_X5_winningColours o p1 h = some x → SX l G 186 M_X5_winningColours [.ref o, .int p1] h (finX x) := fun x e => SX.of K_X5_winningColours hs rfl (Nat.le_of_ble_eq_true rfl) (ss_X5_winningColours hs o p1 h) e
theorem sx_X5_falls {l : Launch} {G : Gx} (hs : l.stackTraces = false) (o : Nat) (p1 : Int32) (h : Hp) : ∀ x, m_X5_falls o p1 h = some x → SX l G 3 M_X5_falls [.ref o, .int p1] h (finX x) := fun x e => SX.of K_X5_falls hs rfl (Nat.le_of_ble_eq_true rfl) (ss_X5_falls hs o p1 h) e
theorem sx_X5_valueWithout {l : Launch} {G : Gx} (hs : l.stackTraces = false) (o : Nat) (p1 : Int32) (h : Hp) : ∀ x, m_X5_valueWithout o p1 h = some x → SX l G 185 M_X5_valueWithout [.ref o, .int p1] h (finX x) := fun x e => SX.of K_X5_valueWithout hs rfl (Nat.le_of_ble_eq_true rfl) (ss_X5_valueWithout hs o p1 h) e
theorem sx_X5_lay {l : Launch} {G : Gx} (hs : l.stackTraces = false) (o : Nat) (p1 : Int32) (p2 : Int32) (h : Hp) : ∀ x, m_X5_lay o p1 p2 h = some x → SX l G 4 M_X5_lay [.ref o, .int p1, .int p2] h (finX x) := fun x e => SX.of K_X5_lay hs rfl (Nat.le_of_ble_eq_true rfl) (ss_X5_lay hs o p1 p2 h) e
theorem sx_X5_pass {l : Launch} {G : Gx} (hs : l.stackTraces = false) (o : Nat) (h : Hp) : ∀ x, m_X5_pass o h = some x → SX l G 4 M_X5_pass [.ref o] h (finX x) := fun x e => SX.of K_X5_pass hs rfl (Nat.le_of_ble_eq_true rfl) (ss_X5_pass hs o h) e
theorem sx_X5_playOut {l : Launch} {G : Gx} (hs : l.stackTraces = false) (o : Nat) (p1 : Int32) (h : Hp) : ∀ x, m_X5_playOut o p1 h = some x → SX l G 186 M_X5_playOut [.ref o, .int p1] h (finX x) := fun x e => SX.of K_X5_playOut hs rfl (Nat.le_of_ble_eq_true rfl) (ss_X5_playOut hs o p1 h) e
theorem sx_X5_setPasses {l : Launch} {G : Gx} (hs : l.stackTraces = false) (o : Nat) (p1 : Int32) (h : Hp) : ∀ x, m_X5_setPasses o p1 h = some x → SX l G 4 M_X5_setPasses [.ref o, .int p1] h (finX x) := fun x e => SX.of K_X5_setPasses hs rfl (Nat.le_of_ble_eq_true rfl) (ss_X5_setPasses hs o p1 h) e
theorem sx_X5_move {l : Launch} {G : Gx} (hs : l.stackTraces = false) (o : Nat) (p1 : Int32) (p2 : Int32) (h : Hp) : ∀ x, m_X5_move o p1 p2 h = some x → SX l G 1 M_X5_move [.ref o, .int p1, .int p2] h (finX x) := fun x e => SX.of K_X5_move hs rfl (Nat.le_of_ble_eq_true rfl) (ss_X5_move hs o p1 p2 h) e
theorem sx_X5_account {l : Launch} {G : Gx} (hs : l.stackTraces = false) (o : Nat) (p1 : Int32) (p2 : Int32) (h : Hp) : ∀ x, m_X5_account o p1 p2 h = some x → SX l G 2 M_X5_account [.ref o, .int p1, .int p2] h (finX x) := fun x e => SX.of K_X5_account hs rfl (Nat.le_of_ble_eq_true rfl) (ss_X5_account hs o p1 p2 h) e
theorem sx_X5_writtenByte {l : Launch} {G : Gx} (hs : l.stackTraces = false) (o : Nat) (p1 : Int32) (h : Hp) : ∀ x, m_X5_writtenByte o p1 h = some x → SX l G 0 M_X5_writtenByte [.ref o, .int p1] h (finX x) := fun x e => SX.of K_X5_writtenByte hs rfl (Nat.le_of_ble_eq_true rfl) (ss_X5_writtenByte hs o p1 h) e
theorem sx_X5_undo {l : Launch} {G : Gx} (hs : l.stackTraces = false) (o : Nat) (h : Hp) : ∀ x, m_X5_undo o h = some x → SX l G 3 M_X5_undo [.ref o] h (finX x) := fun x e => SX.of K_X5_undo hs rfl (Nat.le_of_ble_eq_true rfl) (ss_X5_undo hs o h) e
theorem sx_X5_save {l : Launch} {G : Gx} (hs : l.stackTraces = false) (o : Nat) (p1 : Int32) (h : Hp) : ∀ x, m_X5_save o p1 h = some x → SX l G 3 M_X5_save [.ref o, .int p1] h (finX x) := fun x e => SX.of K_X5_save hs rfl (Nat.le_of_ble_eq_true rfl) (ss_X5_save hs o p1 h) e
theorem sx_X5_restore {l : Launch} {G : Gx} (hs : l.stackTraces = false) (o : Nat) (p1 : Int32) (h : Hp) : ∀ x, m_X5_restore o p1 h = some x → SX l G 4 M_X5_restore [.ref o, .int p1] h (finX x) := fun x e => SX.of K_X5_restore hs rfl (Nat.le_of_ble_eq_true rfl) (ss_X5_restore hs o p1 h) e
theorem kw_81 : Cond.initialized "ColourDuelLaw" ∈ Tb := tb_of (i := 81) (by decide +kernel) rfl
theorem kw_102 : Cond.classLink "ColourDuelLaw" 8 "ColourDuel" ∈ Tb := tb_of (i := 102) (by decide +kernel) rfl
theorem kw_103 : Cond.instantiable "ColourDuel" 8 ∈ Tb := tb_of (i := 103) (by decide +kernel) rfl
theorem kw_104 : Cond.methodLink "ColourDuelLaw" 84 ⟨"ColourDuel", "<init>", "()V"⟩ ∈ Tb := tb_of (i := 104) (by decide +kernel) rfl
theorem kw_105 : Cond.instanceMethod ⟨"ColourDuel", "<init>", "()V"⟩ ∈ Tb := tb_of (i := 105) (by decide +kernel) rfl
theorem kw_267 : Cond.methodLink "ColourDuelLaw" 101 ⟨"ColourDuel", "errorPosition", "()I"⟩ ∈ Tb := tb_of (i := 267) (by decide +kernel) rfl
theorem kw_268 : Cond.instanceMethod ⟨"ColourDuel", "errorPosition", "()I"⟩ ∈ Tb := tb_of (i := 268) (by decide +kernel) rfl
theorem kw_269 : Cond.selects "ColourDuel" ⟨"ColourDuel", "errorPosition", "()I"⟩ ⟨"ColourDuel", "errorPosition", "()I"⟩ ∈ Tb := tb_of (i := 269) (by decide +kernel) rfl
theorem kw_271 : Cond.methodLink "ColourDuelLaw" 118 ⟨"ColourDuel", "value", "()I"⟩ ∈ Tb := tb_of (i := 271) (by decide +kernel) rfl
theorem kw_272 : Cond.instanceMethod ⟨"ColourDuel", "value", "()I"⟩ ∈ Tb := tb_of (i := 272) (by decide +kernel) rfl
theorem kw_273 : Cond.selects "ColourDuel" ⟨"ColourDuel", "value", "()I"⟩ ⟨"ColourDuel", "value", "()I"⟩ ∈ Tb := tb_of (i := 273) (by decide +kernel) rfl
theorem kw_366 : Cond.methodLink "ColourDuelLaw" 125 ⟨"ColourDuel", "winningMoves", "()I"⟩ ∈ Tb := tb_of (i := 366) (by decide +kernel) rfl
theorem kw_367 : Cond.instanceMethod ⟨"ColourDuel", "winningMoves", "()I"⟩ ∈ Tb := tb_of (i := 367) (by decide +kernel) rfl
theorem kw_368 : Cond.selects "ColourDuel" ⟨"ColourDuel", "winningMoves", "()I"⟩ ⟨"ColourDuel", "winningMoves", "()I"⟩ ∈ Tb := tb_of (i := 368) (by decide +kernel) rfl
theorem kw_403 : Cond.methodLink "ColourDuelLaw" 133 ⟨"ColourDuel", "longest", "()I"⟩ ∈ Tb := tb_of (i := 403) (by decide +kernel) rfl
theorem kw_408 : Cond.methodLink "ColourDuelLaw" 137 ⟨"ColourDuel", "shortest", "()I"⟩ ∈ Tb := tb_of (i := 408) (by decide +kernel) rfl
theorem kw_409 : Cond.instanceMethod ⟨"ColourDuel", "shortest", "()I"⟩ ∈ Tb := tb_of (i := 409) (by decide +kernel) rfl
theorem kw_410 : Cond.selects "ColourDuel" ⟨"ColourDuel", "shortest", "()I"⟩ ⟨"ColourDuel", "shortest", "()I"⟩ ∈ Tb := tb_of (i := 410) (by decide +kernel) rfl
theorem kw_413 : Cond.methodLink "ColourDuelLaw" 141 ⟨"ColourDuel", "meanValue", "()F"⟩ ∈ Tb := tb_of (i := 413) (by decide +kernel) rfl
theorem kw_414 : Cond.instanceMethod ⟨"ColourDuel", "meanValue", "()F"⟩ ∈ Tb := tb_of (i := 414) (by decide +kernel) rfl
theorem kw_415 : Cond.selects "ColourDuel" ⟨"ColourDuel", "meanValue", "()F"⟩ ⟨"ColourDuel", "meanValue", "()F"⟩ ∈ Tb := tb_of (i := 415) (by decide +kernel) rfl
theorem kw_425 : Cond.methodLink "ColourDuelLaw" 173 ⟨"ColourDuel", "writeBoard", "()I"⟩ ∈ Tb := tb_of (i := 425) (by decide +kernel) rfl
theorem kw_426 : Cond.instanceMethod ⟨"ColourDuel", "writeBoard", "()I"⟩ ∈ Tb := tb_of (i := 426) (by decide +kernel) rfl
theorem kw_427 : Cond.selects "ColourDuel" ⟨"ColourDuel", "writeBoard", "()I"⟩ ⟨"ColourDuel", "writeBoard", "()I"⟩ ∈ Tb := tb_of (i := 427) (by decide +kernel) rfl
theorem kw_447 : Cond.methodLink "ColourDuelLaw" 88 ⟨"ColourDuelLaw", "append", "(LColourDuel;IIIII[J)I"⟩ ∈ Tb := tb_of (i := 447) (by decide +kernel) rfl
theorem kw_448 : Cond.static ⟨"ColourDuelLaw", "append", "(LColourDuel;IIIII[J)I"⟩ ∈ Tb := tb_of (i := 448) (by decide +kernel) rfl
theorem kw_449 : Cond.codeWith ⟨"ColourDuelLaw", "append", "(LColourDuel;IIIII[J)I"⟩ method_3_code 8 (Option.some FieldType.int) [(0, 16, 19, 13)] ∈ Tb := tb_of (i := 449) (by decide +kernel) rfl
theorem kw_450 : Cond.classLink "ColourDuelLaw" 13 "java/lang/IllegalStateException" ∈ Tb := tb_of (i := 450) (by decide +kernel) rfl
theorem kw_451 : Cond.methodLink "ColourDuelLaw" 7 ⟨"ColourDuel", "append", "(IIIII)I"⟩ ∈ Tb := tb_of (i := 451) (by decide +kernel) rfl
theorem kw_452 : Cond.instanceMethod ⟨"ColourDuel", "append", "(IIIII)I"⟩ ∈ Tb := tb_of (i := 452) (by decide +kernel) rfl
theorem kw_453 : Cond.selects "ColourDuel" ⟨"ColourDuel", "append", "(IIIII)I"⟩ ⟨"ColourDuel", "append", "(IIIII)I"⟩ ∈ Tb := tb_of (i := 453) (by decide +kernel) rfl
theorem kn_457 : Cond.castable "java/lang/IllegalStateException" "java/lang/IllegalStateException" ∈ lw_tbl := tn_of (i := 457) (by decide +kernel)
theorem kw_527 : Cond.methodLink "ColourDuelLaw" 97 ⟨"ColourDuelLaw", "load", "(LColourDuel;I[J)I"⟩ ∈ Tb := tb_of (i := 527) (by decide +kernel) rfl
theorem kw_528 : Cond.static ⟨"ColourDuelLaw", "load", "(LColourDuel;I[J)I"⟩ ∈ Tb := tb_of (i := 528) (by decide +kernel) rfl
theorem kw_529 : Cond.codeWith ⟨"ColourDuelLaw", "load", "(LColourDuel;I[J)I"⟩ method_4_code 4 (Option.some FieldType.int) [(0, 9, 12, 19)] ∈ Tb := tb_of (i := 529) (by decide +kernel) rfl
theorem kw_530 : Cond.classLink "ColourDuelLaw" 19 "java/lang/IllegalArgumentException" ∈ Tb := tb_of (i := 530) (by decide +kernel) rfl
theorem kw_531 : Cond.methodLink "ColourDuelLaw" 15 ⟨"ColourDuel", "load", "(I)I"⟩ ∈ Tb := tb_of (i := 531) (by decide +kernel) rfl
theorem kw_532 : Cond.instanceMethod ⟨"ColourDuel", "load", "(I)I"⟩ ∈ Tb := tb_of (i := 532) (by decide +kernel) rfl
theorem kw_533 : Cond.selects "ColourDuel" ⟨"ColourDuel", "load", "(I)I"⟩ ⟨"ColourDuel", "load", "(I)I"⟩ ∈ Tb := tb_of (i := 533) (by decide +kernel) rfl
theorem kn_537 : Cond.castable "java/lang/IllegalArgumentException" "java/lang/IllegalArgumentException" ∈ lw_tbl := tn_of (i := 537) (by decide +kernel)
theorem kw_764 : Cond.methodLink "ColourDuelLaw" 105 ⟨"ColourDuelLaw", "count", "(LColourDuel;I[J)I"⟩ ∈ Tb := tb_of (i := 764) (by decide +kernel) rfl
theorem kw_765 : Cond.static ⟨"ColourDuelLaw", "count", "(LColourDuel;I[J)I"⟩ ∈ Tb := tb_of (i := 765) (by decide +kernel) rfl
theorem kw_766 : Cond.codeWith ⟨"ColourDuelLaw", "count", "(LColourDuel;I[J)I"⟩ method_5_code 4 (Option.some FieldType.int) [(0, 9, 12, 19)] ∈ Tb := tb_of (i := 766) (by decide +kernel) rfl
theorem kw_767 : Cond.methodLink "ColourDuelLaw" 21 ⟨"ColourDuel", "count", "(I)I"⟩ ∈ Tb := tb_of (i := 767) (by decide +kernel) rfl
theorem kw_768 : Cond.instanceMethod ⟨"ColourDuel", "count", "(I)I"⟩ ∈ Tb := tb_of (i := 768) (by decide +kernel) rfl
theorem kw_769 : Cond.selects "ColourDuel" ⟨"ColourDuel", "count", "(I)I"⟩ ⟨"ColourDuel", "count", "(I)I"⟩ ∈ Tb := tb_of (i := 769) (by decide +kernel) rfl
theorem kw_794 : Cond.methodLink "ColourDuelLaw" 108 ⟨"ColourDuelLaw", "vertex", "(LColourDuel;II[J)I"⟩ ∈ Tb := tb_of (i := 794) (by decide +kernel) rfl
theorem kw_795 : Cond.static ⟨"ColourDuelLaw", "vertex", "(LColourDuel;II[J)I"⟩ ∈ Tb := tb_of (i := 795) (by decide +kernel) rfl
theorem kw_796 : Cond.codeWith ⟨"ColourDuelLaw", "vertex", "(LColourDuel;II[J)I"⟩ method_6_code 5 (Option.some FieldType.int) [(0, 10, 13, 28), (0, 10, 17, 19)] ∈ Tb := tb_of (i := 796) (by decide +kernel) rfl
theorem kw_797 : Cond.classLink "ColourDuelLaw" 28 "java/lang/IndexOutOfBoundsException" ∈ Tb := tb_of (i := 797) (by decide +kernel) rfl
theorem kw_798 : Cond.methodLink "ColourDuelLaw" 24 ⟨"ColourDuel", "vertex", "(II)I"⟩ ∈ Tb := tb_of (i := 798) (by decide +kernel) rfl
theorem kw_799 : Cond.instanceMethod ⟨"ColourDuel", "vertex", "(II)I"⟩ ∈ Tb := tb_of (i := 799) (by decide +kernel) rfl
theorem kw_800 : Cond.selects "ColourDuel" ⟨"ColourDuel", "vertex", "(II)I"⟩ ⟨"ColourDuel", "vertex", "(II)I"⟩ ∈ Tb := tb_of (i := 800) (by decide +kernel) rfl
theorem kn_808 : Cond.castable "java/lang/IndexOutOfBoundsException" "java/lang/IndexOutOfBoundsException" ∈ lw_tbl := tn_of (i := 808) (by decide +kernel)
theorem kw_833 : Cond.methodLink "ColourDuelLaw" 112 ⟨"ColourDuelLaw", "reason", "(LColourDuel;II[J)I"⟩ ∈ Tb := tb_of (i := 833) (by decide +kernel) rfl
theorem kw_834 : Cond.static ⟨"ColourDuelLaw", "reason", "(LColourDuel;II[J)I"⟩ ∈ Tb := tb_of (i := 834) (by decide +kernel) rfl
theorem kw_835 : Cond.codeWith ⟨"ColourDuelLaw", "reason", "(LColourDuel;II[J)I"⟩ method_7_code 5 (Option.some FieldType.int) [(0, 10, 13, 28)] ∈ Tb := tb_of (i := 835) (by decide +kernel) rfl
theorem kw_836 : Cond.methodLink "ColourDuelLaw" 30 ⟨"ColourDuel", "reason", "(II)I"⟩ ∈ Tb := tb_of (i := 836) (by decide +kernel) rfl
theorem kw_837 : Cond.instanceMethod ⟨"ColourDuel", "reason", "(II)I"⟩ ∈ Tb := tb_of (i := 837) (by decide +kernel) rfl
theorem kw_838 : Cond.selects "ColourDuel" ⟨"ColourDuel", "reason", "(II)I"⟩ ⟨"ColourDuel", "reason", "(II)I"⟩ ∈ Tb := tb_of (i := 838) (by decide +kernel) rfl
theorem kw_847 : Cond.methodLink "ColourDuelLaw" 115 ⟨"ColourDuelLaw", "part", "(LColourDuel;II[J)I"⟩ ∈ Tb := tb_of (i := 847) (by decide +kernel) rfl
theorem kw_848 : Cond.static ⟨"ColourDuelLaw", "part", "(LColourDuel;II[J)I"⟩ ∈ Tb := tb_of (i := 848) (by decide +kernel) rfl
theorem kw_849 : Cond.codeWith ⟨"ColourDuelLaw", "part", "(LColourDuel;II[J)I"⟩ method_8_code 5 (Option.some FieldType.int) [(0, 10, 13, 28), (0, 10, 17, 19)] ∈ Tb := tb_of (i := 849) (by decide +kernel) rfl
theorem kw_850 : Cond.methodLink "ColourDuelLaw" 33 ⟨"ColourDuel", "part", "(II)I"⟩ ∈ Tb := tb_of (i := 850) (by decide +kernel) rfl
theorem kw_851 : Cond.instanceMethod ⟨"ColourDuel", "part", "(II)I"⟩ ∈ Tb := tb_of (i := 851) (by decide +kernel) rfl
theorem kw_852 : Cond.selects "ColourDuel" ⟨"ColourDuel", "part", "(II)I"⟩ ⟨"ColourDuel", "part", "(II)I"⟩ ∈ Tb := tb_of (i := 852) (by decide +kernel) rfl
theorem kw_858 : Cond.methodLink "ColourDuelLaw" 122 ⟨"ColourDuelLaw", "valueIf", "(LColourDuel;II[J)I"⟩ ∈ Tb := tb_of (i := 858) (by decide +kernel) rfl
theorem kw_859 : Cond.static ⟨"ColourDuelLaw", "valueIf", "(LColourDuel;II[J)I"⟩ ∈ Tb := tb_of (i := 859) (by decide +kernel) rfl
theorem kw_860 : Cond.codeWith ⟨"ColourDuelLaw", "valueIf", "(LColourDuel;II[J)I"⟩ method_9_code 5 (Option.some FieldType.int) [(0, 10, 13, 28), (0, 10, 17, 39)] ∈ Tb := tb_of (i := 860) (by decide +kernel) rfl
theorem kw_861 : Cond.classLink "ColourDuelLaw" 39 "java/util/NoSuchElementException" ∈ Tb := tb_of (i := 861) (by decide +kernel) rfl
theorem kw_862 : Cond.methodLink "ColourDuelLaw" 36 ⟨"ColourDuel", "valueIf", "(II)I"⟩ ∈ Tb := tb_of (i := 862) (by decide +kernel) rfl
theorem kw_863 : Cond.instanceMethod ⟨"ColourDuel", "valueIf", "(II)I"⟩ ∈ Tb := tb_of (i := 863) (by decide +kernel) rfl
theorem kw_864 : Cond.selects "ColourDuel" ⟨"ColourDuel", "valueIf", "(II)I"⟩ ⟨"ColourDuel", "valueIf", "(II)I"⟩ ∈ Tb := tb_of (i := 864) (by decide +kernel) rfl
theorem kn_868 : Cond.castable "java/util/NoSuchElementException" "java/util/NoSuchElementException" ∈ lw_tbl := tn_of (i := 868) (by decide +kernel)
theorem kw_882 : Cond.methodLink "ColourDuelLaw" 129 ⟨"ColourDuelLaw", "bestMove", "(LColourDuel;[J)I"⟩ ∈ Tb := tb_of (i := 882) (by decide +kernel) rfl
theorem kw_883 : Cond.static ⟨"ColourDuelLaw", "bestMove", "(LColourDuel;[J)I"⟩ ∈ Tb := tb_of (i := 883) (by decide +kernel) rfl
theorem kw_884 : Cond.codeWith ⟨"ColourDuelLaw", "bestMove", "(LColourDuel;[J)I"⟩ method_10_code 3 (Option.some FieldType.int) [(0, 8, 11, 39)] ∈ Tb := tb_of (i := 884) (by decide +kernel) rfl
theorem kw_885 : Cond.methodLink "ColourDuelLaw" 41 ⟨"ColourDuel", "bestMove", "()I"⟩ ∈ Tb := tb_of (i := 885) (by decide +kernel) rfl
theorem kw_886 : Cond.instanceMethod ⟨"ColourDuel", "bestMove", "()I"⟩ ∈ Tb := tb_of (i := 886) (by decide +kernel) rfl
theorem kw_887 : Cond.selects "ColourDuel" ⟨"ColourDuel", "bestMove", "()I"⟩ ⟨"ColourDuel", "bestMove", "()I"⟩ ∈ Tb := tb_of (i := 887) (by decide +kernel) rfl
theorem kw_895 : Cond.methodLink "ColourDuelLaw" 146 ⟨"ColourDuelLaw", "winningColours", "(LColourDuel;I[J)I"⟩ ∈ Tb := tb_of (i := 895) (by decide +kernel) rfl
theorem kw_896 : Cond.static ⟨"ColourDuelLaw", "winningColours", "(LColourDuel;I[J)I"⟩ ∈ Tb := tb_of (i := 896) (by decide +kernel) rfl
theorem kw_897 : Cond.codeWith ⟨"ColourDuelLaw", "winningColours", "(LColourDuel;I[J)I"⟩ method_11_code 4 (Option.some FieldType.int) [(0, 9, 12, 28)] ∈ Tb := tb_of (i := 897) (by decide +kernel) rfl
theorem kw_898 : Cond.methodLink "ColourDuelLaw" 45 ⟨"ColourDuel", "winningColours", "(I)I"⟩ ∈ Tb := tb_of (i := 898) (by decide +kernel) rfl
theorem kw_899 : Cond.instanceMethod ⟨"ColourDuel", "winningColours", "(I)I"⟩ ∈ Tb := tb_of (i := 899) (by decide +kernel) rfl
theorem kw_900 : Cond.selects "ColourDuel" ⟨"ColourDuel", "winningColours", "(I)I"⟩ ⟨"ColourDuel", "winningColours", "(I)I"⟩ ∈ Tb := tb_of (i := 900) (by decide +kernel) rfl
theorem kw_902 : Cond.methodLink "ColourDuelLaw" 149 ⟨"ColourDuelLaw", "falls", "(LColourDuel;I[J)I"⟩ ∈ Tb := tb_of (i := 902) (by decide +kernel) rfl
theorem kw_903 : Cond.static ⟨"ColourDuelLaw", "falls", "(LColourDuel;I[J)I"⟩ ∈ Tb := tb_of (i := 903) (by decide +kernel) rfl
theorem kw_904 : Cond.codeWith ⟨"ColourDuelLaw", "falls", "(LColourDuel;I[J)I"⟩ method_12_code 4 (Option.some FieldType.int) [(0, 9, 12, 28), (0, 9, 15, 39)] ∈ Tb := tb_of (i := 904) (by decide +kernel) rfl
theorem kw_905 : Cond.methodLink "ColourDuelLaw" 48 ⟨"ColourDuel", "falls", "(I)I"⟩ ∈ Tb := tb_of (i := 905) (by decide +kernel) rfl
theorem kw_906 : Cond.instanceMethod ⟨"ColourDuel", "falls", "(I)I"⟩ ∈ Tb := tb_of (i := 906) (by decide +kernel) rfl
theorem kw_907 : Cond.selects "ColourDuel" ⟨"ColourDuel", "falls", "(I)I"⟩ ⟨"ColourDuel", "falls", "(I)I"⟩ ∈ Tb := tb_of (i := 907) (by decide +kernel) rfl
theorem kw_911 : Cond.methodLink "ColourDuelLaw" 152 ⟨"ColourDuelLaw", "valueWithout", "(LColourDuel;I[J)I"⟩ ∈ Tb := tb_of (i := 911) (by decide +kernel) rfl
theorem kw_912 : Cond.static ⟨"ColourDuelLaw", "valueWithout", "(LColourDuel;I[J)I"⟩ ∈ Tb := tb_of (i := 912) (by decide +kernel) rfl
theorem kw_913 : Cond.codeWith ⟨"ColourDuelLaw", "valueWithout", "(LColourDuel;I[J)I"⟩ method_13_code 4 (Option.some FieldType.int) [(0, 9, 12, 28), (0, 9, 15, 39)] ∈ Tb := tb_of (i := 913) (by decide +kernel) rfl
theorem kw_914 : Cond.methodLink "ColourDuelLaw" 51 ⟨"ColourDuel", "valueWithout", "(I)I"⟩ ∈ Tb := tb_of (i := 914) (by decide +kernel) rfl
theorem kw_915 : Cond.instanceMethod ⟨"ColourDuel", "valueWithout", "(I)I"⟩ ∈ Tb := tb_of (i := 915) (by decide +kernel) rfl
theorem kw_916 : Cond.selects "ColourDuel" ⟨"ColourDuel", "valueWithout", "(I)I"⟩ ⟨"ColourDuel", "valueWithout", "(I)I"⟩ ∈ Tb := tb_of (i := 916) (by decide +kernel) rfl
theorem kw_922 : Cond.methodLink "ColourDuelLaw" 155 ⟨"ColourDuelLaw", "lay", "(LColourDuel;II[J)I"⟩ ∈ Tb := tb_of (i := 922) (by decide +kernel) rfl
theorem kw_923 : Cond.static ⟨"ColourDuelLaw", "lay", "(LColourDuel;II[J)I"⟩ ∈ Tb := tb_of (i := 923) (by decide +kernel) rfl
theorem kw_924 : Cond.codeWith ⟨"ColourDuelLaw", "lay", "(LColourDuel;II[J)I"⟩ method_14_code 5 (Option.some FieldType.int) [(0, 10, 13, 28), (0, 10, 17, 13)] ∈ Tb := tb_of (i := 924) (by decide +kernel) rfl
theorem kw_925 : Cond.methodLink "ColourDuelLaw" 54 ⟨"ColourDuel", "lay", "(II)I"⟩ ∈ Tb := tb_of (i := 925) (by decide +kernel) rfl
theorem kw_926 : Cond.instanceMethod ⟨"ColourDuel", "lay", "(II)I"⟩ ∈ Tb := tb_of (i := 926) (by decide +kernel) rfl
theorem kw_927 : Cond.selects "ColourDuel" ⟨"ColourDuel", "lay", "(II)I"⟩ ⟨"ColourDuel", "lay", "(II)I"⟩ ∈ Tb := tb_of (i := 927) (by decide +kernel) rfl
theorem kw_930 : Cond.methodLink "ColourDuelLaw" 158 ⟨"ColourDuelLaw", "pass", "(LColourDuel;[J)I"⟩ ∈ Tb := tb_of (i := 930) (by decide +kernel) rfl
theorem kw_931 : Cond.static ⟨"ColourDuelLaw", "pass", "(LColourDuel;[J)I"⟩ ∈ Tb := tb_of (i := 931) (by decide +kernel) rfl
theorem kw_932 : Cond.codeWith ⟨"ColourDuelLaw", "pass", "(LColourDuel;[J)I"⟩ method_15_code 3 (Option.some FieldType.int) [(0, 8, 11, 13)] ∈ Tb := tb_of (i := 932) (by decide +kernel) rfl
theorem kw_933 : Cond.methodLink "ColourDuelLaw" 57 ⟨"ColourDuel", "pass", "()I"⟩ ∈ Tb := tb_of (i := 933) (by decide +kernel) rfl
theorem kw_934 : Cond.instanceMethod ⟨"ColourDuel", "pass", "()I"⟩ ∈ Tb := tb_of (i := 934) (by decide +kernel) rfl
theorem kw_935 : Cond.selects "ColourDuel" ⟨"ColourDuel", "pass", "()I"⟩ ⟨"ColourDuel", "pass", "()I"⟩ ∈ Tb := tb_of (i := 935) (by decide +kernel) rfl
theorem kw_939 : Cond.methodLink "ColourDuelLaw" 161 ⟨"ColourDuelLaw", "playOut", "(LColourDuel;I[J)I"⟩ ∈ Tb := tb_of (i := 939) (by decide +kernel) rfl
theorem kw_940 : Cond.static ⟨"ColourDuelLaw", "playOut", "(LColourDuel;I[J)I"⟩ ∈ Tb := tb_of (i := 940) (by decide +kernel) rfl
theorem kw_941 : Cond.codeWith ⟨"ColourDuelLaw", "playOut", "(LColourDuel;I[J)I"⟩ method_16_code 4 (Option.some FieldType.int) [(0, 9, 12, 19)] ∈ Tb := tb_of (i := 941) (by decide +kernel) rfl
theorem kw_942 : Cond.methodLink "ColourDuelLaw" 60 ⟨"ColourDuel", "playOut", "(I)I"⟩ ∈ Tb := tb_of (i := 942) (by decide +kernel) rfl
theorem kw_943 : Cond.instanceMethod ⟨"ColourDuel", "playOut", "(I)I"⟩ ∈ Tb := tb_of (i := 943) (by decide +kernel) rfl
theorem kw_944 : Cond.selects "ColourDuel" ⟨"ColourDuel", "playOut", "(I)I"⟩ ⟨"ColourDuel", "playOut", "(I)I"⟩ ∈ Tb := tb_of (i := 944) (by decide +kernel) rfl
theorem kw_947 : Cond.methodLink "ColourDuelLaw" 164 ⟨"ColourDuelLaw", "setPasses", "(LColourDuel;I[J)I"⟩ ∈ Tb := tb_of (i := 947) (by decide +kernel) rfl
theorem kw_948 : Cond.static ⟨"ColourDuelLaw", "setPasses", "(LColourDuel;I[J)I"⟩ ∈ Tb := tb_of (i := 948) (by decide +kernel) rfl
theorem kw_949 : Cond.codeWith ⟨"ColourDuelLaw", "setPasses", "(LColourDuel;I[J)I"⟩ method_17_code 4 (Option.some FieldType.int) [(0, 9, 12, 19)] ∈ Tb := tb_of (i := 949) (by decide +kernel) rfl
theorem kw_950 : Cond.methodLink "ColourDuelLaw" 63 ⟨"ColourDuel", "setPasses", "(I)I"⟩ ∈ Tb := tb_of (i := 950) (by decide +kernel) rfl
theorem kw_951 : Cond.instanceMethod ⟨"ColourDuel", "setPasses", "(I)I"⟩ ∈ Tb := tb_of (i := 951) (by decide +kernel) rfl
theorem kw_952 : Cond.selects "ColourDuel" ⟨"ColourDuel", "setPasses", "(I)I"⟩ ⟨"ColourDuel", "setPasses", "(I)I"⟩ ∈ Tb := tb_of (i := 952) (by decide +kernel) rfl
theorem kw_955 : Cond.methodLink "ColourDuelLaw" 167 ⟨"ColourDuelLaw", "move", "(LColourDuel;II[J)I"⟩ ∈ Tb := tb_of (i := 955) (by decide +kernel) rfl
theorem kw_956 : Cond.static ⟨"ColourDuelLaw", "move", "(LColourDuel;II[J)I"⟩ ∈ Tb := tb_of (i := 956) (by decide +kernel) rfl
theorem kw_957 : Cond.codeWith ⟨"ColourDuelLaw", "move", "(LColourDuel;II[J)I"⟩ method_18_code 5 (Option.some FieldType.int) [(0, 10, 13, 28), (0, 10, 17, 19)] ∈ Tb := tb_of (i := 957) (by decide +kernel) rfl
theorem kw_958 : Cond.methodLink "ColourDuelLaw" 66 ⟨"ColourDuel", "move", "(II)I"⟩ ∈ Tb := tb_of (i := 958) (by decide +kernel) rfl
theorem kw_959 : Cond.instanceMethod ⟨"ColourDuel", "move", "(II)I"⟩ ∈ Tb := tb_of (i := 959) (by decide +kernel) rfl
theorem kw_960 : Cond.selects "ColourDuel" ⟨"ColourDuel", "move", "(II)I"⟩ ⟨"ColourDuel", "move", "(II)I"⟩ ∈ Tb := tb_of (i := 960) (by decide +kernel) rfl
theorem kw_968 : Cond.methodLink "ColourDuelLaw" 170 ⟨"ColourDuelLaw", "account", "(LColourDuel;II[J)I"⟩ ∈ Tb := tb_of (i := 968) (by decide +kernel) rfl
theorem kw_969 : Cond.static ⟨"ColourDuelLaw", "account", "(LColourDuel;II[J)I"⟩ ∈ Tb := tb_of (i := 969) (by decide +kernel) rfl
theorem kw_970 : Cond.codeWith ⟨"ColourDuelLaw", "account", "(LColourDuel;II[J)I"⟩ method_19_code 5 (Option.some FieldType.int) [(0, 10, 13, 28), (0, 10, 17, 19)] ∈ Tb := tb_of (i := 970) (by decide +kernel) rfl
theorem kw_971 : Cond.methodLink "ColourDuelLaw" 69 ⟨"ColourDuel", "account", "(II)I"⟩ ∈ Tb := tb_of (i := 971) (by decide +kernel) rfl
theorem kw_972 : Cond.instanceMethod ⟨"ColourDuel", "account", "(II)I"⟩ ∈ Tb := tb_of (i := 972) (by decide +kernel) rfl
theorem kw_973 : Cond.selects "ColourDuel" ⟨"ColourDuel", "account", "(II)I"⟩ ⟨"ColourDuel", "account", "(II)I"⟩ ∈ Tb := tb_of (i := 973) (by decide +kernel) rfl
theorem kw_989 : Cond.methodLink "ColourDuelLaw" 177 ⟨"ColourDuelLaw", "writtenByte", "(LColourDuel;I[J)I"⟩ ∈ Tb := tb_of (i := 989) (by decide +kernel) rfl
theorem kw_990 : Cond.static ⟨"ColourDuelLaw", "writtenByte", "(LColourDuel;I[J)I"⟩ ∈ Tb := tb_of (i := 990) (by decide +kernel) rfl
theorem kw_991 : Cond.codeWith ⟨"ColourDuelLaw", "writtenByte", "(LColourDuel;I[J)I"⟩ method_20_code 4 (Option.some FieldType.int) [(0, 9, 12, 28)] ∈ Tb := tb_of (i := 991) (by decide +kernel) rfl
theorem kw_992 : Cond.methodLink "ColourDuelLaw" 72 ⟨"ColourDuel", "writtenByte", "(I)I"⟩ ∈ Tb := tb_of (i := 992) (by decide +kernel) rfl
theorem kw_993 : Cond.instanceMethod ⟨"ColourDuel", "writtenByte", "(I)I"⟩ ∈ Tb := tb_of (i := 993) (by decide +kernel) rfl
theorem kw_994 : Cond.selects "ColourDuel" ⟨"ColourDuel", "writtenByte", "(I)I"⟩ ⟨"ColourDuel", "writtenByte", "(I)I"⟩ ∈ Tb := tb_of (i := 994) (by decide +kernel) rfl
theorem kw_997 : Cond.methodLink "ColourDuelLaw" 180 ⟨"ColourDuelLaw", "undo", "(LColourDuel;[J)I"⟩ ∈ Tb := tb_of (i := 997) (by decide +kernel) rfl
theorem kw_998 : Cond.static ⟨"ColourDuelLaw", "undo", "(LColourDuel;[J)I"⟩ ∈ Tb := tb_of (i := 998) (by decide +kernel) rfl
theorem kw_999 : Cond.codeWith ⟨"ColourDuelLaw", "undo", "(LColourDuel;[J)I"⟩ method_21_code 3 (Option.some FieldType.int) [(0, 8, 11, 13)] ∈ Tb := tb_of (i := 999) (by decide +kernel) rfl
theorem kw_1000 : Cond.methodLink "ColourDuelLaw" 75 ⟨"ColourDuel", "undo", "()I"⟩ ∈ Tb := tb_of (i := 1000) (by decide +kernel) rfl
theorem kw_1001 : Cond.instanceMethod ⟨"ColourDuel", "undo", "()I"⟩ ∈ Tb := tb_of (i := 1001) (by decide +kernel) rfl
theorem kw_1002 : Cond.selects "ColourDuel" ⟨"ColourDuel", "undo", "()I"⟩ ⟨"ColourDuel", "undo", "()I"⟩ ∈ Tb := tb_of (i := 1002) (by decide +kernel) rfl
theorem kw_1010 : Cond.methodLink "ColourDuelLaw" 183 ⟨"ColourDuelLaw", "save", "(LColourDuel;I[J)I"⟩ ∈ Tb := tb_of (i := 1010) (by decide +kernel) rfl
theorem kw_1011 : Cond.static ⟨"ColourDuelLaw", "save", "(LColourDuel;I[J)I"⟩ ∈ Tb := tb_of (i := 1011) (by decide +kernel) rfl
theorem kw_1012 : Cond.codeWith ⟨"ColourDuelLaw", "save", "(LColourDuel;I[J)I"⟩ method_22_code 4 (Option.some FieldType.int) [(0, 9, 12, 28)] ∈ Tb := tb_of (i := 1012) (by decide +kernel) rfl
theorem kw_1013 : Cond.methodLink "ColourDuelLaw" 78 ⟨"ColourDuel", "save", "(I)I"⟩ ∈ Tb := tb_of (i := 1013) (by decide +kernel) rfl
theorem kw_1014 : Cond.instanceMethod ⟨"ColourDuel", "save", "(I)I"⟩ ∈ Tb := tb_of (i := 1014) (by decide +kernel) rfl
theorem kw_1015 : Cond.selects "ColourDuel" ⟨"ColourDuel", "save", "(I)I"⟩ ⟨"ColourDuel", "save", "(I)I"⟩ ∈ Tb := tb_of (i := 1015) (by decide +kernel) rfl
theorem kw_1019 : Cond.methodLink "ColourDuelLaw" 186 ⟨"ColourDuelLaw", "restore", "(LColourDuel;I[J)I"⟩ ∈ Tb := tb_of (i := 1019) (by decide +kernel) rfl
theorem kw_1020 : Cond.static ⟨"ColourDuelLaw", "restore", "(LColourDuel;I[J)I"⟩ ∈ Tb := tb_of (i := 1020) (by decide +kernel) rfl
theorem kw_1021 : Cond.codeWith ⟨"ColourDuelLaw", "restore", "(LColourDuel;I[J)I"⟩ method_23_code 4 (Option.some FieldType.int) [(0, 9, 12, 28), (0, 9, 15, 13)] ∈ Tb := tb_of (i := 1021) (by decide +kernel) rfl
theorem kw_1022 : Cond.methodLink "ColourDuelLaw" 81 ⟨"ColourDuel", "restore", "(I)I"⟩ ∈ Tb := tb_of (i := 1022) (by decide +kernel) rfl
theorem kw_1023 : Cond.instanceMethod ⟨"ColourDuel", "restore", "(I)I"⟩ ∈ Tb := tb_of (i := 1023) (by decide +kernel) rfl
theorem kw_1024 : Cond.selects "ColourDuel" ⟨"ColourDuel", "restore", "(I)I"⟩ ⟨"ColourDuel", "restore", "(I)I"⟩ ∈ Tb := tb_of (i := 1024) (by decide +kernel) rfl
theorem kw_1027 : Cond.classLink "ColourDuelLaw" 85 "ColourDuelModel" ∈ Tb := tb_of (i := 1027) (by decide +kernel) rfl
theorem kw_1028 : Cond.instantiable "ColourDuelModel" 22 ∈ Tb := tb_of (i := 1028) (by decide +kernel) rfl
theorem kw_1029 : Cond.methodLink "ColourDuelLaw" 87 ⟨"ColourDuelModel", "<init>", "()V"⟩ ∈ Tb := tb_of (i := 1029) (by decide +kernel) rfl
theorem kw_1030 : Cond.instanceMethod ⟨"ColourDuelModel", "<init>", "()V"⟩ ∈ Tb := tb_of (i := 1030) (by decide +kernel) rfl
theorem kw_1103 : Cond.methodLink "ColourDuelLaw" 94 ⟨"ColourDuelModel", "thrown", "()I"⟩ ∈ Tb := tb_of (i := 1103) (by decide +kernel) rfl
theorem kw_1104 : Cond.instanceMethod ⟨"ColourDuelModel", "thrown", "()I"⟩ ∈ Tb := tb_of (i := 1104) (by decide +kernel) rfl
theorem kw_1105 : Cond.selects "ColourDuelModel" ⟨"ColourDuelModel", "thrown", "()I"⟩ ⟨"ColourDuelModel", "thrown", "()I"⟩ ∈ Tb := tb_of (i := 1105) (by decide +kernel) rfl
theorem kw_1107 : Cond.methodLink "ColourDuelLaw" 182 ⟨"ColourDuelModel", "undo", "()I"⟩ ∈ Tb := tb_of (i := 1107) (by decide +kernel) rfl
theorem kw_1108 : Cond.instanceMethod ⟨"ColourDuelModel", "undo", "()I"⟩ ∈ Tb := tb_of (i := 1108) (by decide +kernel) rfl
theorem kw_1109 : Cond.selects "ColourDuelModel" ⟨"ColourDuelModel", "undo", "()I"⟩ ⟨"ColourDuelModel", "undo", "()I"⟩ ∈ Tb := tb_of (i := 1109) (by decide +kernel) rfl
theorem kw_1114 : Cond.methodLink "ColourDuelLaw" 93 ⟨"ColourDuelModel", "append", "(IIIII)I"⟩ ∈ Tb := tb_of (i := 1114) (by decide +kernel) rfl
theorem kw_1115 : Cond.instanceMethod ⟨"ColourDuelModel", "append", "(IIIII)I"⟩ ∈ Tb := tb_of (i := 1115) (by decide +kernel) rfl
theorem kw_1116 : Cond.selects "ColourDuelModel" ⟨"ColourDuelModel", "append", "(IIIII)I"⟩ ⟨"ColourDuelModel", "append", "(IIIII)I"⟩ ∈ Tb := tb_of (i := 1116) (by decide +kernel) rfl
theorem kw_1118 : Cond.methodLink "ColourDuelLaw" 100 ⟨"ColourDuelModel", "load", "(I)I"⟩ ∈ Tb := tb_of (i := 1118) (by decide +kernel) rfl
theorem kw_1119 : Cond.instanceMethod ⟨"ColourDuelModel", "load", "(I)I"⟩ ∈ Tb := tb_of (i := 1119) (by decide +kernel) rfl
theorem kw_1120 : Cond.selects "ColourDuelModel" ⟨"ColourDuelModel", "load", "(I)I"⟩ ⟨"ColourDuelModel", "load", "(I)I"⟩ ∈ Tb := tb_of (i := 1120) (by decide +kernel) rfl
theorem kw_1259 : Cond.methodLink "ColourDuelLaw" 104 ⟨"ColourDuelModel", "errorPosition", "()I"⟩ ∈ Tb := tb_of (i := 1259) (by decide +kernel) rfl
theorem kw_1260 : Cond.instanceMethod ⟨"ColourDuelModel", "errorPosition", "()I"⟩ ∈ Tb := tb_of (i := 1260) (by decide +kernel) rfl
theorem kw_1261 : Cond.selects "ColourDuelModel" ⟨"ColourDuelModel", "errorPosition", "()I"⟩ ⟨"ColourDuelModel", "errorPosition", "()I"⟩ ∈ Tb := tb_of (i := 1261) (by decide +kernel) rfl
theorem kw_1263 : Cond.methodLink "ColourDuelLaw" 107 ⟨"ColourDuelModel", "count", "(I)I"⟩ ∈ Tb := tb_of (i := 1263) (by decide +kernel) rfl
theorem kw_1264 : Cond.instanceMethod ⟨"ColourDuelModel", "count", "(I)I"⟩ ∈ Tb := tb_of (i := 1264) (by decide +kernel) rfl
theorem kw_1265 : Cond.selects "ColourDuelModel" ⟨"ColourDuelModel", "count", "(I)I"⟩ ⟨"ColourDuelModel", "count", "(I)I"⟩ ∈ Tb := tb_of (i := 1265) (by decide +kernel) rfl
theorem kw_1283 : Cond.methodLink "ColourDuelLaw" 111 ⟨"ColourDuelModel", "vertex", "(II)I"⟩ ∈ Tb := tb_of (i := 1283) (by decide +kernel) rfl
theorem kw_1284 : Cond.instanceMethod ⟨"ColourDuelModel", "vertex", "(II)I"⟩ ∈ Tb := tb_of (i := 1284) (by decide +kernel) rfl
theorem kw_1285 : Cond.selects "ColourDuelModel" ⟨"ColourDuelModel", "vertex", "(II)I"⟩ ⟨"ColourDuelModel", "vertex", "(II)I"⟩ ∈ Tb := tb_of (i := 1285) (by decide +kernel) rfl
theorem kw_1295 : Cond.methodLink "ColourDuelLaw" 114 ⟨"ColourDuelModel", "reason", "(II)I"⟩ ∈ Tb := tb_of (i := 1295) (by decide +kernel) rfl
theorem kw_1296 : Cond.instanceMethod ⟨"ColourDuelModel", "reason", "(II)I"⟩ ∈ Tb := tb_of (i := 1296) (by decide +kernel) rfl
theorem kw_1297 : Cond.selects "ColourDuelModel" ⟨"ColourDuelModel", "reason", "(II)I"⟩ ⟨"ColourDuelModel", "reason", "(II)I"⟩ ∈ Tb := tb_of (i := 1297) (by decide +kernel) rfl
theorem kw_1303 : Cond.methodLink "ColourDuelLaw" 117 ⟨"ColourDuelModel", "part", "(II)I"⟩ ∈ Tb := tb_of (i := 1303) (by decide +kernel) rfl
theorem kw_1304 : Cond.instanceMethod ⟨"ColourDuelModel", "part", "(II)I"⟩ ∈ Tb := tb_of (i := 1304) (by decide +kernel) rfl
theorem kw_1305 : Cond.selects "ColourDuelModel" ⟨"ColourDuelModel", "part", "(II)I"⟩ ⟨"ColourDuelModel", "part", "(II)I"⟩ ∈ Tb := tb_of (i := 1305) (by decide +kernel) rfl
theorem kw_1335 : Cond.methodLink "ColourDuelLaw" 121 ⟨"ColourDuelModel", "value", "()I"⟩ ∈ Tb := tb_of (i := 1335) (by decide +kernel) rfl
theorem kw_1336 : Cond.instanceMethod ⟨"ColourDuelModel", "value", "()I"⟩ ∈ Tb := tb_of (i := 1336) (by decide +kernel) rfl
theorem kw_1337 : Cond.selects "ColourDuelModel" ⟨"ColourDuelModel", "value", "()I"⟩ ⟨"ColourDuelModel", "value", "()I"⟩ ∈ Tb := tb_of (i := 1337) (by decide +kernel) rfl
theorem kw_1347 : Cond.methodLink "ColourDuelLaw" 124 ⟨"ColourDuelModel", "valueIf", "(II)I"⟩ ∈ Tb := tb_of (i := 1347) (by decide +kernel) rfl
theorem kw_1348 : Cond.instanceMethod ⟨"ColourDuelModel", "valueIf", "(II)I"⟩ ∈ Tb := tb_of (i := 1348) (by decide +kernel) rfl
theorem kw_1349 : Cond.selects "ColourDuelModel" ⟨"ColourDuelModel", "valueIf", "(II)I"⟩ ⟨"ColourDuelModel", "valueIf", "(II)I"⟩ ∈ Tb := tb_of (i := 1349) (by decide +kernel) rfl
theorem kw_1355 : Cond.methodLink "ColourDuelLaw" 128 ⟨"ColourDuelModel", "winningMoves", "()I"⟩ ∈ Tb := tb_of (i := 1355) (by decide +kernel) rfl
theorem kw_1356 : Cond.instanceMethod ⟨"ColourDuelModel", "winningMoves", "()I"⟩ ∈ Tb := tb_of (i := 1356) (by decide +kernel) rfl
theorem kw_1357 : Cond.selects "ColourDuelModel" ⟨"ColourDuelModel", "winningMoves", "()I"⟩ ⟨"ColourDuelModel", "winningMoves", "()I"⟩ ∈ Tb := tb_of (i := 1357) (by decide +kernel) rfl
theorem kw_1367 : Cond.methodLink "ColourDuelLaw" 148 ⟨"ColourDuelModel", "winningColours", "(I)I"⟩ ∈ Tb := tb_of (i := 1367) (by decide +kernel) rfl
theorem kw_1368 : Cond.instanceMethod ⟨"ColourDuelModel", "winningColours", "(I)I"⟩ ∈ Tb := tb_of (i := 1368) (by decide +kernel) rfl
theorem kw_1369 : Cond.selects "ColourDuelModel" ⟨"ColourDuelModel", "winningColours", "(I)I"⟩ ⟨"ColourDuelModel", "winningColours", "(I)I"⟩ ∈ Tb := tb_of (i := 1369) (by decide +kernel) rfl
theorem kw_1371 : Cond.methodLink "ColourDuelLaw" 132 ⟨"ColourDuelModel", "bestMove", "()I"⟩ ∈ Tb := tb_of (i := 1371) (by decide +kernel) rfl
theorem kw_1372 : Cond.instanceMethod ⟨"ColourDuelModel", "bestMove", "()I"⟩ ∈ Tb := tb_of (i := 1372) (by decide +kernel) rfl
theorem kw_1373 : Cond.selects "ColourDuelModel" ⟨"ColourDuelModel", "bestMove", "()I"⟩ ⟨"ColourDuelModel", "bestMove", "()I"⟩ ∈ Tb := tb_of (i := 1373) (by decide +kernel) rfl
theorem kw_1379 : Cond.methodLink "ColourDuelLaw" 136 ⟨"ColourDuelModel", "longest", "()I"⟩ ∈ Tb := tb_of (i := 1379) (by decide +kernel) rfl
theorem kw_1380 : Cond.instanceMethod ⟨"ColourDuelModel", "longest", "()I"⟩ ∈ Tb := tb_of (i := 1380) (by decide +kernel) rfl
theorem kw_1381 : Cond.selects "ColourDuelModel" ⟨"ColourDuelModel", "longest", "()I"⟩ ⟨"ColourDuelModel", "longest", "()I"⟩ ∈ Tb := tb_of (i := 1381) (by decide +kernel) rfl
theorem kw_1383 : Cond.methodLink "ColourDuelLaw" 140 ⟨"ColourDuelModel", "shortest", "()I"⟩ ∈ Tb := tb_of (i := 1383) (by decide +kernel) rfl
theorem kw_1384 : Cond.instanceMethod ⟨"ColourDuelModel", "shortest", "()I"⟩ ∈ Tb := tb_of (i := 1384) (by decide +kernel) rfl
theorem kw_1385 : Cond.selects "ColourDuelModel" ⟨"ColourDuelModel", "shortest", "()I"⟩ ⟨"ColourDuelModel", "shortest", "()I"⟩ ∈ Tb := tb_of (i := 1385) (by decide +kernel) rfl
theorem kw_1387 : Cond.methodLink "ColourDuelLaw" 145 ⟨"ColourDuelModel", "meanValue", "()F"⟩ ∈ Tb := tb_of (i := 1387) (by decide +kernel) rfl
theorem kw_1388 : Cond.instanceMethod ⟨"ColourDuelModel", "meanValue", "()F"⟩ ∈ Tb := tb_of (i := 1388) (by decide +kernel) rfl
theorem kw_1389 : Cond.selects "ColourDuelModel" ⟨"ColourDuelModel", "meanValue", "()F"⟩ ⟨"ColourDuelModel", "meanValue", "()F"⟩ ∈ Tb := tb_of (i := 1389) (by decide +kernel) rfl
theorem kw_1391 : Cond.methodLink "ColourDuelLaw" 151 ⟨"ColourDuelModel", "falls", "(I)I"⟩ ∈ Tb := tb_of (i := 1391) (by decide +kernel) rfl
theorem kw_1392 : Cond.instanceMethod ⟨"ColourDuelModel", "falls", "(I)I"⟩ ∈ Tb := tb_of (i := 1392) (by decide +kernel) rfl
theorem kw_1393 : Cond.selects "ColourDuelModel" ⟨"ColourDuelModel", "falls", "(I)I"⟩ ⟨"ColourDuelModel", "falls", "(I)I"⟩ ∈ Tb := tb_of (i := 1393) (by decide +kernel) rfl
theorem kw_1395 : Cond.methodLink "ColourDuelLaw" 154 ⟨"ColourDuelModel", "valueWithout", "(I)I"⟩ ∈ Tb := tb_of (i := 1395) (by decide +kernel) rfl
theorem kw_1396 : Cond.instanceMethod ⟨"ColourDuelModel", "valueWithout", "(I)I"⟩ ∈ Tb := tb_of (i := 1396) (by decide +kernel) rfl
theorem kw_1397 : Cond.selects "ColourDuelModel" ⟨"ColourDuelModel", "valueWithout", "(I)I"⟩ ⟨"ColourDuelModel", "valueWithout", "(I)I"⟩ ∈ Tb := tb_of (i := 1397) (by decide +kernel) rfl
theorem kw_1399 : Cond.methodLink "ColourDuelLaw" 157 ⟨"ColourDuelModel", "lay", "(II)I"⟩ ∈ Tb := tb_of (i := 1399) (by decide +kernel) rfl
theorem kw_1400 : Cond.instanceMethod ⟨"ColourDuelModel", "lay", "(II)I"⟩ ∈ Tb := tb_of (i := 1400) (by decide +kernel) rfl
theorem kw_1401 : Cond.selects "ColourDuelModel" ⟨"ColourDuelModel", "lay", "(II)I"⟩ ⟨"ColourDuelModel", "lay", "(II)I"⟩ ∈ Tb := tb_of (i := 1401) (by decide +kernel) rfl
theorem kw_1403 : Cond.methodLink "ColourDuelLaw" 160 ⟨"ColourDuelModel", "pass", "()I"⟩ ∈ Tb := tb_of (i := 1403) (by decide +kernel) rfl
theorem kw_1404 : Cond.instanceMethod ⟨"ColourDuelModel", "pass", "()I"⟩ ∈ Tb := tb_of (i := 1404) (by decide +kernel) rfl
theorem kw_1405 : Cond.selects "ColourDuelModel" ⟨"ColourDuelModel", "pass", "()I"⟩ ⟨"ColourDuelModel", "pass", "()I"⟩ ∈ Tb := tb_of (i := 1405) (by decide +kernel) rfl
theorem kw_1407 : Cond.methodLink "ColourDuelLaw" 163 ⟨"ColourDuelModel", "playOut", "(I)I"⟩ ∈ Tb := tb_of (i := 1407) (by decide +kernel) rfl
theorem kw_1408 : Cond.instanceMethod ⟨"ColourDuelModel", "playOut", "(I)I"⟩ ∈ Tb := tb_of (i := 1408) (by decide +kernel) rfl
theorem kw_1409 : Cond.selects "ColourDuelModel" ⟨"ColourDuelModel", "playOut", "(I)I"⟩ ⟨"ColourDuelModel", "playOut", "(I)I"⟩ ∈ Tb := tb_of (i := 1409) (by decide +kernel) rfl
theorem kw_1411 : Cond.methodLink "ColourDuelLaw" 166 ⟨"ColourDuelModel", "setPasses", "(I)I"⟩ ∈ Tb := tb_of (i := 1411) (by decide +kernel) rfl
theorem kw_1412 : Cond.instanceMethod ⟨"ColourDuelModel", "setPasses", "(I)I"⟩ ∈ Tb := tb_of (i := 1412) (by decide +kernel) rfl
theorem kw_1413 : Cond.selects "ColourDuelModel" ⟨"ColourDuelModel", "setPasses", "(I)I"⟩ ⟨"ColourDuelModel", "setPasses", "(I)I"⟩ ∈ Tb := tb_of (i := 1413) (by decide +kernel) rfl
theorem kw_1415 : Cond.methodLink "ColourDuelLaw" 169 ⟨"ColourDuelModel", "move", "(II)I"⟩ ∈ Tb := tb_of (i := 1415) (by decide +kernel) rfl
theorem kw_1416 : Cond.instanceMethod ⟨"ColourDuelModel", "move", "(II)I"⟩ ∈ Tb := tb_of (i := 1416) (by decide +kernel) rfl
theorem kw_1417 : Cond.selects "ColourDuelModel" ⟨"ColourDuelModel", "move", "(II)I"⟩ ⟨"ColourDuelModel", "move", "(II)I"⟩ ∈ Tb := tb_of (i := 1417) (by decide +kernel) rfl
theorem kw_1423 : Cond.methodLink "ColourDuelLaw" 172 ⟨"ColourDuelModel", "account", "(II)I"⟩ ∈ Tb := tb_of (i := 1423) (by decide +kernel) rfl
theorem kw_1424 : Cond.instanceMethod ⟨"ColourDuelModel", "account", "(II)I"⟩ ∈ Tb := tb_of (i := 1424) (by decide +kernel) rfl
theorem kw_1425 : Cond.selects "ColourDuelModel" ⟨"ColourDuelModel", "account", "(II)I"⟩ ⟨"ColourDuelModel", "account", "(II)I"⟩ ∈ Tb := tb_of (i := 1425) (by decide +kernel) rfl
theorem kw_1431 : Cond.methodLink "ColourDuelLaw" 176 ⟨"ColourDuelModel", "writeBoard", "()I"⟩ ∈ Tb := tb_of (i := 1431) (by decide +kernel) rfl
theorem kw_1432 : Cond.instanceMethod ⟨"ColourDuelModel", "writeBoard", "()I"⟩ ∈ Tb := tb_of (i := 1432) (by decide +kernel) rfl
theorem kw_1433 : Cond.selects "ColourDuelModel" ⟨"ColourDuelModel", "writeBoard", "()I"⟩ ⟨"ColourDuelModel", "writeBoard", "()I"⟩ ∈ Tb := tb_of (i := 1433) (by decide +kernel) rfl
theorem kw_1439 : Cond.methodLink "ColourDuelLaw" 179 ⟨"ColourDuelModel", "writtenByte", "(I)I"⟩ ∈ Tb := tb_of (i := 1439) (by decide +kernel) rfl
theorem kw_1440 : Cond.instanceMethod ⟨"ColourDuelModel", "writtenByte", "(I)I"⟩ ∈ Tb := tb_of (i := 1440) (by decide +kernel) rfl
theorem kw_1441 : Cond.selects "ColourDuelModel" ⟨"ColourDuelModel", "writtenByte", "(I)I"⟩ ⟨"ColourDuelModel", "writtenByte", "(I)I"⟩ ∈ Tb := tb_of (i := 1441) (by decide +kernel) rfl
theorem kw_1443 : Cond.methodLink "ColourDuelLaw" 185 ⟨"ColourDuelModel", "save", "(I)I"⟩ ∈ Tb := tb_of (i := 1443) (by decide +kernel) rfl
theorem kw_1444 : Cond.instanceMethod ⟨"ColourDuelModel", "save", "(I)I"⟩ ∈ Tb := tb_of (i := 1444) (by decide +kernel) rfl
theorem kw_1445 : Cond.selects "ColourDuelModel" ⟨"ColourDuelModel", "save", "(I)I"⟩ ⟨"ColourDuelModel", "save", "(I)I"⟩ ∈ Tb := tb_of (i := 1445) (by decide +kernel) rfl
theorem kw_1447 : Cond.methodLink "ColourDuelLaw" 188 ⟨"ColourDuelModel", "restore", "(I)I"⟩ ∈ Tb := tb_of (i := 1447) (by decide +kernel) rfl
theorem kw_1448 : Cond.instanceMethod ⟨"ColourDuelModel", "restore", "(I)I"⟩ ∈ Tb := tb_of (i := 1448) (by decide +kernel) rfl
theorem kw_1449 : Cond.selects "ColourDuelModel" ⟨"ColourDuelModel", "restore", "(I)I"⟩ ⟨"ColourDuelModel", "restore", "(I)I"⟩ ∈ Tb := tb_of (i := 1449) (by decide +kernel) rfl
abbrev M_L_append : Mt := (yL_append, cL_append, 8, (some .int), [(0, 16, 19, 13)])
theorem K_L_append : KH M_L_append 7 := ⟨kw_449, kw_81, ⟨by decide, by decide, by decide +kernel⟩, by decide, by decide⟩
abbrev M_L_load : Mt := (yL_load, cL_load, 4, (some .int), [(0, 9, 12, 19)])
theorem K_L_load : KH M_L_load 3 := ⟨kw_529, kw_81, ⟨by decide, by decide, by decide +kernel⟩, by decide, by decide⟩
abbrev M_L_count : Mt := (yL_count, cL_count, 4, (some .int), [(0, 9, 12, 19)])
theorem K_L_count : KH M_L_count 3 := ⟨kw_766, kw_81, ⟨by decide, by decide, by decide +kernel⟩, by decide, by decide⟩
abbrev M_L_vertex : Mt := (yL_vertex, cL_vertex, 5, (some .int), [(0, 10, 13, 28), (0, 10, 17, 19)])
theorem K_L_vertex : KH M_L_vertex 4 := ⟨kw_796, kw_81, ⟨by decide, by decide, by decide +kernel⟩, by decide, by decide⟩
abbrev M_L_reason : Mt := (yL_reason, cL_reason, 5, (some .int), [(0, 10, 13, 28)])
theorem K_L_reason : KH M_L_reason 4 := ⟨kw_835, kw_81, ⟨by decide, by decide, by decide +kernel⟩, by decide, by decide⟩
abbrev M_L_part : Mt := (yL_part, cL_part, 5, (some .int), [(0, 10, 13, 28), (0, 10, 17, 19)])
theorem K_L_part : KH M_L_part 4 := ⟨kw_849, kw_81, ⟨by decide, by decide, by decide +kernel⟩, by decide, by decide⟩
abbrev M_L_valueIf : Mt := (yL_valueIf, cL_valueIf, 5, (some .int), [(0, 10, 13, 28), (0, 10, 17, 39)])
theorem K_L_valueIf : KH M_L_valueIf 4 := ⟨kw_860, kw_81, ⟨by decide, by decide, by decide +kernel⟩, by decide, by decide⟩
abbrev M_L_bestMove : Mt := (yL_bestMove, cL_bestMove, 3, (some .int), [(0, 8, 11, 39)])
theorem K_L_bestMove : KH M_L_bestMove 2 := ⟨kw_884, kw_81, ⟨by decide, by decide, by decide +kernel⟩, by decide, by decide⟩
abbrev M_L_winningColours : Mt := (yL_winningColours, cL_winningColours, 4, (some .int), [(0, 9, 12, 28)])
theorem K_L_winningColours : KH M_L_winningColours 3 := ⟨kw_897, kw_81, ⟨by decide, by decide, by decide +kernel⟩, by decide, by decide⟩
abbrev M_L_falls : Mt := (yL_falls, cL_falls, 4, (some .int), [(0, 9, 12, 28), (0, 9, 15, 39)])
theorem K_L_falls : KH M_L_falls 3 := ⟨kw_904, kw_81, ⟨by decide, by decide, by decide +kernel⟩, by decide, by decide⟩
abbrev M_L_valueWithout : Mt := (yL_valueWithout, cL_valueWithout, 4, (some .int), [(0, 9, 12, 28), (0, 9, 15, 39)])
theorem K_L_valueWithout : KH M_L_valueWithout 3 := ⟨kw_913, kw_81, ⟨by decide, by decide, by decide +kernel⟩, by decide, by decide⟩
abbrev M_L_lay : Mt := (yL_lay, cL_lay, 5, (some .int), [(0, 10, 13, 28), (0, 10, 17, 13)])
theorem K_L_lay : KH M_L_lay 4 := ⟨kw_924, kw_81, ⟨by decide, by decide, by decide +kernel⟩, by decide, by decide⟩
abbrev M_L_pass : Mt := (yL_pass, cL_pass, 3, (some .int), [(0, 8, 11, 13)])
theorem K_L_pass : KH M_L_pass 2 := ⟨kw_932, kw_81, ⟨by decide, by decide, by decide +kernel⟩, by decide, by decide⟩
abbrev M_L_playOut : Mt := (yL_playOut, cL_playOut, 4, (some .int), [(0, 9, 12, 19)])
theorem K_L_playOut : KH M_L_playOut 3 := ⟨kw_941, kw_81, ⟨by decide, by decide, by decide +kernel⟩, by decide, by decide⟩
abbrev M_L_setPasses : Mt := (yL_setPasses, cL_setPasses, 4, (some .int), [(0, 9, 12, 19)])
theorem K_L_setPasses : KH M_L_setPasses 3 := ⟨kw_949, kw_81, ⟨by decide, by decide, by decide +kernel⟩, by decide, by decide⟩
abbrev M_L_move : Mt := (yL_move, cL_move, 5, (some .int), [(0, 10, 13, 28), (0, 10, 17, 19)])
theorem K_L_move : KH M_L_move 4 := ⟨kw_957, kw_81, ⟨by decide, by decide, by decide +kernel⟩, by decide, by decide⟩
abbrev M_L_account : Mt := (yL_account, cL_account, 5, (some .int), [(0, 10, 13, 28), (0, 10, 17, 19)])
theorem K_L_account : KH M_L_account 4 := ⟨kw_970, kw_81, ⟨by decide, by decide, by decide +kernel⟩, by decide, by decide⟩
abbrev M_L_writtenByte : Mt := (yL_writtenByte, cL_writtenByte, 4, (some .int), [(0, 9, 12, 28)])
theorem K_L_writtenByte : KH M_L_writtenByte 3 := ⟨kw_991, kw_81, ⟨by decide, by decide, by decide +kernel⟩, by decide, by decide⟩
abbrev M_L_undo : Mt := (yL_undo, cL_undo, 3, (some .int), [(0, 8, 11, 13)])
theorem K_L_undo : KH M_L_undo 2 := ⟨kw_999, kw_81, ⟨by decide, by decide, by decide +kernel⟩, by decide, by decide⟩
abbrev M_L_save : Mt := (yL_save, cL_save, 4, (some .int), [(0, 9, 12, 28)])
theorem K_L_save : KH M_L_save 3 := ⟨kw_1012, kw_81, ⟨by decide, by decide, by decide +kernel⟩, by decide, by decide⟩
abbrev M_L_restore : Mt := (yL_restore, cL_restore, 4, (some .int), [(0, 9, 12, 28), (0, 9, 15, 13)])
theorem K_L_restore : KH M_L_restore 3 := ⟨kw_1021, kw_81, ⟨by decide, by decide, by decide +kernel⟩, by decide, by decide⟩
abbrev M_L_law : Mt := (yL_law, cL_law, 9, (some .boolean), [])
