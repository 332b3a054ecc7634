/-! printed by wip/whole/emit2.py: contracts of the throwing methods; words -/
theorem sx_X5_append {l : Launch} {G : Gx} (hs : l.stackTraces = false) (o : Nat) (p1 : Int32) (p2 : Int32) (p3 : Int32) (p4 : Int32) (p5 : Int32) (h : Hp) : ∀ x, m_X5_append o p1 p2 p3 p4 p5 h = some x → SX l G 1 M_X5_append [.ref o, .int p1, .int p2, .int p3, .int p4, .int p5] h (finX x) := fun x e => SX.of K_X5_append hs rfl (Nat.le_of_ble_eq_true rfl) (ss_X5_append hs o p1 p2 p3 p4 p5 h) e
theorem sx_X5_load {l : Launch} {G : Gx} (hs : l.stackTraces = false) (o : Nat) (p1 : Int32) (h : Hp) : ∀ x, m_X5_load o p1 h = some x → SX l G 13 M_X5_load [.ref o, .int p1] h (finX x) := fun x e => SX.of K_X5_load hs rfl (Nat.le_of_ble_eq_true rfl) (ss_X5_load hs o p1 h) e
theorem sx_X5_count {l : Launch} {G : Gx} (hs : l.stackTraces = false) (o : Nat) (p1 : Int32) (h : Hp) : ∀ x, m_X5_count o p1 h = some x → SX l G 6 M_X5_count [.ref o, .int p1] h (finX x) := fun x e => SX.of K_X5_count hs rfl (Nat.le_of_ble_eq_true rfl) (ss_X5_count hs o p1 h) e
theorem sx_X5_vertex {l : Launch} {G : Gx} (hs : l.stackTraces = false) (o : Nat) (p1 : Int32) (p2 : Int32) (h : Hp) : ∀ x, m_X5_vertex o p1 p2 h = some x → SX l G 4 M_X5_vertex [.ref o, .int p1, .int p2] h (finX x) := fun x e => SX.of K_X5_vertex hs rfl (Nat.le_of_ble_eq_true rfl) (ss_X5_vertex hs o p1 p2 h) e
theorem sx_X5_reason {l : Launch} {G : Gx} (hs : l.stackTraces = false) (o : Nat) (p1 : Int32) (p2 : Int32) (h : Hp) : ∀ x, m_X5_reason o p1 p2 h = some x → SX l G 3 M_X5_reason [.ref o, .int p1, .int p2] h (finX x) := fun x e => SX.of K_X5_reason hs rfl (Nat.le_of_ble_eq_true rfl) (ss_X5_reason hs o p1 p2 h) e
theorem sx_X5_part {l : Launch} {G : Gx} (hs : l.stackTraces = false) (o : Nat) (p1 : Int32) (p2 : Int32) (h : Hp) : ∀ x, m_X5_part o p1 p2 h = some x → SX l G 184 M_X5_part [.ref o, .int p1, .int p2] h (finX x) := fun x e => SX.of K_X5_part hs rfl (Nat.le_of_ble_eq_true rfl) (ss_X5_part hs o p1 p2 h) e
theorem sx_X5_valueIf {l : Launch} {G : Gx} (hs : l.stackTraces = false) (o : Nat) (p1 : Int32) (p2 : Int32) (h : Hp) : ∀ x, m_X5_valueIf o p1 p2 h = some x → SX l G 185 M_X5_valueIf [.ref o, .int p1, .int p2] h (finX x) := fun x e => SX.of K_X5_valueIf hs rfl (Nat.le_of_ble_eq_true rfl) (ss_X5_valueIf hs o p1 p2 h) e
theorem sx_X5_bestMove {l : Launch} {G : Gx} (hs : l.stackTraces = false) (o : Nat) (h : Hp) : ∀ x, m_X5_bestMove o h = some x → SX l G 186 M_X5_bestMove [.ref o] h (finX x) := fun x e => SX.of K_X5_bestMove hs rfl (Nat.le_of_ble_eq_true rfl) (ss_X5_bestMove hs o h) e
theorem sx_X5_winningColours {l : Launch} {G : Gx} (hs : l.stackTraces = false) (o : Nat) (p1 : Int32) (h : Hp) : ∀ x, m_X5_winningColours o p1 h = some x → SX l G 186 M_X5_winningColours [.ref o, .int p1] h (finX x) := fun x e => SX.of K_X5_winningColours hs rfl (Nat.le_of_ble_eq_true rfl) (ss_X5_winningColours hs o p1 h) e
theorem sx_X5_falls {l : Launch} {G : Gx} (hs : l.stackTraces = false) (o : Nat) (p1 : Int32) (h : Hp) : ∀ x, m_X5_falls o p1 h = some x → SX l G 3 M_X5_falls [.ref o, .int p1] h (finX x) := fun x e => SX.of K_X5_falls hs rfl (Nat.le_of_ble_eq_true rfl) (ss_X5_falls hs o p1 h) e
theorem sx_X5_valueWithout {l : Launch} {G : Gx} (hs : l.stackTraces = false) (o : Nat) (p1 : Int32) (h : Hp) : ∀ x, m_X5_valueWithout o p1 h = some x → SX l G 185 M_X5_valueWithout [.ref o, .int p1] h (finX x) := fun x e => SX.of K_X5_valueWithout hs rfl (Nat.le_of_ble_eq_true rfl) (ss_X5_valueWithout hs o p1 h) e
theorem sx_X5_lay {l : Launch} {G : Gx} (hs : l.stackTraces = false) (o : Nat) (p1 : Int32) (p2 : Int32) (h : Hp) : ∀ x, m_X5_lay o p1 p2 h = some x → SX l G 4 M_X5_lay [.ref o, .int p1, .int p2] h (finX x) := fun x e => SX.of K_X5_lay hs rfl (Nat.le_of_ble_eq_true rfl) (ss_X5_lay hs o p1 p2 h) e
theorem sx_X5_pass {l : Launch} {G : Gx} (hs : l.stackTraces = false) (o : Nat) (h : Hp) : ∀ x, m_X5_pass o h = some x → SX l G 4 M_X5_pass [.ref o] h (finX x) := fun x e => SX.of K_X5_pass hs rfl (Nat.le_of_ble_eq_true rfl) (ss_X5_pass hs o h) e
theorem sx_X5_playOut {l : Launch} {G : Gx} (hs : l.stackTraces = false) (o : Nat) (p1 : Int32) (h : Hp) : ∀ x, m_X5_playOut o p1 h = some x → SX l G 186 M_X5_playOut [.ref o, .int p1] h (finX x) := fun x e => SX.of K_X5_playOut hs rfl (Nat.le_of_ble_eq_true rfl) (ss_X5_playOut hs o p1 h) e
theorem sx_X5_setPasses {l : Launch} {G : Gx} (hs : l.stackTraces = false) (o : Nat) (p1 : Int32) (h : Hp) : ∀ x, m_X5_setPasses o p1 h = some x → SX l G 4 M_X5_setPasses [.ref o, .int p1] h (finX x) := fun x e => SX.of K_X5_setPasses hs rfl (Nat.le_of_ble_eq_true rfl) (ss_X5_setPasses hs o p1 h) e
theorem sx_X5_move {l : Launch} {G : Gx} (hs : l.stackTraces = false) (o : Nat) (p1 : Int32) (p2 : Int32) (h : Hp) : ∀ x, m_X5_move o p1 p2 h = some x → SX l G 1 M_X5_move [.ref o, .int p1, .int p2] h (finX x) := fun x e => SX.of K_X5_move hs rfl (Nat.le_of_ble_eq_true rfl) (ss_X5_move hs o p1 p2 h) e
theorem sx_X5_account {l : Launch} {G : Gx} (hs : l.stackTraces = false) (o : Nat) (p1 : Int32) (p2 : Int32) (h : Hp) : ∀ x, m_X5_account o p1 p2 h = some x → SX l G 2 M_X5_account [.ref o, .int p1, .int p2] h (finX x) := fun x e => SX.of K_X5_account hs rfl (Nat.le_of_ble_eq_true rfl) (ss_X5_account hs o p1 p2 h) e
theorem sx_X5_writtenByte {l : Launch} {G : Gx} (hs : l.stackTraces = false) (o : Nat) (p1 : Int32) (h : Hp) : ∀ x, m_X5_writtenByte o p1 h = some x → SX l G 0 M_X5_writtenByte [.ref o, .int p1] h (finX x) := fun x e => SX.of K_X5_writtenByte hs rfl (Nat.le_of_ble_eq_true rfl) (ss_X5_writtenByte hs o p1 h) e
theorem sx_X5_undo {l : Launch} {G : Gx} (hs : l.stackTraces = false) (o : Nat) (h : Hp) : ∀ x, m_X5_undo o h = some x → SX l G 3 M_X5_undo [.ref o] h (finX x) := fun x e => SX.of K_X5_undo hs rfl (Nat.le_of_ble_eq_true rfl) (ss_X5_undo hs o h) e
theorem sx_X5_save {l : Launch} {G : Gx} (hs : l.stackTraces = false) (o : Nat) (p1 : Int32) (h : Hp) : ∀ x, m_X5_save o p1 h = some x → SX l G 3 M_X5_save [.ref o, .int p1] h (finX x) := fun x e => SX.of K_X5_save hs rfl (Nat.le_of_ble_eq_true rfl) (ss_X5_save hs o p1 h) e
theorem sx_X5_restore {l : Launch} {G : Gx} (hs : l.stackTraces = false) (o : Nat) (p1 : Int32) (h : Hp) : ∀ x, m_X5_restore o p1 h = some x → SX l G 4 M_X5_restore [.ref o, .int p1] h (finX x) := fun x e => SX.of K_X5_restore hs rfl (Nat.le_of_ble_eq_true rfl) (ss_X5_restore hs o p1 h) e
theorem kw_81 : Cond.initialized "ColourDuelLaw" ∈ Tb := tb_of (i := 81) (by decide +kernel) rfl
theorem kw_102 : Cond.classLink "ColourDuelLaw" 8 "ColourDuel" ∈ Tb := tb_of (i := 102) (by decide +kernel) rfl
theorem kw_103 : Cond.instantiable "ColourDuel" 8 ∈ Tb := tb_of (i := 103) (by decide +kernel) rfl
theorem kw_104 : Cond.methodLink "ColourDuelLaw" 84 ⟨"ColourDuel", "<init>", "()V"⟩ ∈ Tb := tb_of (i := 104) (by decide +kernel) rfl
theorem kw_105 : Cond.instanceMethod ⟨"ColourDuel", "<init>", "()V"⟩ ∈ Tb := tb_of (i := 105) (by decide +kernel) rfl
theorem kw_268 : Cond.methodLink "ColourDuelLaw" 101 ⟨"ColourDuel", "errorPosition", "()I"⟩ ∈ Tb := tb_of (i := 268) (by decide +kernel) rfl
theorem kw_269 : Cond.instanceMethod ⟨"ColourDuel", "errorPosition", "()I"⟩ ∈ Tb := tb_of (i := 269) (by decide +kernel) rfl
theorem kw_270 : Cond.selects "ColourDuel" ⟨"ColourDuel", "errorPosition", "()I"⟩ ⟨"ColourDuel", "errorPosition", "()I"⟩ ∈ Tb := tb_of (i := 270) (by decide +kernel) rfl
theorem kw_272 : Cond.methodLink "ColourDuelLaw" 118 ⟨"ColourDuel", "value", "()I"⟩ ∈ Tb := tb_of (i := 272) (by decide +kernel) rfl
theorem kw_273 : Cond.instanceMethod ⟨"ColourDuel", "value", "()I"⟩ ∈ Tb := tb_of (i := 273) (by decide +kernel) rfl
theorem kw_274 : Cond.selects "ColourDuel" ⟨"ColourDuel", "value", "()I"⟩ ⟨"ColourDuel", "value", "()I"⟩ ∈ Tb := tb_of (i := 274) (by decide +kernel) rfl
theorem kw_367 : Cond.methodLink "ColourDuelLaw" 125 ⟨"ColourDuel", "winningMoves", "()I"⟩ ∈ Tb := tb_of (i := 367) (by decide +kernel) rfl
theorem kw_368 : Cond.instanceMethod ⟨"ColourDuel", "winningMoves", "()I"⟩ ∈ Tb := tb_of (i := 368) (by decide +kernel) rfl
theorem kw_369 : Cond.selects "ColourDuel" ⟨"ColourDuel", "winningMoves", "()I"⟩ ⟨"ColourDuel", "winningMoves", "()I"⟩ ∈ Tb := tb_of (i := 369) (by decide +kernel) rfl
theorem kw_404 : Cond.methodLink "ColourDuelLaw" 133 ⟨"ColourDuel", "longest", "()I"⟩ ∈ Tb := tb_of (i := 404) (by decide +kernel) rfl
theorem kw_409 : Cond.methodLink "ColourDuelLaw" 137 ⟨"ColourDuel", "shortest", "()I"⟩ ∈ Tb := tb_of (i := 409) (by decide +kernel) rfl
theorem kw_410 : Cond.instanceMethod ⟨"ColourDuel", "shortest", "()I"⟩ ∈ Tb := tb_of (i := 410) (by decide +kernel) rfl
theorem kw_411 : Cond.selects "ColourDuel" ⟨"ColourDuel", "shortest", "()I"⟩ ⟨"ColourDuel", "shortest", "()I"⟩ ∈ Tb := tb_of (i := 411) (by decide +kernel) rfl
theorem kw_414 : Cond.methodLink "ColourDuelLaw" 141 ⟨"ColourDuel", "meanValue", "()F"⟩ ∈ Tb := tb_of (i := 414) (by decide +kernel) rfl
theorem kw_415 : Cond.instanceMethod ⟨"ColourDuel", "meanValue", "()F"⟩ ∈ Tb := tb_of (i := 415) (by decide +kernel) rfl
theorem kw_416 : Cond.selects "ColourDuel" ⟨"ColourDuel", "meanValue", "()F"⟩ ⟨"ColourDuel", "meanValue", "()F"⟩ ∈ Tb := tb_of (i := 416) (by decide +kernel) rfl
theorem kw_426 : Cond.methodLink "ColourDuelLaw" 173 ⟨"ColourDuel", "writeBoard", "()I"⟩ ∈ Tb := tb_of (i := 426) (by decide +kernel) rfl
theorem kw_427 : Cond.instanceMethod ⟨"ColourDuel", "writeBoard", "()I"⟩ ∈ Tb := tb_of (i := 427) (by decide +kernel) rfl
theorem kw_428 : Cond.selects "ColourDuel" ⟨"ColourDuel", "writeBoard", "()I"⟩ ⟨"ColourDuel", "writeBoard", "()I"⟩ ∈ Tb := tb_of (i := 428) (by decide +kernel) rfl
theorem kw_448 : Cond.methodLink "ColourDuelLaw" 88 ⟨"ColourDuelLaw", "append", "(LColourDuel;IIIII[J)I"⟩ ∈ Tb := tb_of (i := 448) (by decide +kernel) rfl
theorem kw_449 : Cond.static ⟨"ColourDuelLaw", "append", "(LColourDuel;IIIII[J)I"⟩ ∈ Tb := tb_of (i := 449) (by decide +kernel) rfl
theorem kw_450 : Cond.codeWith ⟨"ColourDuelLaw", "append", "(LColourDuel;IIIII[J)I"⟩ method_3_code 8 (Option.some FieldType.int) [(0, 16, 19, 13)] ∈ Tb := tb_of (i := 450) (by decide +kernel) rfl
theorem kw_451 : Cond.classLink "ColourDuelLaw" 13 "java/lang/IllegalStateException" ∈ Tb := tb_of (i := 451) (by decide +kernel) rfl
theorem kw_452 : Cond.methodLink "ColourDuelLaw" 7 ⟨"ColourDuel", "append", "(IIIII)I"⟩ ∈ Tb := tb_of (i := 452) (by decide +kernel) rfl
theorem kw_453 : Cond.instanceMethod ⟨"ColourDuel", "append", "(IIIII)I"⟩ ∈ Tb := tb_of (i := 453) (by decide +kernel) rfl
theorem kw_454 : Cond.selects "ColourDuel" ⟨"ColourDuel", "append", "(IIIII)I"⟩ ⟨"ColourDuel", "append", "(IIIII)I"⟩ ∈ Tb := tb_of (i := 454) (by decide +kernel) rfl
theorem kn_458 : Cond.castable "java/lang/IllegalStateException" "java/lang/IllegalStateException" ∈ lw_tbl := tn_of (i := 458) (by decide +kernel)
theorem kw_528 : Cond.methodLink "ColourDuelLaw" 97 ⟨"ColourDuelLaw", "load", "(LColourDuel;I[J)I"⟩ ∈ Tb := tb_of (i := 528) (by decide +kernel) rfl
theorem kw_529 : Cond.static ⟨"ColourDuelLaw", "load", "(LColourDuel;I[J)I"⟩ ∈ Tb := tb_of (i := 529) (by decide +kernel) rfl
theorem kw_530 : Cond.codeWith ⟨"ColourDuelLaw", "load", "(LColourDuel;I[J)I"⟩ method_4_code 4 (Option.some FieldType.int) [(0, 9, 12, 19)] ∈ Tb := tb_of (i := 530) (by decide +kernel) rfl
theorem kw_531 : Cond.classLink "ColourDuelLaw" 19 "java/lang/IllegalArgumentException" ∈ Tb := tb_of (i := 531) (by decide +kernel) rfl
theorem kw_532 : Cond.methodLink "ColourDuelLaw" 15 ⟨"ColourDuel", "load", "(I)I"⟩ ∈ Tb := tb_of (i := 532) (by decide +kernel) rfl
theorem kw_533 : Cond.instanceMethod ⟨"ColourDuel", "load", "(I)I"⟩ ∈ Tb := tb_of (i := 533) (by decide +kernel) rfl
theorem kw_534 : Cond.selects "ColourDuel" ⟨"ColourDuel", "load", "(I)I"⟩ ⟨"ColourDuel", "load", "(I)I"⟩ ∈ Tb := tb_of (i := 534) (by decide +kernel) rfl
theorem kn_538 : Cond.castable "java/lang/IllegalArgumentException" "java/lang/IllegalArgumentException" ∈ lw_tbl := tn_of (i := 538) (by decide +kernel)
theorem kw_769 : Cond.methodLink "ColourDuelLaw" 105 ⟨"ColourDuelLaw", "count", "(LColourDuel;I[J)I"⟩ ∈ Tb := tb_of (i := 769) (by decide +kernel) rfl
theorem kw_770 : Cond.static ⟨"ColourDuelLaw", "count", "(LColourDuel;I[J)I"⟩ ∈ Tb := tb_of (i := 770) (by decide +kernel) rfl
theorem kw_771 : Cond.codeWith ⟨"ColourDuelLaw", "count", "(LColourDuel;I[J)I"⟩ method_5_code 4 (Option.some FieldType.int) [(0, 9, 12, 19)] ∈ Tb := tb_of (i := 771) (by decide +kernel) rfl
theorem kw_772 : Cond.methodLink "ColourDuelLaw" 21 ⟨"ColourDuel", "count", "(I)I"⟩ ∈ Tb := tb_of (i := 772) (by decide +kernel) rfl
theorem kw_773 : Cond.instanceMethod ⟨"ColourDuel", "count", "(I)I"⟩ ∈ Tb := tb_of (i := 773) (by decide +kernel) rfl
theorem kw_774 : Cond.selects "ColourDuel" ⟨"ColourDuel", "count", "(I)I"⟩ ⟨"ColourDuel", "count", "(I)I"⟩ ∈ Tb := tb_of (i := 774) (by decide +kernel) rfl
theorem kw_799 : Cond.methodLink "ColourDuelLaw" 108 ⟨"ColourDuelLaw", "vertex", "(LColourDuel;II[J)I"⟩ ∈ Tb := tb_of (i := 799) (by decide +kernel) rfl
theorem kw_800 : Cond.static ⟨"ColourDuelLaw", "vertex", "(LColourDuel;II[J)I"⟩ ∈ Tb := tb_of (i := 800) (by decide +kernel) rfl
theorem kw_801 : Cond.codeWith ⟨"ColourDuelLaw", "vertex", "(LColourDuel;II[J)I"⟩ method_6_code 5 (Option.some FieldType.int) [(0, 10, 13, 28), (0, 10, 17, 19)] ∈ Tb := tb_of (i := 801) (by decide +kernel) rfl
theorem kw_802 : Cond.classLink "ColourDuelLaw" 28 "java/lang/IndexOutOfBoundsException" ∈ Tb := tb_of (i := 802) (by decide +kernel) rfl
theorem kw_803 : Cond.methodLink "ColourDuelLaw" 24 ⟨"ColourDuel", "vertex", "(II)I"⟩ ∈ Tb := tb_of (i := 803) (by decide +kernel) rfl
theorem kw_804 : Cond.instanceMethod ⟨"ColourDuel", "vertex", "(II)I"⟩ ∈ Tb := tb_of (i := 804) (by decide +kernel) rfl
theorem kw_805 : Cond.selects "ColourDuel" ⟨"ColourDuel", "vertex", "(II)I"⟩ ⟨"ColourDuel", "vertex", "(II)I"⟩ ∈ Tb := tb_of (i := 805) (by decide +kernel) rfl
theorem kn_813 : Cond.castable "java/lang/IndexOutOfBoundsException" "java/lang/IndexOutOfBoundsException" ∈ lw_tbl := tn_of (i := 813) (by decide +kernel)
theorem kw_838 : Cond.methodLink "ColourDuelLaw" 112 ⟨"ColourDuelLaw", "reason", "(LColourDuel;II[J)I"⟩ ∈ Tb := tb_of (i := 838) (by decide +kernel) rfl
theorem kw_839 : Cond.static ⟨"ColourDuelLaw", "reason", "(LColourDuel;II[J)I"⟩ ∈ Tb := tb_of (i := 839) (by decide +kernel) rfl
theorem kw_840 : Cond.codeWith ⟨"ColourDuelLaw", "reason", "(LColourDuel;II[J)I"⟩ method_7_code 5 (Option.some FieldType.int) [(0, 10, 13, 28)] ∈ Tb := tb_of (i := 840) (by decide +kernel) rfl
theorem kw_841 : Cond.methodLink "ColourDuelLaw" 30 ⟨"ColourDuel", "reason", "(II)I"⟩ ∈ Tb := tb_of (i := 841) (by decide +kernel) rfl
theorem kw_842 : Cond.instanceMethod ⟨"ColourDuel", "reason", "(II)I"⟩ ∈ Tb := tb_of (i := 842) (by decide +kernel) rfl
theorem kw_843 : Cond.selects "ColourDuel" ⟨"ColourDuel", "reason", "(II)I"⟩ ⟨"ColourDuel", "reason", "(II)I"⟩ ∈ Tb := tb_of (i := 843) (by decide +kernel) rfl
theorem kw_852 : Cond.methodLink "ColourDuelLaw" 115 ⟨"ColourDuelLaw", "part", "(LColourDuel;II[J)I"⟩ ∈ Tb := tb_of (i := 852) (by decide +kernel) rfl
theorem kw_853 : Cond.static ⟨"ColourDuelLaw", "part", "(LColourDuel;II[J)I"⟩ ∈ Tb := tb_of (i := 853) (by decide +kernel) rfl
theorem kw_854 : Cond.codeWith ⟨"ColourDuelLaw", "part", "(LColourDuel;II[J)I"⟩ method_8_code 5 (Option.some FieldType.int) [(0, 10, 13, 28), (0, 10, 17, 19)] ∈ Tb := tb_of (i := 854) (by decide +kernel) rfl
theorem kw_855 : Cond.methodLink "ColourDuelLaw" 33 ⟨"ColourDuel", "part", "(II)I"⟩ ∈ Tb := tb_of (i := 855) (by decide +kernel) rfl
theorem kw_856 : Cond.instanceMethod ⟨"ColourDuel", "part", "(II)I"⟩ ∈ Tb := tb_of (i := 856) (by decide +kernel) rfl
theorem kw_857 : Cond.selects "ColourDuel" ⟨"ColourDuel", "part", "(II)I"⟩ ⟨"ColourDuel", "part", "(II)I"⟩ ∈ Tb := tb_of (i := 857) (by decide +kernel) rfl
theorem kw_863 : Cond.methodLink "ColourDuelLaw" 122 ⟨"ColourDuelLaw", "valueIf", "(LColourDuel;II[J)I"⟩ ∈ Tb := tb_of (i := 863) (by decide +kernel) rfl
theorem kw_864 : Cond.static ⟨"ColourDuelLaw", "valueIf", "(LColourDuel;II[J)I"⟩ ∈ Tb := tb_of (i := 864) (by decide +kernel) rfl
theorem kw_865 : Cond.codeWith ⟨"ColourDuelLaw", "valueIf", "(LColourDuel;II[J)I"⟩ method_9_code 5 (Option.some FieldType.int) [(0, 10, 13, 28), (0, 10, 17, 39)] ∈ Tb := tb_of (i := 865) (by decide +kernel) rfl
theorem kw_866 : Cond.classLink "ColourDuelLaw" 39 "java/util/NoSuchElementException" ∈ Tb := tb_of (i := 866) (by decide +kernel) rfl
theorem kw_867 : Cond.methodLink "ColourDuelLaw" 36 ⟨"ColourDuel", "valueIf", "(II)I"⟩ ∈ Tb := tb_of (i := 867) (by decide +kernel) rfl
theorem kw_868 : Cond.instanceMethod ⟨"ColourDuel", "valueIf", "(II)I"⟩ ∈ Tb := tb_of (i := 868) (by decide +kernel) rfl
theorem kw_869 : Cond.selects "ColourDuel" ⟨"ColourDuel", "valueIf", "(II)I"⟩ ⟨"ColourDuel", "valueIf", "(II)I"⟩ ∈ Tb := tb_of (i := 869) (by decide +kernel) rfl
theorem kn_873 : Cond.castable "java/util/NoSuchElementException" "java/util/NoSuchElementException" ∈ lw_tbl := tn_of (i := 873) (by decide +kernel)
theorem kw_887 : Cond.methodLink "ColourDuelLaw" 129 ⟨"ColourDuelLaw", "bestMove", "(LColourDuel;[J)I"⟩ ∈ Tb := tb_of (i := 887) (by decide +kernel) rfl
theorem kw_888 : Cond.static ⟨"ColourDuelLaw", "bestMove", "(LColourDuel;[J)I"⟩ ∈ Tb := tb_of (i := 888) (by decide +kernel) rfl
theorem kw_889 : Cond.codeWith ⟨"ColourDuelLaw", "bestMove", "(LColourDuel;[J)I"⟩ method_10_code 3 (Option.some FieldType.int) [(0, 8, 11, 39)] ∈ Tb := tb_of (i := 889) (by decide +kernel) rfl
theorem kw_890 : Cond.methodLink "ColourDuelLaw" 41 ⟨"ColourDuel", "bestMove", "()I"⟩ ∈ Tb := tb_of (i := 890) (by decide +kernel) rfl
theorem kw_891 : Cond.instanceMethod ⟨"ColourDuel", "bestMove", "()I"⟩ ∈ Tb := tb_of (i := 891) (by decide +kernel) rfl
theorem kw_892 : Cond.selects "ColourDuel" ⟨"ColourDuel", "bestMove", "()I"⟩ ⟨"ColourDuel", "bestMove", "()I"⟩ ∈ Tb := tb_of (i := 892) (by decide +kernel) rfl
theorem kw_900 : Cond.methodLink "ColourDuelLaw" 146 ⟨"ColourDuelLaw", "winningColours", "(LColourDuel;I[J)I"⟩ ∈ Tb := tb_of (i := 900) (by decide +kernel) rfl
theorem kw_901 : Cond.static ⟨"ColourDuelLaw", "winningColours", "(LColourDuel;I[J)I"⟩ ∈ Tb := tb_of (i := 901) (by decide +kernel) rfl
theorem kw_902 : Cond.codeWith ⟨"ColourDuelLaw", "winningColours", "(LColourDuel;I[J)I"⟩ method_11_code 4 (Option.some FieldType.int) [(0, 9, 12, 28)] ∈ Tb := tb_of (i := 902) (by decide +kernel) rfl
theorem kw_903 : Cond.methodLink "ColourDuelLaw" 45 ⟨"ColourDuel", "winningColours", "(I)I"⟩ ∈ Tb := tb_of (i := 903) (by decide +kernel) rfl
theorem kw_904 : Cond.instanceMethod ⟨"ColourDuel", "winningColours", "(I)I"⟩ ∈ Tb := tb_of (i := 904) (by decide +kernel) rfl
theorem kw_905 : Cond.selects "ColourDuel" ⟨"ColourDuel", "winningColours", "(I)I"⟩ ⟨"ColourDuel", "winningColours", "(I)I"⟩ ∈ Tb := tb_of (i := 905) (by decide +kernel) rfl
theorem kw_907 : Cond.methodLink "ColourDuelLaw" 149 ⟨"ColourDuelLaw", "falls", "(LColourDuel;I[J)I"⟩ ∈ Tb := tb_of (i := 907) (by decide +kernel) rfl
theorem kw_908 : Cond.static ⟨"ColourDuelLaw", "falls", "(LColourDuel;I[J)I"⟩ ∈ Tb := tb_of (i := 908) (by decide +kernel) rfl
theorem kw_909 : Cond.codeWith ⟨"ColourDuelLaw", "falls", "(LColourDuel;I[J)I"⟩ method_12_code 4 (Option.some FieldType.int) [(0, 9, 12, 28), (0, 9, 15, 39)] ∈ Tb := tb_of (i := 909) (by decide +kernel) rfl
theorem kw_910 : Cond.methodLink "ColourDuelLaw" 48 ⟨"ColourDuel", "falls", "(I)I"⟩ ∈ Tb := tb_of (i := 910) (by decide +kernel) rfl
theorem kw_911 : Cond.instanceMethod ⟨"ColourDuel", "falls", "(I)I"⟩ ∈ Tb := tb_of (i := 911) (by decide +kernel) rfl
theorem kw_912 : Cond.selects "ColourDuel" ⟨"ColourDuel", "falls", "(I)I"⟩ ⟨"ColourDuel", "falls", "(I)I"⟩ ∈ Tb := tb_of (i := 912) (by decide +kernel) rfl
theorem kw_916 : Cond.methodLink "ColourDuelLaw" 152 ⟨"ColourDuelLaw", "valueWithout", "(LColourDuel;I[J)I"⟩ ∈ Tb := tb_of (i := 916) (by decide +kernel) rfl
theorem kw_917 : Cond.static ⟨"ColourDuelLaw", "valueWithout", "(LColourDuel;I[J)I"⟩ ∈ Tb := tb_of (i := 917) (by decide +kernel) rfl
theorem kw_918 : Cond.codeWith ⟨"ColourDuelLaw", "valueWithout", "(LColourDuel;I[J)I"⟩ method_13_code 4 (Option.some FieldType.int) [(0, 9, 12, 28), (0, 9, 15, 39)] ∈ Tb := tb_of (i := 918) (by decide +kernel) rfl
theorem kw_919 : Cond.methodLink "ColourDuelLaw" 51 ⟨"ColourDuel", "valueWithout", "(I)I"⟩ ∈ Tb := tb_of (i := 919) (by decide +kernel) rfl
theorem kw_920 : Cond.instanceMethod ⟨"ColourDuel", "valueWithout", "(I)I"⟩ ∈ Tb := tb_of (i := 920) (by decide +kernel) rfl
theorem kw_921 : Cond.selects "ColourDuel" ⟨"ColourDuel", "valueWithout", "(I)I"⟩ ⟨"ColourDuel", "valueWithout", "(I)I"⟩ ∈ Tb := tb_of (i := 921) (by decide +kernel) rfl
theorem kw_927 : Cond.methodLink "ColourDuelLaw" 155 ⟨"ColourDuelLaw", "lay", "(LColourDuel;II[J)I"⟩ ∈ Tb := tb_of (i := 927) (by decide +kernel) rfl
theorem kw_928 : Cond.static ⟨"ColourDuelLaw", "lay", "(LColourDuel;II[J)I"⟩ ∈ Tb := tb_of (i := 928) (by decide +kernel) rfl
theorem kw_929 : Cond.codeWith ⟨"ColourDuelLaw", "lay", "(LColourDuel;II[J)I"⟩ method_14_code 5 (Option.some FieldType.int) [(0, 10, 13, 28), (0, 10, 17, 13)] ∈ Tb := tb_of (i := 929) (by decide +kernel) rfl
theorem kw_930 : Cond.methodLink "ColourDuelLaw" 54 ⟨"ColourDuel", "lay", "(II)I"⟩ ∈ Tb := tb_of (i := 930) (by decide +kernel) rfl
theorem kw_931 : Cond.instanceMethod ⟨"ColourDuel", "lay", "(II)I"⟩ ∈ Tb := tb_of (i := 931) (by decide +kernel) rfl
theorem kw_932 : Cond.selects "ColourDuel" ⟨"ColourDuel", "lay", "(II)I"⟩ ⟨"ColourDuel", "lay", "(II)I"⟩ ∈ Tb := tb_of (i := 932) (by decide +kernel) rfl
theorem kw_935 : Cond.methodLink "ColourDuelLaw" 158 ⟨"ColourDuelLaw", "pass", "(LColourDuel;[J)I"⟩ ∈ Tb := tb_of (i := 935) (by decide +kernel) rfl
theorem kw_936 : Cond.static ⟨"ColourDuelLaw", "pass", "(LColourDuel;[J)I"⟩ ∈ Tb := tb_of (i := 936) (by decide +kernel) rfl
theorem kw_937 : Cond.codeWith ⟨"ColourDuelLaw", "pass", "(LColourDuel;[J)I"⟩ method_15_code 3 (Option.some FieldType.int) [(0, 8, 11, 13)] ∈ Tb := tb_of (i := 937) (by decide +kernel) rfl
theorem kw_938 : Cond.methodLink "ColourDuelLaw" 57 ⟨"ColourDuel", "pass", "()I"⟩ ∈ Tb := tb_of (i := 938) (by decide +kernel) rfl
theorem kw_939 : Cond.instanceMethod ⟨"ColourDuel", "pass", "()I"⟩ ∈ Tb := tb_of (i := 939) (by decide +kernel) rfl
theorem kw_940 : Cond.selects "ColourDuel" ⟨"ColourDuel", "pass", "()I"⟩ ⟨"ColourDuel", "pass", "()I"⟩ ∈ Tb := tb_of (i := 940) (by decide +kernel) rfl
theorem kw_944 : Cond.methodLink "ColourDuelLaw" 161 ⟨"ColourDuelLaw", "playOut", "(LColourDuel;I[J)I"⟩ ∈ Tb := tb_of (i := 944) (by decide +kernel) rfl
theorem kw_945 : Cond.static ⟨"ColourDuelLaw", "playOut", "(LColourDuel;I[J)I"⟩ ∈ Tb := tb_of (i := 945) (by decide +kernel) rfl
theorem kw_946 : Cond.codeWith ⟨"ColourDuelLaw", "playOut", "(LColourDuel;I[J)I"⟩ method_16_code 4 (Option.some FieldType.int) [(0, 9, 12, 19)] ∈ Tb := tb_of (i := 946) (by decide +kernel) rfl
theorem kw_947 : Cond.methodLink "ColourDuelLaw" 60 ⟨"ColourDuel", "playOut", "(I)I"⟩ ∈ Tb := tb_of (i := 947) (by decide +kernel) rfl
theorem kw_948 : Cond.instanceMethod ⟨"ColourDuel", "playOut", "(I)I"⟩ ∈ Tb := tb_of (i := 948) (by decide +kernel) rfl
theorem kw_949 : Cond.selects "ColourDuel" ⟨"ColourDuel", "playOut", "(I)I"⟩ ⟨"ColourDuel", "playOut", "(I)I"⟩ ∈ Tb := tb_of (i := 949) (by decide +kernel) rfl
theorem kw_952 : Cond.methodLink "ColourDuelLaw" 164 ⟨"ColourDuelLaw", "setPasses", "(LColourDuel;I[J)I"⟩ ∈ Tb := tb_of (i := 952) (by decide +kernel) rfl
theorem kw_953 : Cond.static ⟨"ColourDuelLaw", "setPasses", "(LColourDuel;I[J)I"⟩ ∈ Tb := tb_of (i := 953) (by decide +kernel) rfl
theorem kw_954 : Cond.codeWith ⟨"ColourDuelLaw", "setPasses", "(LColourDuel;I[J)I"⟩ method_17_code 4 (Option.some FieldType.int) [(0, 9, 12, 19)] ∈ Tb := tb_of (i := 954) (by decide +kernel) rfl
theorem kw_955 : Cond.methodLink "ColourDuelLaw" 63 ⟨"ColourDuel", "setPasses", "(I)I"⟩ ∈ Tb := tb_of (i := 955) (by decide +kernel) rfl
theorem kw_956 : Cond.instanceMethod ⟨"ColourDuel", "setPasses", "(I)I"⟩ ∈ Tb := tb_of (i := 956) (by decide +kernel) rfl
theorem kw_957 : Cond.selects "ColourDuel" ⟨"ColourDuel", "setPasses", "(I)I"⟩ ⟨"ColourDuel", "setPasses", "(I)I"⟩ ∈ Tb := tb_of (i := 957) (by decide +kernel) rfl
theorem kw_960 : Cond.methodLink "ColourDuelLaw" 167 ⟨"ColourDuelLaw", "move", "(LColourDuel;II[J)I"⟩ ∈ Tb := tb_of (i := 960) (by decide +kernel) rfl
theorem kw_961 : Cond.static ⟨"ColourDuelLaw", "move", "(LColourDuel;II[J)I"⟩ ∈ Tb := tb_of (i := 961) (by decide +kernel) rfl
theorem kw_962 : Cond.codeWith ⟨"ColourDuelLaw", "move", "(LColourDuel;II[J)I"⟩ method_18_code 5 (Option.some FieldType.int) [(0, 10, 13, 28), (0, 10, 17, 19)] ∈ Tb := tb_of (i := 962) (by decide +kernel) rfl
theorem kw_963 : Cond.methodLink "ColourDuelLaw" 66 ⟨"ColourDuel", "move", "(II)I"⟩ ∈ Tb := tb_of (i := 963) (by decide +kernel) rfl
theorem kw_964 : Cond.instanceMethod ⟨"ColourDuel", "move", "(II)I"⟩ ∈ Tb := tb_of (i := 964) (by decide +kernel) rfl
theorem kw_965 : Cond.selects "ColourDuel" ⟨"ColourDuel", "move", "(II)I"⟩ ⟨"ColourDuel", "move", "(II)I"⟩ ∈ Tb := tb_of (i := 965) (by decide +kernel) rfl
theorem kw_973 : Cond.methodLink "ColourDuelLaw" 170 ⟨"ColourDuelLaw", "account", "(LColourDuel;II[J)I"⟩ ∈ Tb := tb_of (i := 973) (by decide +kernel) rfl
theorem kw_974 : Cond.static ⟨"ColourDuelLaw", "account", "(LColourDuel;II[J)I"⟩ ∈ Tb := tb_of (i := 974) (by decide +kernel) rfl
theorem kw_975 : Cond.codeWith ⟨"ColourDuelLaw", "account", "(LColourDuel;II[J)I"⟩ method_19_code 5 (Option.some FieldType.int) [(0, 10, 13, 28), (0, 10, 17, 19)] ∈ Tb := tb_of (i := 975) (by decide +kernel) rfl
theorem kw_976 : Cond.methodLink "ColourDuelLaw" 69 ⟨"ColourDuel", "account", "(II)I"⟩ ∈ Tb := tb_of (i := 976) (by decide +kernel) rfl
theorem kw_977 : Cond.instanceMethod ⟨"ColourDuel", "account", "(II)I"⟩ ∈ Tb := tb_of (i := 977) (by decide +kernel) rfl
theorem kw_978 : Cond.selects "ColourDuel" ⟨"ColourDuel", "account", "(II)I"⟩ ⟨"ColourDuel", "account", "(II)I"⟩ ∈ Tb := tb_of (i := 978) (by decide +kernel) rfl
theorem kw_994 : Cond.methodLink "ColourDuelLaw" 177 ⟨"ColourDuelLaw", "writtenByte", "(LColourDuel;I[J)I"⟩ ∈ Tb := tb_of (i := 994) (by decide +kernel) rfl
theorem kw_995 : Cond.static ⟨"ColourDuelLaw", "writtenByte", "(LColourDuel;I[J)I"⟩ ∈ Tb := tb_of (i := 995) (by decide +kernel) rfl
theorem kw_996 : Cond.codeWith ⟨"ColourDuelLaw", "writtenByte", "(LColourDuel;I[J)I"⟩ method_20_code 4 (Option.some FieldType.int) [(0, 9, 12, 28)] ∈ Tb := tb_of (i := 996) (by decide +kernel) rfl
theorem kw_997 : Cond.methodLink "ColourDuelLaw" 72 ⟨"ColourDuel", "writtenByte", "(I)I"⟩ ∈ Tb := tb_of (i := 997) (by decide +kernel) rfl
theorem kw_998 : Cond.instanceMethod ⟨"ColourDuel", "writtenByte", "(I)I"⟩ ∈ Tb := tb_of (i := 998) (by decide +kernel) rfl
theorem kw_999 : Cond.selects "ColourDuel" ⟨"ColourDuel", "writtenByte", "(I)I"⟩ ⟨"ColourDuel", "writtenByte", "(I)I"⟩ ∈ Tb := tb_of (i := 999) (by decide +kernel) rfl
theorem kw_1002 : Cond.methodLink "ColourDuelLaw" 180 ⟨"ColourDuelLaw", "undo", "(LColourDuel;[J)I"⟩ ∈ Tb := tb_of (i := 1002) (by decide +kernel) rfl
theorem kw_1003 : Cond.static ⟨"ColourDuelLaw", "undo", "(LColourDuel;[J)I"⟩ ∈ Tb := tb_of (i := 1003) (by decide +kernel) rfl
theorem kw_1004 : Cond.codeWith ⟨"ColourDuelLaw", "undo", "(LColourDuel;[J)I"⟩ method_21_code 3 (Option.some FieldType.int) [(0, 8, 11, 13)] ∈ Tb := tb_of (i := 1004) (by decide +kernel) rfl
theorem kw_1005 : Cond.methodLink "ColourDuelLaw" 75 ⟨"ColourDuel", "undo", "()I"⟩ ∈ Tb := tb_of (i := 1005) (by decide +kernel) rfl
theorem kw_1006 : Cond.instanceMethod ⟨"ColourDuel", "undo", "()I"⟩ ∈ Tb := tb_of (i := 1006) (by decide +kernel) rfl
theorem kw_1007 : Cond.selects "ColourDuel" ⟨"ColourDuel", "undo", "()I"⟩ ⟨"ColourDuel", "undo", "()I"⟩ ∈ Tb := tb_of (i := 1007) (by decide +kernel) rfl
theorem kw_1015 : Cond.methodLink "ColourDuelLaw" 183 ⟨"ColourDuelLaw", "save", "(LColourDuel;I[J)I"⟩ ∈ Tb := tb_of (i := 1015) (by decide +kernel) rfl
theorem kw_1016 : Cond.static ⟨"ColourDuelLaw", "save", "(LColourDuel;I[J)I"⟩ ∈ Tb := tb_of (i := 1016) (by decide +kernel) rfl
theorem kw_1017 : Cond.codeWith ⟨"ColourDuelLaw", "save", "(LColourDuel;I[J)I"⟩ method_22_code 4 (Option.some FieldType.int) [(0, 9, 12, 28)] ∈ Tb := tb_of (i := 1017) (by decide +kernel) rfl
theorem kw_1018 : Cond.methodLink "ColourDuelLaw" 78 ⟨"ColourDuel", "save", "(I)I"⟩ ∈ Tb := tb_of (i := 1018) (by decide +kernel) rfl
theorem kw_1019 : Cond.instanceMethod ⟨"ColourDuel", "save", "(I)I"⟩ ∈ Tb := tb_of (i := 1019) (by decide +kernel) rfl
theorem kw_1020 : Cond.selects "ColourDuel" ⟨"ColourDuel", "save", "(I)I"⟩ ⟨"ColourDuel", "save", "(I)I"⟩ ∈ Tb := tb_of (i := 1020) (by decide +kernel) rfl
theorem kw_1024 : Cond.methodLink "ColourDuelLaw" 186 ⟨"ColourDuelLaw", "restore", "(LColourDuel;I[J)I"⟩ ∈ Tb := tb_of (i := 1024) (by decide +kernel) rfl
theorem kw_1025 : Cond.static ⟨"ColourDuelLaw", "restore", "(LColourDuel;I[J)I"⟩ ∈ Tb := tb_of (i := 1025) (by decide +kernel) rfl
theorem kw_1026 : Cond.codeWith ⟨"ColourDuelLaw", "restore", "(LColourDuel;I[J)I"⟩ method_23_code 4 (Option.some FieldType.int) [(0, 9, 12, 28), (0, 9, 15, 13)] ∈ Tb := tb_of (i := 1026) (by decide +kernel) rfl
theorem kw_1027 : Cond.methodLink "ColourDuelLaw" 81 ⟨"ColourDuel", "restore", "(I)I"⟩ ∈ Tb := tb_of (i := 1027) (by decide +kernel) rfl
theorem kw_1028 : Cond.instanceMethod ⟨"ColourDuel", "restore", "(I)I"⟩ ∈ Tb := tb_of (i := 1028) (by decide +kernel) rfl
theorem kw_1029 : Cond.selects "ColourDuel" ⟨"ColourDuel", "restore", "(I)I"⟩ ⟨"ColourDuel", "restore", "(I)I"⟩ ∈ Tb := tb_of (i := 1029) (by decide +kernel) rfl
theorem kw_1032 : Cond.classLink "ColourDuelLaw" 85 "ColourDuelModel" ∈ Tb := tb_of (i := 1032) (by decide +kernel) rfl
theorem kw_1033 : Cond.instantiable "ColourDuelModel" 22 ∈ Tb := tb_of (i := 1033) (by decide +kernel) rfl
theorem kw_1034 : Cond.methodLink "ColourDuelLaw" 87 ⟨"ColourDuelModel", "<init>", "()V"⟩ ∈ Tb := tb_of (i := 1034) (by decide +kernel) rfl
theorem kw_1035 : Cond.instanceMethod ⟨"ColourDuelModel", "<init>", "()V"⟩ ∈ Tb := tb_of (i := 1035) (by decide +kernel) rfl
theorem kw_1108 : Cond.methodLink "ColourDuelLaw" 94 ⟨"ColourDuelModel", "thrown", "()I"⟩ ∈ Tb := tb_of (i := 1108) (by decide +kernel) rfl
theorem kw_1109 : Cond.instanceMethod ⟨"ColourDuelModel", "thrown", "()I"⟩ ∈ Tb := tb_of (i := 1109) (by decide +kernel) rfl
theorem kw_1110 : Cond.selects "ColourDuelModel" ⟨"ColourDuelModel", "thrown", "()I"⟩ ⟨"ColourDuelModel", "thrown", "()I"⟩ ∈ Tb := tb_of (i := 1110) (by decide +kernel) rfl
theorem kw_1112 : Cond.methodLink "ColourDuelLaw" 182 ⟨"ColourDuelModel", "undo", "()I"⟩ ∈ Tb := tb_of (i := 1112) (by decide +kernel) rfl
theorem kw_1113 : Cond.instanceMethod ⟨"ColourDuelModel", "undo", "()I"⟩ ∈ Tb := tb_of (i := 1113) (by decide +kernel) rfl
theorem kw_1114 : Cond.selects "ColourDuelModel" ⟨"ColourDuelModel", "undo", "()I"⟩ ⟨"ColourDuelModel", "undo", "()I"⟩ ∈ Tb := tb_of (i := 1114) (by decide +kernel) rfl
theorem kw_1119 : Cond.methodLink "ColourDuelLaw" 93 ⟨"ColourDuelModel", "append", "(IIIII)I"⟩ ∈ Tb := tb_of (i := 1119) (by decide +kernel) rfl
theorem kw_1120 : Cond.instanceMethod ⟨"ColourDuelModel", "append", "(IIIII)I"⟩ ∈ Tb := tb_of (i := 1120) (by decide +kernel) rfl
theorem kw_1121 : Cond.selects "ColourDuelModel" ⟨"ColourDuelModel", "append", "(IIIII)I"⟩ ⟨"ColourDuelModel", "append", "(IIIII)I"⟩ ∈ Tb := tb_of (i := 1121) (by decide +kernel) rfl
theorem kw_1123 : Cond.methodLink "ColourDuelLaw" 100 ⟨"ColourDuelModel", "load", "(I)I"⟩ ∈ Tb := tb_of (i := 1123) (by decide +kernel) rfl
theorem kw_1124 : Cond.instanceMethod ⟨"ColourDuelModel", "load", "(I)I"⟩ ∈ Tb := tb_of (i := 1124) (by decide +kernel) rfl
theorem kw_1125 : Cond.selects "ColourDuelModel" ⟨"ColourDuelModel", "load", "(I)I"⟩ ⟨"ColourDuelModel", "load", "(I)I"⟩ ∈ Tb := tb_of (i := 1125) (by decide +kernel) rfl
theorem kw_1264 : Cond.methodLink "ColourDuelLaw" 104 ⟨"ColourDuelModel", "errorPosition", "()I"⟩ ∈ Tb := tb_of (i := 1264) (by decide +kernel) rfl
theorem kw_1265 : Cond.instanceMethod ⟨"ColourDuelModel", "errorPosition", "()I"⟩ ∈ Tb := tb_of (i := 1265) (by decide +kernel) rfl
theorem kw_1266 : Cond.selects "ColourDuelModel" ⟨"ColourDuelModel", "errorPosition", "()I"⟩ ⟨"ColourDuelModel", "errorPosition", "()I"⟩ ∈ Tb := tb_of (i := 1266) (by decide +kernel) rfl
theorem kw_1268 : Cond.methodLink "ColourDuelLaw" 107 ⟨"ColourDuelModel", "count", "(I)I"⟩ ∈ Tb := tb_of (i := 1268) (by decide +kernel) rfl
theorem kw_1269 : Cond.instanceMethod ⟨"ColourDuelModel", "count", "(I)I"⟩ ∈ Tb := tb_of (i := 1269) (by decide +kernel) rfl
theorem kw_1270 : Cond.selects "ColourDuelModel" ⟨"ColourDuelModel", "count", "(I)I"⟩ ⟨"ColourDuelModel", "count", "(I)I"⟩ ∈ Tb := tb_of (i := 1270) (by decide +kernel) rfl
theorem kw_1288 : Cond.methodLink "ColourDuelLaw" 111 ⟨"ColourDuelModel", "vertex", "(II)I"⟩ ∈ Tb := tb_of (i := 1288) (by decide +kernel) rfl
theorem kw_1289 : Cond.instanceMethod ⟨"ColourDuelModel", "vertex", "(II)I"⟩ ∈ Tb := tb_of (i := 1289) (by decide +kernel) rfl
theorem kw_1290 : Cond.selects "ColourDuelModel" ⟨"ColourDuelModel", "vertex", "(II)I"⟩ ⟨"ColourDuelModel", "vertex", "(II)I"⟩ ∈ Tb := tb_of (i := 1290) (by decide +kernel) rfl
theorem kw_1300 : Cond.methodLink "ColourDuelLaw" 114 ⟨"ColourDuelModel", "reason", "(II)I"⟩ ∈ Tb := tb_of (i := 1300) (by decide +kernel) rfl
theorem kw_1301 : Cond.instanceMethod ⟨"ColourDuelModel", "reason", "(II)I"⟩ ∈ Tb := tb_of (i := 1301) (by decide +kernel) rfl
theorem kw_1302 : Cond.selects "ColourDuelModel" ⟨"ColourDuelModel", "reason", "(II)I"⟩ ⟨"ColourDuelModel", "reason", "(II)I"⟩ ∈ Tb := tb_of (i := 1302) (by decide +kernel) rfl
theorem kw_1308 : Cond.methodLink "ColourDuelLaw" 117 ⟨"ColourDuelModel", "part", "(II)I"⟩ ∈ Tb := tb_of (i := 1308) (by decide +kernel) rfl
theorem kw_1309 : Cond.instanceMethod ⟨"ColourDuelModel", "part", "(II)I"⟩ ∈ Tb := tb_of (i := 1309) (by decide +kernel) rfl
theorem kw_1310 : Cond.selects "ColourDuelModel" ⟨"ColourDuelModel", "part", "(II)I"⟩ ⟨"ColourDuelModel", "part", "(II)I"⟩ ∈ Tb := tb_of (i := 1310) (by decide +kernel) rfl
theorem kw_1340 : Cond.methodLink "ColourDuelLaw" 121 ⟨"ColourDuelModel", "value", "()I"⟩ ∈ Tb := tb_of (i := 1340) (by decide +kernel) rfl
theorem kw_1341 : Cond.instanceMethod ⟨"ColourDuelModel", "value", "()I"⟩ ∈ Tb := tb_of (i := 1341) (by decide +kernel) rfl
theorem kw_1342 : Cond.selects "ColourDuelModel" ⟨"ColourDuelModel", "value", "()I"⟩ ⟨"ColourDuelModel", "value", "()I"⟩ ∈ Tb := tb_of (i := 1342) (by decide +kernel) rfl
theorem kw_1352 : Cond.methodLink "ColourDuelLaw" 124 ⟨"ColourDuelModel", "valueIf", "(II)I"⟩ ∈ Tb := tb_of (i := 1352) (by decide +kernel) rfl
theorem kw_1353 : Cond.instanceMethod ⟨"ColourDuelModel", "valueIf", "(II)I"⟩ ∈ Tb := tb_of (i := 1353) (by decide +kernel) rfl
theorem kw_1354 : Cond.selects "ColourDuelModel" ⟨"ColourDuelModel", "valueIf", "(II)I"⟩ ⟨"ColourDuelModel", "valueIf", "(II)I"⟩ ∈ Tb := tb_of (i := 1354) (by decide +kernel) rfl
theorem kw_1360 : Cond.methodLink "ColourDuelLaw" 128 ⟨"ColourDuelModel", "winningMoves", "()I"⟩ ∈ Tb := tb_of (i := 1360) (by decide +kernel) rfl
theorem kw_1361 : Cond.instanceMethod ⟨"ColourDuelModel", "winningMoves", "()I"⟩ ∈ Tb := tb_of (i := 1361) (by decide +kernel) rfl
theorem kw_1362 : Cond.selects "ColourDuelModel" ⟨"ColourDuelModel", "winningMoves", "()I"⟩ ⟨"ColourDuelModel", "winningMoves", "()I"⟩ ∈ Tb := tb_of (i := 1362) (by decide +kernel) rfl
theorem kw_1372 : Cond.methodLink "ColourDuelLaw" 148 ⟨"ColourDuelModel", "winningColours", "(I)I"⟩ ∈ Tb := tb_of (i := 1372) (by decide +kernel) rfl
theorem kw_1373 : Cond.instanceMethod ⟨"ColourDuelModel", "winningColours", "(I)I"⟩ ∈ Tb := tb_of (i := 1373) (by decide +kernel) rfl
theorem kw_1374 : Cond.selects "ColourDuelModel" ⟨"ColourDuelModel", "winningColours", "(I)I"⟩ ⟨"ColourDuelModel", "winningColours", "(I)I"⟩ ∈ Tb := tb_of (i := 1374) (by decide +kernel) rfl
theorem kw_1376 : Cond.methodLink "ColourDuelLaw" 132 ⟨"ColourDuelModel", "bestMove", "()I"⟩ ∈ Tb := tb_of (i := 1376) (by decide +kernel) rfl
theorem kw_1377 : Cond.instanceMethod ⟨"ColourDuelModel", "bestMove", "()I"⟩ ∈ Tb := tb_of (i := 1377) (by decide +kernel) rfl
theorem kw_1378 : Cond.selects "ColourDuelModel" ⟨"ColourDuelModel", "bestMove", "()I"⟩ ⟨"ColourDuelModel", "bestMove", "()I"⟩ ∈ Tb := tb_of (i := 1378) (by decide +kernel) rfl
theorem kw_1384 : Cond.methodLink "ColourDuelLaw" 136 ⟨"ColourDuelModel", "longest", "()I"⟩ ∈ Tb := tb_of (i := 1384) (by decide +kernel) rfl
theorem kw_1385 : Cond.instanceMethod ⟨"ColourDuelModel", "longest", "()I"⟩ ∈ Tb := tb_of (i := 1385) (by decide +kernel) rfl
theorem kw_1386 : Cond.selects "ColourDuelModel" ⟨"ColourDuelModel", "longest", "()I"⟩ ⟨"ColourDuelModel", "longest", "()I"⟩ ∈ Tb := tb_of (i := 1386) (by decide +kernel) rfl
theorem kw_1388 : Cond.methodLink "ColourDuelLaw" 140 ⟨"ColourDuelModel", "shortest", "()I"⟩ ∈ Tb := tb_of (i := 1388) (by decide +kernel) rfl
theorem kw_1389 : Cond.instanceMethod ⟨"ColourDuelModel", "shortest", "()I"⟩ ∈ Tb := tb_of (i := 1389) (by decide +kernel) rfl
theorem kw_1390 : Cond.selects "ColourDuelModel" ⟨"ColourDuelModel", "shortest", "()I"⟩ ⟨"ColourDuelModel", "shortest", "()I"⟩ ∈ Tb := tb_of (i := 1390) (by decide +kernel) rfl
theorem kw_1392 : Cond.methodLink "ColourDuelLaw" 145 ⟨"ColourDuelModel", "meanValue", "()F"⟩ ∈ Tb := tb_of (i := 1392) (by decide +kernel) rfl
theorem kw_1393 : Cond.instanceMethod ⟨"ColourDuelModel", "meanValue", "()F"⟩ ∈ Tb := tb_of (i := 1393) (by decide +kernel) rfl
theorem kw_1394 : Cond.selects "ColourDuelModel" ⟨"ColourDuelModel", "meanValue", "()F"⟩ ⟨"ColourDuelModel", "meanValue", "()F"⟩ ∈ Tb := tb_of (i := 1394) (by decide +kernel) rfl
theorem kw_1396 : Cond.methodLink "ColourDuelLaw" 151 ⟨"ColourDuelModel", "falls", "(I)I"⟩ ∈ Tb := tb_of (i := 1396) (by decide +kernel) rfl
theorem kw_1397 : Cond.instanceMethod ⟨"ColourDuelModel", "falls", "(I)I"⟩ ∈ Tb := tb_of (i := 1397) (by decide +kernel) rfl
theorem kw_1398 : Cond.selects "ColourDuelModel" ⟨"ColourDuelModel", "falls", "(I)I"⟩ ⟨"ColourDuelModel", "falls", "(I)I"⟩ ∈ Tb := tb_of (i := 1398) (by decide +kernel) rfl
theorem kw_1400 : Cond.methodLink "ColourDuelLaw" 154 ⟨"ColourDuelModel", "valueWithout", "(I)I"⟩ ∈ Tb := tb_of (i := 1400) (by decide +kernel) rfl
theorem kw_1401 : Cond.instanceMethod ⟨"ColourDuelModel", "valueWithout", "(I)I"⟩ ∈ Tb := tb_of (i := 1401) (by decide +kernel) rfl
theorem kw_1402 : Cond.selects "ColourDuelModel" ⟨"ColourDuelModel", "valueWithout", "(I)I"⟩ ⟨"ColourDuelModel", "valueWithout", "(I)I"⟩ ∈ Tb := tb_of (i := 1402) (by decide +kernel) rfl
theorem kw_1404 : Cond.methodLink "ColourDuelLaw" 157 ⟨"ColourDuelModel", "lay", "(II)I"⟩ ∈ Tb := tb_of (i := 1404) (by decide +kernel) rfl
theorem kw_1405 : Cond.instanceMethod ⟨"ColourDuelModel", "lay", "(II)I"⟩ ∈ Tb := tb_of (i := 1405) (by decide +kernel) rfl
theorem kw_1406 : Cond.selects "ColourDuelModel" ⟨"ColourDuelModel", "lay", "(II)I"⟩ ⟨"ColourDuelModel", "lay", "(II)I"⟩ ∈ Tb := tb_of (i := 1406) (by decide +kernel) rfl
theorem kw_1408 : Cond.methodLink "ColourDuelLaw" 160 ⟨"ColourDuelModel", "pass", "()I"⟩ ∈ Tb := tb_of (i := 1408) (by decide +kernel) rfl
theorem kw_1409 : Cond.instanceMethod ⟨"ColourDuelModel", "pass", "()I"⟩ ∈ Tb := tb_of (i := 1409) (by decide +kernel) rfl
theorem kw_1410 : Cond.selects "ColourDuelModel" ⟨"ColourDuelModel", "pass", "()I"⟩ ⟨"ColourDuelModel", "pass", "()I"⟩ ∈ Tb := tb_of (i := 1410) (by decide +kernel) rfl
theorem kw_1412 : Cond.methodLink "ColourDuelLaw" 163 ⟨"ColourDuelModel", "playOut", "(I)I"⟩ ∈ Tb := tb_of (i := 1412) (by decide +kernel) rfl
theorem kw_1413 : Cond.instanceMethod ⟨"ColourDuelModel", "playOut", "(I)I"⟩ ∈ Tb := tb_of (i := 1413) (by decide +kernel) rfl
theorem kw_1414 : Cond.selects "ColourDuelModel" ⟨"ColourDuelModel", "playOut", "(I)I"⟩ ⟨"ColourDuelModel", "playOut", "(I)I"⟩ ∈ Tb := tb_of (i := 1414) (by decide +kernel) rfl
theorem kw_1416 : Cond.methodLink "ColourDuelLaw" 166 ⟨"ColourDuelModel", "setPasses", "(I)I"⟩ ∈ Tb := tb_of (i := 1416) (by decide +kernel) rfl
theorem kw_1417 : Cond.instanceMethod ⟨"ColourDuelModel", "setPasses", "(I)I"⟩ ∈ Tb := tb_of (i := 1417) (by decide +kernel) rfl
theorem kw_1418 : Cond.selects "ColourDuelModel" ⟨"ColourDuelModel", "setPasses", "(I)I"⟩ ⟨"ColourDuelModel", "setPasses", "(I)I"⟩ ∈ Tb := tb_of (i := 1418) (by decide +kernel) rfl
theorem kw_1420 : Cond.methodLink "ColourDuelLaw" 169 ⟨"ColourDuelModel", "move", "(II)I"⟩ ∈ Tb := tb_of (i := 1420) (by decide +kernel) rfl
theorem kw_1421 : Cond.instanceMethod ⟨"ColourDuelModel", "move", "(II)I"⟩ ∈ Tb := tb_of (i := 1421) (by decide +kernel) rfl
theorem kw_1422 : Cond.selects "ColourDuelModel" ⟨"ColourDuelModel", "move", "(II)I"⟩ ⟨"ColourDuelModel", "move", "(II)I"⟩ ∈ Tb := tb_of (i := 1422) (by decide +kernel) rfl
theorem kw_1428 : Cond.methodLink "ColourDuelLaw" 172 ⟨"ColourDuelModel", "account", "(II)I"⟩ ∈ Tb := tb_of (i := 1428) (by decide +kernel) rfl
theorem kw_1429 : Cond.instanceMethod ⟨"ColourDuelModel", "account", "(II)I"⟩ ∈ Tb := tb_of (i := 1429) (by decide +kernel) rfl
theorem kw_1430 : Cond.selects "ColourDuelModel" ⟨"ColourDuelModel", "account", "(II)I"⟩ ⟨"ColourDuelModel", "account", "(II)I"⟩ ∈ Tb := tb_of (i := 1430) (by decide +kernel) rfl
theorem kw_1436 : Cond.methodLink "ColourDuelLaw" 176 ⟨"ColourDuelModel", "writeBoard", "()I"⟩ ∈ Tb := tb_of (i := 1436) (by decide +kernel) rfl
theorem kw_1437 : Cond.instanceMethod ⟨"ColourDuelModel", "writeBoard", "()I"⟩ ∈ Tb := tb_of (i := 1437) (by decide +kernel) rfl
theorem kw_1438 : Cond.selects "ColourDuelModel" ⟨"ColourDuelModel", "writeBoard", "()I"⟩ ⟨"ColourDuelModel", "writeBoard", "()I"⟩ ∈ Tb := tb_of (i := 1438) (by decide +kernel) rfl
theorem kw_1444 : Cond.methodLink "ColourDuelLaw" 179 ⟨"ColourDuelModel", "writtenByte", "(I)I"⟩ ∈ Tb := tb_of (i := 1444) (by decide +kernel) rfl
theorem kw_1445 : Cond.instanceMethod ⟨"ColourDuelModel", "writtenByte", "(I)I"⟩ ∈ Tb := tb_of (i := 1445) (by decide +kernel) rfl
theorem kw_1446 : Cond.selects "ColourDuelModel" ⟨"ColourDuelModel", "writtenByte", "(I)I"⟩ ⟨"ColourDuelModel", "writtenByte", "(I)I"⟩ ∈ Tb := tb_of (i := 1446) (by decide +kernel) rfl
theorem kw_1448 : Cond.methodLink "ColourDuelLaw" 185 ⟨"ColourDuelModel", "save", "(I)I"⟩ ∈ Tb := tb_of (i := 1448) (by decide +kernel) rfl
theorem kw_1449 : Cond.instanceMethod ⟨"ColourDuelModel", "save", "(I)I"⟩ ∈ Tb := tb_of (i := 1449) (by decide +kernel) rfl
theorem kw_1450 : Cond.selects "ColourDuelModel" ⟨"ColourDuelModel", "save", "(I)I"⟩ ⟨"ColourDuelModel", "save", "(I)I"⟩ ∈ Tb := tb_of (i := 1450) (by decide +kernel) rfl
theorem kw_1452 : Cond.methodLink "ColourDuelLaw" 188 ⟨"ColourDuelModel", "restore", "(I)I"⟩ ∈ Tb := tb_of (i := 1452) (by decide +kernel) rfl
theorem kw_1453 : Cond.instanceMethod ⟨"ColourDuelModel", "restore", "(I)I"⟩ ∈ Tb := tb_of (i := 1453) (by decide +kernel) rfl
theorem kw_1454 : Cond.selects "ColourDuelModel" ⟨"ColourDuelModel", "restore", "(I)I"⟩ ⟨"ColourDuelModel", "restore", "(I)I"⟩ ∈ Tb := tb_of (i := 1454) (by decide +kernel) rfl
abbrev M_L_append : Mt := (yL_append, cL_append, 8, (some .int), [(0, 16, 19, 13)])
theorem K_L_append : KH M_L_append 7 := ⟨kw_450, kw_81, ⟨by decide, by decide, by decide +kernel⟩, by decide, by decide⟩
abbrev M_L_load : Mt := (yL_load, cL_load, 4, (some .int), [(0, 9, 12, 19)])
theorem K_L_load : KH M_L_load 3 := ⟨kw_530, kw_81, ⟨by decide, by decide, by decide +kernel⟩, by decide, by decide⟩
abbrev M_L_count : Mt := (yL_count, cL_count, 4, (some .int), [(0, 9, 12, 19)])
theorem K_L_count : KH M_L_count 3 := ⟨kw_771, kw_81, ⟨by decide, by decide, by decide +kernel⟩, by decide, by decide⟩
abbrev M_L_vertex : Mt := (yL_vertex, cL_vertex, 5, (some .int), [(0, 10, 13, 28), (0, 10, 17, 19)])
theorem K_L_vertex : KH M_L_vertex 4 := ⟨kw_801, kw_81, ⟨by decide, by decide, by decide +kernel⟩, by decide, by decide⟩
abbrev M_L_reason : Mt := (yL_reason, cL_reason, 5, (some .int), [(0, 10, 13, 28)])
theorem K_L_reason : KH M_L_reason 4 := ⟨kw_840, kw_81, ⟨by decide, by decide, by decide +kernel⟩, by decide, by decide⟩
abbrev M_L_part : Mt := (yL_part, cL_part, 5, (some .int), [(0, 10, 13, 28), (0, 10, 17, 19)])
theorem K_L_part : KH M_L_part 4 := ⟨kw_854, kw_81, ⟨by decide, by decide, by decide +kernel⟩, by decide, by decide⟩
abbrev M_L_valueIf : Mt := (yL_valueIf, cL_valueIf, 5, (some .int), [(0, 10, 13, 28), (0, 10, 17, 39)])
theorem K_L_valueIf : KH M_L_valueIf 4 := ⟨kw_865, kw_81, ⟨by decide, by decide, by decide +kernel⟩, by decide, by decide⟩
abbrev M_L_bestMove : Mt := (yL_bestMove, cL_bestMove, 3, (some .int), [(0, 8, 11, 39)])
theorem K_L_bestMove : KH M_L_bestMove 2 := ⟨kw_889, kw_81, ⟨by decide, by decide, by decide +kernel⟩, by decide, by decide⟩
abbrev M_L_winningColours : Mt := (yL_winningColours, cL_winningColours, 4, (some .int), [(0, 9, 12, 28)])
theorem K_L_winningColours : KH M_L_winningColours 3 := ⟨kw_902, kw_81, ⟨by decide, by decide, by decide +kernel⟩, by decide, by decide⟩
abbrev M_L_falls : Mt := (yL_falls, cL_falls, 4, (some .int), [(0, 9, 12, 28), (0, 9, 15, 39)])
theorem K_L_falls : KH M_L_falls 3 := ⟨kw_909, kw_81, ⟨by decide, by decide, by decide +kernel⟩, by decide, by decide⟩
abbrev M_L_valueWithout : Mt := (yL_valueWithout, cL_valueWithout, 4, (some .int), [(0, 9, 12, 28), (0, 9, 15, 39)])
theorem K_L_valueWithout : KH M_L_valueWithout 3 := ⟨kw_918, kw_81, ⟨by decide, by decide, by decide +kernel⟩, by decide, by decide⟩
abbrev M_L_lay : Mt := (yL_lay, cL_lay, 5, (some .int), [(0, 10, 13, 28), (0, 10, 17, 13)])
theorem K_L_lay : KH M_L_lay 4 := ⟨kw_929, kw_81, ⟨by decide, by decide, by decide +kernel⟩, by decide, by decide⟩
abbrev M_L_pass : Mt := (yL_pass, cL_pass, 3, (some .int), [(0, 8, 11, 13)])
theorem K_L_pass : KH M_L_pass 2 := ⟨kw_937, kw_81, ⟨by decide, by decide, by decide +kernel⟩, by decide, by decide⟩
abbrev M_L_playOut : Mt := (yL_playOut, cL_playOut, 4, (some .int), [(0, 9, 12, 19)])
theorem K_L_playOut : KH M_L_playOut 3 := ⟨kw_946, kw_81, ⟨by decide, by decide, by decide +kernel⟩, by decide, by decide⟩
abbrev M_L_setPasses : Mt := (yL_setPasses, cL_setPasses, 4, (some .int), [(0, 9, 12, 19)])
theorem K_L_setPasses : KH M_L_setPasses 3 := ⟨kw_954, kw_81, ⟨by decide, by decide, by decide +kernel⟩, by decide, by decide⟩
abbrev M_L_move : Mt := (yL_move, cL_move, 5, (some .int), [(0, 10, 13, 28), (0, 10, 17, 19)])
theorem K_L_move : KH M_L_move 4 := ⟨kw_962, kw_81, ⟨by decide, by decide, by decide +kernel⟩, by decide, by decide⟩
abbrev M_L_account : Mt := (yL_account, cL_account, 5, (some .int), [(0, 10, 13, 28), (0, 10, 17, 19)])
theorem K_L_account : KH M_L_account 4 := ⟨kw_975, kw_81, ⟨by decide, by decide, by decide +kernel⟩, by decide, by decide⟩
abbrev M_L_writtenByte : Mt := (yL_writtenByte, cL_writtenByte, 4, (some .int), [(0, 9, 12, 28)])
theorem K_L_writtenByte : KH M_L_writtenByte 3 := ⟨kw_996, kw_81, ⟨by decide, by decide, by decide +kernel⟩, by decide, by decide⟩
abbrev M_L_undo : Mt := (yL_undo, cL_undo, 3, (some .int), [(0, 8, 11, 13)])
theorem K_L_undo : KH M_L_undo 2 := ⟨kw_1004, kw_81, ⟨by decide, by decide, by decide +kernel⟩, by decide, by decide⟩
abbrev M_L_save : Mt := (yL_save, cL_save, 4, (some .int), [(0, 9, 12, 28)])
theorem K_L_save : KH M_L_save 3 := ⟨kw_1017, kw_81, ⟨by decide, by decide, by decide +kernel⟩, by decide, by decide⟩
abbrev M_L_restore : Mt := (yL_restore, cL_restore, 4, (some .int), [(0, 9, 12, 28), (0, 9, 15, 13)])
theorem K_L_restore : KH M_L_restore 3 := ⟨kw_1026, kw_81, ⟨by decide, by decide, by decide +kernel⟩, by decide, by decide⟩
abbrev M_L_law : Mt := (yL_law, cL_law, 9, (some .boolean), [])
