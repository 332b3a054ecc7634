/-! printed by wip/whole/emit.py: walks -/
section
variable {l : Launch} {G : Gx}
set_option maxRecDepth 20000 in
set_option maxHeartbeats 4000000 in
theorem ss_X5_vertex (hs : l.stackTraces = false) (o : Nat) (p1 : Int32) (p2 : Int32) (h : Hp) : Sim l G 4 M_X5_vertex finX 0 [(0, .ref o), (1, .int p1), (2, .int p2)] [] h (m_X5_vertex  o p1 p2 h) := by
  rw [m_X5_vertex]
  refine S_aload_n 0 dX5_vertex_0 rfl rfl ?_
  refine S_getR kc5 (k := 0) (by decide) kw_243 dX5_vertex_1 (fun a1 _ => ?_)
  refine S_iload_n 1 dX5_vertex_4 rfl rfl ?_
  refine S_callV_BR (lev' := 0) (My := M_X0_hasVertex) [.int p1] [] kc0 K_X0_hasVertex kw_807 kw_808 kw_809 dX5_vertex_5 (by decide) rfl (Nat.le_of_ble_eq_true rfl) (fun xx ee => sm_X0_hasVertex hs a1 p1 h xx ee) (fun bb2 _ => ?_)
  refine S_if_neB 21 dX5_vertex_8 (by decide) (fun c22 => ?_) (fun c22 => ?_)
  · refine S_iload_n 2 dX5_vertex_21 rfl rfl ?_
    refine S_sw 143 [60, 69, 78, 87, 99, 123] dX5_vertex_22 (by decide) (by decide) rfl (by decide) ?_ ⟨?_, ?_, ?_, ?_, ?_, ?_, trivial⟩
    · exact S_throw1 rfl (by decide +kernel) kw_536 kn_837 kw_546 dX5_vertex_143 dX5_vertex_146 dX5_vertex_147 dX5_vertex_149 dX5_vertex_152
    · refine S_aload_n 0 dX5_vertex_60 rfl rfl ?_
      refine S_getR kc5 (k := 0) (by decide) kw_243 dX5_vertex_61 (fun a3 _ => ?_)
      refine S_iload_n 1 dX5_vertex_64 rfl rfl ?_
      refine S_callV_IR (lev' := 2) (My := M_X0_colourOf) [.int p1] [] kc0 K_X0_colourOf kw_431 kw_432 kw_433 dX5_vertex_65 (by decide) rfl (Nat.le_of_ble_eq_true rfl) (fun xx ee => sm_X0_colourOf hs a3 p1 h xx ee) (fun x4 _ => ?_)
      exact S_ireturn rfl rfl dX5_vertex_68
    · refine S_aload_n 0 dX5_vertex_69 rfl rfl ?_
      refine S_getR kc5 (k := 0) (by decide) kw_243 dX5_vertex_70 (fun a5 _ => ?_)
      refine S_iload_n 1 dX5_vertex_73 rfl rfl ?_
      refine S_callV_IR (lev' := 2) (My := M_X0_listOf) [.int p1] [] kc0 K_X0_listOf kw_827 kw_828 kw_829 dX5_vertex_74 (by decide) rfl (Nat.le_of_ble_eq_true rfl) (fun xx ee => sm_X0_listOf hs a5 p1 h xx ee) (fun x6 _ => ?_)
      exact S_ireturn rfl rfl dX5_vertex_77
    · refine S_aload_n 0 dX5_vertex_78 rfl rfl ?_
      refine S_getR kc5 (k := 0) (by decide) kw_243 dX5_vertex_79 (fun a7 _ => ?_)
      refine S_iload_n 1 dX5_vertex_82 rfl rfl ?_
      refine S_callV_IR (lev' := 3) (My := M_X0_choicesOn) [.int p1] [] kc0 K_X0_choicesOn kw_379 kw_380 kw_381 dX5_vertex_83 (by decide) rfl (Nat.le_of_ble_eq_true rfl) (fun xx ee => sm_X0_choicesOn hs a7 p1 h xx ee) (fun x8 _ => ?_)
      exact S_ireturn rfl rfl dX5_vertex_86
    · refine S_aload_n 0 dX5_vertex_87 rfl rfl ?_
      refine S_getR kc5 (k := 0) (by decide) kw_243 dX5_vertex_88 (fun a9 _ => ?_)
      refine S_iload_n 1 dX5_vertex_91 rfl rfl ?_
      refine S_callV_IR (lev' := 0) (My := M_X0_neighbours) [.int p1] [] kc0 K_X0_neighbours kw_831 kw_326 kw_327 dX5_vertex_92 (by decide) rfl (Nat.le_of_ble_eq_true rfl) (fun xx ee => sm_X0_neighbours hs a9 p1 h xx ee) (fun x10 _ => ?_)
      refine S_callS_IR (lev' := 0) (My := M_J6_bitCount) [.int x10] [] K_J6_bitCount kw_358 kw_285 dX5_vertex_95 (by decide) rfl (Nat.le_of_ble_eq_true rfl) (fun xx ee => sm_J6_bitCount hs x10 _ xx ee) (fun x11 _ => ?_)
      exact S_ireturn rfl rfl dX5_vertex_98
    · refine S_aload_n 0 dX5_vertex_99 rfl rfl ?_
      refine S_getR kc5 (k := 0) (by decide) kw_243 dX5_vertex_100 (fun a12 _ => ?_)
      refine S_iload_n 1 dX5_vertex_103 rfl rfl ?_
      refine S_callV_BR (lev' := 1) (My := M_X0_isFree) [.int p1] [] kc0 K_X0_isFree kw_430 kw_388 kw_389 dX5_vertex_104 (by decide) rfl (Nat.le_of_ble_eq_true rfl) (fun xx ee => sm_X0_isFree hs a12 p1 h xx ee) (fun bb13 _ => ?_)
      refine S_if_eqB 121 dX5_vertex_107 (by decide) (fun c16 => ?_) (fun c16 => ?_)
      · refine S_iconst (-1) dX5_vertex_121 (by decide) ?_
        exact S_ireturn rfl rfl dX5_vertex_122
      · refine S_aload_n 0 dX5_vertex_110 rfl rfl ?_
        refine S_getR kc5 (k := 0) (by decide) kw_243 dX5_vertex_111 (fun a14 _ => ?_)
        refine S_iload_n 1 dX5_vertex_114 rfl rfl ?_
        refine S_callV_IR (lev' := 3) (My := M_X0_partNumberOf) [.int p1] [] kc0 K_X0_partNumberOf kw_832 kw_833 kw_834 dX5_vertex_115 (by decide) rfl (Nat.le_of_ble_eq_true rfl) (fun xx ee => sm_X0_partNumberOf hs a14 p1 h xx ee) (fun x15 _ => ?_)
        refine S_goto 122 dX5_vertex_118 (by decide) ?_
        exact S_ireturn rfl rfl dX5_vertex_122
    · refine S_aload_n 0 dX5_vertex_123 rfl rfl ?_
      refine S_getR kc5 (k := 0) (by decide) kw_243 dX5_vertex_124 (fun a17 _ => ?_)
      refine S_iload_n 1 dX5_vertex_127 rfl rfl ?_
      refine S_callV_IR (lev' := 0) (My := M_X0_neighbours) [.int p1] [] kc0 K_X0_neighbours kw_831 kw_326 kw_327 dX5_vertex_128 (by decide) rfl (Nat.le_of_ble_eq_true rfl) (fun xx ee => sm_X0_neighbours hs a17 p1 h xx ee) (fun x18 _ => ?_)
      refine S_aload_n 0 dX5_vertex_131 rfl rfl ?_
      refine S_getR kc5 (k := 0) (by decide) kw_243 dX5_vertex_132 (fun a19 _ => ?_)
      refine S_getI kc0 (k := 4) (by decide) kw_135 dX5_vertex_135 (fun x20 _ => ?_)
      refine S_iand dX5_vertex_138 ?_
      refine S_callS_IR (lev' := 0) (My := M_J6_bitCount) [.int (x18 &&& x20)] [] K_J6_bitCount kw_358 kw_285 dX5_vertex_139 (by decide) rfl (Nat.le_of_ble_eq_true rfl) (fun xx ee => sm_J6_bitCount hs (x18 &&& x20) _ xx ee) (fun x21 _ => ?_)
      exact S_ireturn rfl rfl dX5_vertex_142
  · exact S_throw2 rfl (by decide +kernel) kw_811 kn_820 kw_821 dX5_vertex_11 dX5_vertex_14 dX5_vertex_15 dX5_vertex_17 dX5_vertex_20
end
section
variable {l : Launch} {G : Gx}
set_option maxRecDepth 20000 in
set_option maxHeartbeats 4000000 in
theorem ss_X5_lay (hs : l.stackTraces = false) (o : Nat) (p1 : Int32) (p2 : Int32) (h : Hp) : Sim l G 4 M_X5_lay finX 0 [(0, .ref o), (1, .int p1), (2, .int p2)] [] h (m_X5_lay  o p1 p2 h) := by
  rw [m_X5_lay]
  refine S_aload_n 0 dX5_lay_0 rfl rfl ?_
  refine S_getR kc5 (k := 0) (by decide) kw_243 dX5_lay_1 (fun a1 _ => ?_)
  refine S_iload_n 1 dX5_lay_4 rfl rfl ?_
  refine S_iload_n 2 dX5_lay_5 rfl rfl ?_
  refine S_callV_BR (lev' := 1) (My := M_X0_hasPair) [.int p1, .int p2] [] kc0 K_X0_hasPair kw_845 kw_846 kw_847 dX5_lay_6 (by decide) rfl (Nat.le_of_ble_eq_true rfl) (fun xx ee => sm_X0_hasPair hs a1 p1 p2 h xx ee) (fun bb2 _ => ?_)
  refine S_if_neB 22 dX5_lay_9 (by decide) (fun c15 => ?_) (fun c15 => ?_)
  · refine S_aload_n 0 dX5_lay_22 rfl rfl ?_
    refine S_getR kc5 (k := 0) (by decide) kw_243 dX5_lay_23 (fun a3 _ => ?_)
    refine S_iload_n 1 dX5_lay_26 rfl rfl ?_
    refine S_iload_n 2 dX5_lay_27 rfl rfl ?_
    refine S_callV_IR (lev' := 2) (My := M_X0_whyNot) [.int p1, .int p2] [] kc0 K_X0_whyNot kw_851 kw_384 kw_385 dX5_lay_28 (by decide) rfl (Nat.le_of_ble_eq_true rfl) (fun xx ee => sm_X0_whyNot hs a3 p1 p2 h xx ee) (fun x4 _ => ?_)
    refine S_if_eq 44 dX5_lay_31 (by decide) (fun c14 => ?_) (fun c14 => ?_)
    · refine S_aload_n 0 dX5_lay_44 rfl rfl ?_
      refine S_getR kc5 (k := 3) (by decide) kw_246 dX5_lay_45 (fun a5 _ => ?_)
      refine S_aload_n 0 dX5_lay_48 rfl rfl ?_
      refine S_getR kc5 (k := 0) (by decide) kw_243 dX5_lay_49 (fun a6 _ => ?_)
      refine S_callV_VW (lev' := 3) (My := M_X1_keep) [.ref a6] [] kc1 K_X1_keep kw_753 kw_754 kw_755 dX5_lay_52 (by decide) rfl (Nat.le_of_ble_eq_true rfl) (fun xx ee => sm_X1_keep hs a5 a6 h xx ee) (fun h7 _ => ?_)
      refine S_aload_n 0 dX5_lay_55 rfl rfl ?_
      refine S_getR kc5 (k := 0) (by decide) kw_243 dX5_lay_56 (fun a8 _ => ?_)
      refine S_iload_n 1 dX5_lay_59 rfl rfl ?_
      refine S_iload_n 2 dX5_lay_60 rfl rfl ?_
      refine S_callV_VW (lev' := 3) (My := M_X0_paint) [.int p1, .int p2] [] kc0 K_X0_paint kw_934 kw_709 kw_710 dX5_lay_61 (by decide) rfl (Nat.le_of_ble_eq_true rfl) (fun xx ee => sm_X0_paint hs a8 p1 p2 h7 xx ee) (fun h9 _ => ?_)
      refine S_aload_n 0 dX5_lay_64 rfl rfl ?_
      refine S_getR kc5 (k := 0) (by decide) kw_243 dX5_lay_65 (fun a10 _ => ?_)
      refine S_aload_n 0 dX5_lay_68 rfl rfl ?_
      refine S_getR kc5 (k := 0) (by decide) kw_243 dX5_lay_69 (fun a11 _ => ?_)
      refine S_getI kc0 (k := 4) (by decide) kw_135 dX5_lay_72 (fun x12 _ => ?_)
      refine S_callV_IR (lev' := 2) (My := M_X0_partsIn) [.int x12] [] kc0 K_X0_partsIn kw_418 kw_419 kw_420 dX5_lay_75 (by decide) rfl (Nat.le_of_ble_eq_true rfl) (fun xx ee => sm_X0_partsIn hs a10 x12 h9 xx ee) (fun x13 _ => ?_)
      exact S_ireturn rfl rfl dX5_lay_78
    · exact S_throw0 rfl (by decide +kernel) kw_456 kn_880 kw_499 dX5_lay_34 dX5_lay_37 dX5_lay_38 dX5_lay_40 dX5_lay_43
  · exact S_throw2 rfl (by decide +kernel) kw_811 kn_850 kw_821 dX5_lay_12 dX5_lay_15 dX5_lay_16 dX5_lay_18 dX5_lay_21
end
section
variable {l : Launch} {G : Gx}
set_option maxRecDepth 20000 in
set_option maxHeartbeats 4000000 in
theorem ss_X5_pass (hs : l.stackTraces = false) (o : Nat) (h : Hp) : Sim l G 4 M_X5_pass finX 0 [(0, .ref o)] [] h (m_X5_pass  o h) := by
  rw [m_X5_pass]
  refine S_aload_n 0 dX5_pass_0 rfl rfl ?_
  refine S_getR kc5 (k := 0) (by decide) kw_243 dX5_pass_1 (fun a1 _ => ?_)
  refine S_getI kc0 (k := 3) (by decide) kw_132 dX5_pass_4 (fun x2 _ => ?_)
  refine S_if_ne 20 dX5_pass_7 (by decide) (fun c10 => ?_) (fun c10 => ?_)
  · refine S_aload_n 0 dX5_pass_20 rfl rfl ?_
    refine S_getR kc5 (k := 3) (by decide) kw_246 dX5_pass_21 (fun a3 _ => ?_)
    refine S_aload_n 0 dX5_pass_24 rfl rfl ?_
    refine S_getR kc5 (k := 0) (by decide) kw_243 dX5_pass_25 (fun a4 _ => ?_)
    refine S_callV_VW (lev' := 3) (My := M_X1_keep) [.ref a4] [] kc1 K_X1_keep kw_753 kw_754 kw_755 dX5_pass_28 (by decide) rfl (Nat.le_of_ble_eq_true rfl) (fun xx ee => sm_X1_keep hs a3 a4 h xx ee) (fun h5 _ => ?_)
    refine S_aload_n 0 dX5_pass_31 rfl rfl ?_
    refine S_getR kc5 (k := 0) (by decide) kw_243 dX5_pass_32 (fun a6 _ => ?_)
    refine S_callV_VW (lev' := 3) (My := M_X0_spendPass) [] [] kc0 K_X0_spendPass kw_943 kw_746 kw_747 dX5_pass_35 (by decide) rfl (Nat.le_of_ble_eq_true rfl) (fun xx ee => sm_X0_spendPass hs a6 h5 xx ee) (fun h7 _ => ?_)
    refine S_aload_n 0 dX5_pass_38 rfl rfl ?_
    refine S_getR kc5 (k := 0) (by decide) kw_243 dX5_pass_39 (fun a8 _ => ?_)
    refine S_getI kc0 (k := 3) (by decide) kw_132 dX5_pass_42 (fun x9 _ => ?_)
    exact S_ireturn rfl rfl dX5_pass_45
  · exact S_throw0 rfl (by decide +kernel) kw_456 kn_942 kw_499 dX5_pass_10 dX5_pass_13 dX5_pass_14 dX5_pass_16 dX5_pass_19
end
section
variable {l : Launch} {G : Gx}
set_option maxRecDepth 20000 in
set_option maxHeartbeats 4000000 in
theorem ss_X5_setPasses (hs : l.stackTraces = false) (o : Nat) (p1 : Int32) (h : Hp) : Sim l G 4 M_X5_setPasses finX 0 [(0, .ref o), (1, .int p1)] [] h (m_X5_setPasses  o p1 h) := by
  rw [m_X5_setPasses]
  refine S_iload_n 1 dX5_setPasses_0 rfl rfl ?_
  refine S_if_lt 10 dX5_setPasses_1 (by decide) (fun c9 => ?_) (fun c9 => ?_)
  · exact S_throw1 rfl (by decide +kernel) kw_536 kn_959 kw_546 dX5_setPasses_10 dX5_setPasses_13 dX5_setPasses_14 dX5_setPasses_16 dX5_setPasses_19
  · refine S_iload_n 1 dX5_setPasses_4 rfl rfl ?_
    refine S_bipush 9 dX5_setPasses_5 (by decide) ?_
    refine S_icmp_le 20 dX5_setPasses_7 (by decide) (fun c8 => ?_) (fun c8 => ?_)
    · refine S_aload_n 0 dX5_setPasses_20 rfl rfl ?_
      refine S_getR kc5 (k := 3) (by decide) kw_246 dX5_setPasses_21 (fun a1 _ => ?_)
      refine S_aload_n 0 dX5_setPasses_24 rfl rfl ?_
      refine S_getR kc5 (k := 0) (by decide) kw_243 dX5_setPasses_25 (fun a2 _ => ?_)
      refine S_callV_VW (lev' := 3) (My := M_X1_keep) [.ref a2] [] kc1 K_X1_keep kw_753 kw_754 kw_755 dX5_setPasses_28 (by decide) rfl (Nat.le_of_ble_eq_true rfl) (fun xx ee => sm_X1_keep hs a1 a2 h xx ee) (fun h3 _ => ?_)
      refine S_aload_n 0 dX5_setPasses_31 rfl rfl ?_
      refine S_getR kc5 (k := 0) (by decide) kw_243 dX5_setPasses_32 (fun a4 _ => ?_)
      refine S_getI kc0 (k := 3) (by decide) kw_132 dX5_setPasses_35 (fun x5 _ => ?_)
      refine S_istore_n [(2, .int x5), (0, .ref o), (1, .int p1)] dX5_setPasses_38 rfl (Nat.le_of_ble_eq_true rfl) rfl ?_
      refine S_aload_n 1 dX5_setPasses_39 rfl rfl ?_
      refine S_getR kc5 (k := 0) (by decide) kw_243 dX5_setPasses_40 (fun a6 _ => ?_)
      refine S_iload_n 2 dX5_setPasses_43 rfl rfl ?_
      refine S_put kc0 (k := 3) (by decide) rfl kw_132 rfl rfl dX5_setPasses_44 (fun h7 _ => ?_)
      refine S_iload_n 0 dX5_setPasses_47 rfl rfl ?_
      exact S_ireturn rfl rfl dX5_setPasses_48
    · exact S_throw1 rfl (by decide +kernel) kw_536 kn_959 kw_546 dX5_setPasses_10 dX5_setPasses_13 dX5_setPasses_14 dX5_setPasses_16 dX5_setPasses_19
end
section
variable {l : Launch} {G : Gx}
set_option maxRecDepth 20000 in
set_option maxHeartbeats 4000000 in
theorem ss_X5_restore (hs : l.stackTraces = false) (o : Nat) (p1 : Int32) (h : Hp) : Sim l G 4 M_X5_restore finX 0 [(0, .ref o), (1, .int p1)] [] h (m_X5_restore  o p1 h) := by
  rw [m_X5_restore]
  refine S_iload_n 1 dX5_restore_0 rfl rfl ?_
  refine S_if_lt 13 dX5_restore_1 (by decide) (fun c14 => ?_) (fun c14 => ?_)
  · exact S_throwW2 rfl (by decide +kernel) kw_811 kn_1022 kw_821 dX5_restore_13 dX5_restore_16 dX5_restore_17 dX5_restore_20 dX5_restore_23
  · refine S_iload_n 1 dX5_restore_4 rfl rfl ?_
    refine S_aload_n 0 dX5_restore_5 rfl rfl ?_
    refine S_getR kc5 (k := 4) (by decide) kw_247 dX5_restore_6 (fun a1 _ => ?_)
    refine S_alen (t := 4) (ty := .object "ColourDuel$Board") rfl dX5_restore_9 (fun x2 _ => ?_)
    refine S_icmp_lt 24 dX5_restore_10 (by decide) (fun c13 => ?_) (fun c13 => ?_)
    · refine S_aload_n 0 dX5_restore_24 rfl rfl ?_
      refine S_getR kc5 (k := 4) (by decide) kw_247 dX5_restore_25 (fun a3 _ => ?_)
      refine S_iload_n 1 dX5_restore_28 rfl rfl ?_
      refine S_aaload dX5_restore_29 (fun q4 _ => ?_)
      refine S_qstore_n [(2, va_rf q4), (0, .ref o), (1, .int p1)] dX5_restore_30 rfl (Nat.le_of_ble_eq_true rfl) (by cases q4 <;> rfl) ?_
      refine S_qload_n 0 dX5_restore_31 rfl rfl ?_
      refine S_ifnonnull 46 dX5_restore_32 (by decide) ?_ ?_
      · intro a5 ha5
        subst ha5
        refine S_aload_n 1 dX5_restore_46 rfl rfl ?_
        refine S_getR kc5 (k := 3) (by decide) kw_246 dX5_restore_47 (fun a6 _ => ?_)
        refine S_aload_n 1 dX5_restore_50 rfl rfl ?_
        refine S_getR kc5 (k := 0) (by decide) kw_243 dX5_restore_51 (fun a7 _ => ?_)
        refine S_callV_VW (lev' := 3) (My := M_X1_keep) [.ref a7] [] kc1 K_X1_keep kw_753 kw_754 kw_755 dX5_restore_54 (by decide) rfl (Nat.le_of_ble_eq_true rfl) (fun xx ee => sm_X1_keep hs a6 a7 h xx ee) (fun h8 _ => ?_)
        refine S_aload_n 1 dX5_restore_57 rfl rfl ?_
        refine S_getR kc5 (k := 0) (by decide) kw_243 dX5_restore_58 (fun a9 _ => ?_)
        refine S_aload_n 0 dX5_restore_61 rfl rfl ?_
        refine S_callV_VW (lev' := 1) (My := M_X0_takeFrom) [.ref a5] [] kc0 K_X0_takeFrom kw_761 kw_762 kw_763 dX5_restore_62 (by decide) rfl (Nat.le_of_ble_eq_true rfl) (fun xx ee => sm_X0_takeFrom hs a9 a5 h8 xx ee) (fun h10 _ => ?_)
        refine S_aload_n 1 dX5_restore_65 rfl rfl ?_
        refine S_getR kc5 (k := 0) (by decide) kw_243 dX5_restore_66 (fun a11 _ => ?_)
        refine S_getI kc0 (k := 5) (by decide) kw_137 dX5_restore_69 (fun x12 _ => ?_)
        exact S_ireturn rfl rfl dX5_restore_72
      · intro _
        exact S_throwW0 rfl (by decide +kernel) kw_456 kn_1031 kw_499 dX5_restore_35 dX5_restore_38 dX5_restore_39 dX5_restore_42 dX5_restore_45
    · exact S_throwW2 rfl (by decide +kernel) kw_811 kn_1022 kw_821 dX5_restore_13 dX5_restore_16 dX5_restore_17 dX5_restore_20 dX5_restore_23
end
section
variable {l : Launch} {G : Gx}
set_option maxRecDepth 20000 in
set_option maxHeartbeats 4000000 in
theorem ss_X6_readsVertex (hs : l.stackTraces = false) (o : Nat) (h : Hp) : Sim l G 4 M_X6_readsVertex (fun v : Hp => ((.inl none : Oc), v)) 0 [(0, .ref o)] [] h (m_X6_readsVertex  o h) := by
  rw [m_X6_readsVertex]
  refine S_aload_n 0 dX6_readsVertex_0 rfl rfl ?_
  refine S_getR kc6 (k := 0) (by decide) kw_1040 dX6_readsVertex_1 (fun a1 _ => ?_)
  refine S_iconst 0 dX6_readsVertex_4 (by decide) ?_
  refine S_iaload dX6_readsVertex_5 (fun x2 _ => ?_)
  refine S_bipush 9 dX6_readsVertex_6 (by decide) ?_
  refine S_jK (fun (k4 : Hp → Option Hp) => ∀ (h3 : Hp), Sim l G 4 M_X6_readsVertex (fun v : Hp => ((.inl none : Oc), v)) 27 [(0, .ref o)] [] h3 (k4 h3)) ?_ (fun k4 hk4 => ?_)
  · intro h3
    refine S_aload_n 0 dX6_readsVertex_27 rfl rfl ?_
    refine S_iconst 1 dX6_readsVertex_28 (by decide) ?_
    refine S_callV_VW (lev' := 2) (My := M_X6_must) [.int 1] [] kc6 K_X6_must kw_1149 kw_1151 kw_32 dX6_readsVertex_29 (by decide) rfl (Nat.le_of_ble_eq_true rfl) (fun xx ee => sm_X6_must hs o true h3 xx ee) (fun h5 _ => ?_)
    refine S_iconst 1 dX6_readsVertex_32 (by decide) ?_
    refine S_aload_n 0 dX6_readsVertex_33 rfl rfl ?_
    refine S_getR kc6 (k := 0) (by decide) kw_1040 dX6_readsVertex_34 (fun a6 _ => ?_)
    refine S_iconst 1 dX6_readsVertex_37 (by decide) ?_
    refine S_iaload dX6_readsVertex_38 (fun x7 _ => ?_)
    refine S_ishl dX6_readsVertex_39 ?_
    refine S_iconst 1 dX6_readsVertex_40 (by decide) ?_
    refine S_isub dX6_readsVertex_41 ?_
    refine S_nmI (fun x8 => ?_)
    refine S_istore_n [(1, .int x8), (0, .ref o)] dX6_readsVertex_42 rfl (Nat.le_of_ble_eq_true rfl) rfl ?_
    refine S_aload_n 1 dX6_readsVertex_43 rfl rfl ?_
    refine S_getI kc6 (k := 15) (by decide) kw_1055 dX6_readsVertex_44 (fun x9 _ => ?_)
    refine S_jK (fun (k12 : Int32 → Hp → Option Hp) => ∀ (v10 : Int32) (h11 : Hp), Sim l G 4 M_X6_readsVertex (fun v : Hp => ((.inl none : Oc), v)) 83 [(0, .ref o), (1, .int v10)] [] h11 (k12 v10 h11)) ?_ (fun k12 hk12 => ?_)
    · intro v10 h11
      refine S_aload_n 0 dX6_readsVertex_83 rfl rfl ?_
      refine S_callV_VW (lev' := 3) (My := M_X6_mustEnd) [] [] kc6 K_X6_mustEnd kw_1162 kw_1164 kw_35 dX6_readsVertex_84 (by decide) rfl (Nat.le_of_ble_eq_true rfl) (fun xx ee => sm_X6_mustEnd hs o h11 xx ee) (fun h13 _ => ?_)
      refine S_aload_n 0 dX6_readsVertex_87 rfl rfl ?_
      refine S_getI kc6 (k := 15) (by decide) kw_1055 dX6_readsVertex_88 (fun x14 _ => ?_)
      refine S_if_eq 95 dX6_readsVertex_91 (by decide) (fun c22 => ?_) (fun c22 => ?_)
      · refine S_aload_n 0 dX6_readsVertex_95 rfl rfl ?_
        refine S_getR kc6 (k := 0) (by decide) kw_1040 dX6_readsVertex_96 (fun a15 _ => ?_)
        refine S_iconst 4 dX6_readsVertex_99 (by decide) ?_
        refine S_aload_n 0 dX6_readsVertex_100 rfl rfl ?_
        refine S_getR kc6 (k := 0) (by decide) kw_1040 dX6_readsVertex_101 (fun a16 _ => ?_)
        refine S_iconst 0 dX6_readsVertex_104 (by decide) ?_
        refine S_iaload dX6_readsVertex_105 (fun x17 _ => ?_)
        refine S_iadd dX6_readsVertex_106 ?_
        refine S_iload_n 1 dX6_readsVertex_107 rfl rfl ?_
        refine S_iastore dX6_readsVertex_108 (fun h18 _ => ?_)
        refine S_aload_n 0 dX6_readsVertex_109 rfl rfl ?_
        refine S_getR kc6 (k := 0) (by decide) kw_1040 dX6_readsVertex_110 (fun a19 _ => ?_)
        refine S_iconst 0 dX6_readsVertex_113 (by decide) ?_
        refine S_dup2 dX6_readsVertex_114 rfl rfl ?_
        refine S_iaload dX6_readsVertex_115 (fun x20 _ => ?_)
        refine S_iconst 1 dX6_readsVertex_116 (by decide) ?_
        refine S_iadd dX6_readsVertex_117 ?_
        refine S_iastore dX6_readsVertex_118 (fun h21 _ => ?_)
        exact S_return rfl rfl dX6_readsVertex_119
      · exact S_return rfl rfl dX6_readsVertex_94
    refine S_if_ne 83 dX6_readsVertex_47 (by decide) (fun c33 => ?_) (fun c33 => ?_)
    · exact Sim.sub [1, 0] rfl (hk12 x8 h5)
    · refine S_aload_n 1 dX6_readsVertex_50 rfl rfl ?_
      refine S_getI kc6 (k := 13) (by decide) kw_1053 dX6_readsVertex_51 (fun x23 _ => ?_)
      refine S_if_ne 83 dX6_readsVertex_54 (by decide) (fun c32 => ?_) (fun c32 => ?_)
      · exact Sim.sub [1, 0] rfl (hk12 x8 h5)
      · refine S_aload_n 1 dX6_readsVertex_57 rfl rfl ?_
        refine S_callV_IR (lev' := 0) (My := M_X6_lettersHere) [] [] kc6 K_X6_lettersHere kw_1175 kw_1177 kw_38 dX6_readsVertex_58 (by decide) rfl (Nat.le_of_ble_eq_true rfl) (fun xx ee => sm_X6_lettersHere hs o h5 xx ee) (fun x24 _ => ?_)
        refine S_istore_n [(1, .int x24), (0, .ref o)] dX6_readsVertex_61 rfl (Nat.le_of_ble_eq_true rfl) rfl ?_
        refine S_iload_n 0 dX6_readsVertex_62 rfl rfl ?_
        refine S_jK (fun (k26 : Hp → Option Hp) => ∀ (h25 : Hp), Sim l G 4 M_X6_readsVertex (fun v : Hp => ((.inl none : Oc), v)) 72 [(0, .ref o), (1, .int x24)] [] h25 (k26 h25)) ?_ (fun k26 hk26 => ?_)
        · intro h25
          refine S_aload_n 0 dX6_readsVertex_72 rfl rfl ?_
          refine S_getI kc6 (k := 15) (by decide) kw_1055 dX6_readsVertex_73 (fun x27 _ => ?_)
          refine S_if_ne 83 dX6_readsVertex_76 (by decide) (fun c29 => ?_) (fun c29 => ?_)
          · exact Sim.sub [0, 1] rfl (hk12 x24 h25)
          · refine S_aload_n 0 dX6_readsVertex_79 rfl rfl ?_
            refine S_callV_VW (lev' := 1) (My := M_X6_next) [] [] kc6 K_X6_next kw_1130 kw_1132 kw_28 dX6_readsVertex_80 (by decide) rfl (Nat.le_of_ble_eq_true rfl) (fun xx ee => sm_X6_next hs o h25 xx ee) (fun h28 _ => ?_)
            exact Sim.sub [0, 1] rfl (hk12 x24 h28)
        refine S_if_ne 72 dX6_readsVertex_63 (by decide) (fun c31 => ?_) (fun c31 => ?_)
        · exact Sim.sub [1, 0] rfl (hk26 h5)
        · refine S_aload_n 1 dX6_readsVertex_66 rfl rfl ?_
          refine S_bipush (-3) dX6_readsVertex_67 (by decide) ?_
          refine S_callV_VW (lev' := 0) (My := M_X6_fails) [.int (-3)] [] kc6 K_X6_fails kw_1153 kw_1155 kw_33 dX6_readsVertex_69 (by decide) rfl (Nat.le_of_ble_eq_true rfl) (fun xx ee => sm_X6_fails hs o (-3 : Int32) h5 xx ee) (fun h30 _ => ?_)
          exact Sim.sub [1, 0] rfl (hk26 h30)
  refine S_jK (fun (k34 : Option Hp) => Sim l G 4 M_X6_readsVertex (fun v : Hp => ((.inl none : Oc), v)) 21 [(0, .ref o)] [] h (k34)) ?_ (fun k34 hk34 => ?_)
  · refine S_aload_n 0 dX6_readsVertex_21 rfl rfl ?_
    refine S_bipush (-6) dX6_readsVertex_22 (by decide) ?_
    refine S_callV_VW (lev' := 0) (My := M_X6_fails) [.int (-6)] [] kc6 K_X6_fails kw_1153 kw_1155 kw_33 dX6_readsVertex_24 (by decide) rfl (Nat.le_of_ble_eq_true rfl) (fun xx ee => sm_X6_fails hs o (-6 : Int32) h xx ee) (fun h35 _ => ?_)
    exact Sim.sub [0] rfl (hk4 h35)
  refine S_icmp_eq 21 dX6_readsVertex_8 (by decide) (fun c38 => ?_) (fun c38 => ?_)
  · exact Sim.sub [0] rfl (hk34)
  · refine S_aload_n 0 dX6_readsVertex_11 rfl rfl ?_
    refine S_callV_IR (lev' := 0) (My := M_X6_colouringsNext) [] [] kc6 K_X6_colouringsNext kw_1171 kw_1173 kw_37 dX6_readsVertex_12 (by decide) rfl (Nat.le_of_ble_eq_true rfl) (fun xx ee => sm_X6_colouringsNext hs o h xx ee) (fun x36 _ => ?_)
    refine S_sipush 20000 dX6_readsVertex_15 (by decide) ?_
    refine S_icmp_le 27 dX6_readsVertex_18 (by decide) (fun c37 => ?_) (fun c37 => ?_)
    · exact Sim.sub [0] rfl (hk4 h)
    · exact Sim.sub [0] rfl (hk34)
theorem sm_X6_readsVertex (hs : l.stackTraces = false) (o : Nat) (h : Hp) : ∀ h1, m_X6_readsVertex  o h = some h1 → SR l G 4 M_X6_readsVertex [.ref o] h none h1 := fun h1 e => SR.of K_X6_readsVertex hs rfl (Nat.le_of_ble_eq_true rfl) (ss_X6_readsVertex hs o h) e rfl
end
section
variable {l : Launch} {G : Gx}
set_option maxRecDepth 20000 in
set_option maxHeartbeats 4000000 in
theorem ss_X6_readsEdge (hs : l.stackTraces = false) (o : Nat) (h : Hp) : Sim l G 4 M_X6_readsEdge (fun v : Hp => ((.inl none : Oc), v)) 0 [(0, .ref o)] [] h (m_X6_readsEdge  o h) := by
  rw [m_X6_readsEdge]
  refine S_aload_n 0 dX6_readsEdge_0 rfl rfl ?_
  refine S_iconst 1 dX6_readsEdge_1 (by decide) ?_
  refine S_callV_VW (lev' := 2) (My := M_X6_must) [.int 1] [] kc6 K_X6_must kw_1149 kw_1151 kw_32 dX6_readsEdge_2 (by decide) rfl (Nat.le_of_ble_eq_true rfl) (fun xx ee => sm_X6_must hs o true h xx ee) (fun h1 _ => ?_)
  refine S_aload_n 0 dX6_readsEdge_5 rfl rfl ?_
  refine S_iconst 0 dX6_readsEdge_6 (by decide) ?_
  refine S_aload_n 0 dX6_readsEdge_7 rfl rfl ?_
  refine S_getR kc6 (k := 0) (by decide) kw_1040 dX6_readsEdge_8 (fun a2 _ => ?_)
  refine S_iconst 0 dX6_readsEdge_11 (by decide) ?_
  refine S_iaload dX6_readsEdge_12 (fun x3 _ => ?_)
  refine S_iconst 1 dX6_readsEdge_13 (by decide) ?_
  refine S_isub dX6_readsEdge_14 ?_
  refine S_callV_IW (lev' := 2) (My := M_X6_takes) [.int 0, .int (x3 - (1 : Int32))] [] kc6 K_X6_takes kw_1157 kw_1159 kw_34 dX6_readsEdge_15 (by decide) rfl (Nat.le_of_ble_eq_true rfl) (fun xx yy ee => sm_X6_takes hs o (0 : Int32) (x3 - (1 : Int32)) h1 xx yy ee) (fun x4 h5 _ => ?_)
  refine S_istore_n [(1, .int x4), (0, .ref o)] dX6_readsEdge_18 rfl (Nat.le_of_ble_eq_true rfl) rfl ?_
  refine S_aload_n 1 dX6_readsEdge_19 rfl rfl ?_
  refine S_getI kc6 (k := 15) (by decide) kw_1055 dX6_readsEdge_20 (fun x6 _ => ?_)
  refine S_jK (fun (k8 : Hp → Option Hp) => ∀ (h7 : Hp), Sim l G 4 M_X6_readsEdge (fun v : Hp => ((.inl none : Oc), v)) 48 [(0, .ref o), (1, .int x4)] [] h7 (k8 h7)) ?_ (fun k8 hk8 => ?_)
  · intro h7
    refine S_aload_n 0 dX6_readsEdge_48 rfl rfl ?_
    refine S_getI kc6 (k := 15) (by decide) kw_1055 dX6_readsEdge_49 (fun x9 _ => ?_)
    refine S_jK (fun (k11 : Hp → Option Hp) => ∀ (h10 : Hp), Sim l G 4 M_X6_readsEdge (fun v : Hp => ((.inl none : Oc), v)) 94 [(0, .ref o), (1, .int x4)] [] h10 (k11 h10)) ?_ (fun k11 hk11 => ?_)
    · intro h10
      refine S_aload_n 0 dX6_readsEdge_94 rfl rfl ?_
      refine S_iconst 0 dX6_readsEdge_95 (by decide) ?_
      refine S_aload_n 0 dX6_readsEdge_96 rfl rfl ?_
      refine S_getR kc6 (k := 0) (by decide) kw_1040 dX6_readsEdge_97 (fun a12 _ => ?_)
      refine S_iconst 0 dX6_readsEdge_100 (by decide) ?_
      refine S_iaload dX6_readsEdge_101 (fun x13 _ => ?_)
      refine S_iconst 1 dX6_readsEdge_102 (by decide) ?_
      refine S_isub dX6_readsEdge_103 ?_
      refine S_callV_IW (lev' := 2) (My := M_X6_takes) [.int 0, .int (x13 - (1 : Int32))] [] kc6 K_X6_takes kw_1157 kw_1159 kw_34 dX6_readsEdge_104 (by decide) rfl (Nat.le_of_ble_eq_true rfl) (fun xx yy ee => sm_X6_takes hs o (0 : Int32) (x13 - (1 : Int32)) h10 xx yy ee) (fun x14 h15 _ => ?_)
      refine S_istore_n [(2, .int x14), (0, .ref o), (1, .int x4)] dX6_readsEdge_107 rfl (Nat.le_of_ble_eq_true rfl) rfl ?_
      refine S_aload_n 1 dX6_readsEdge_108 rfl rfl ?_
      refine S_callV_VW (lev' := 3) (My := M_X6_mustEnd) [] [] kc6 K_X6_mustEnd kw_1162 kw_1164 kw_35 dX6_readsEdge_109 (by decide) rfl (Nat.le_of_ble_eq_true rfl) (fun xx ee => sm_X6_mustEnd hs o h15 xx ee) (fun h16 _ => ?_)
      refine S_aload_n 1 dX6_readsEdge_112 rfl rfl ?_
      refine S_getI kc6 (k := 15) (by decide) kw_1055 dX6_readsEdge_113 (fun x17 _ => ?_)
      refine S_if_eq 120 dX6_readsEdge_116 (by decide) (fun c24 => ?_) (fun c24 => ?_)
      · refine S_aload_n 1 dX6_readsEdge_120 rfl rfl ?_
        refine S_getR kc6 (k := 0) (by decide) kw_1040 dX6_readsEdge_121 (fun a18 _ => ?_)
        refine S_bipush 13 dX6_readsEdge_124 (by decide) ?_
        refine S_iload_n 2 dX6_readsEdge_126 rfl rfl ?_
        refine S_iadd dX6_readsEdge_127 ?_
        refine S_dup2 dX6_readsEdge_128 rfl rfl ?_
        refine S_iaload dX6_readsEdge_129 (fun x19 _ => ?_)
        refine S_iconst 1 dX6_readsEdge_130 (by decide) ?_
        refine S_iload_n 0 dX6_readsEdge_131 rfl rfl ?_
        refine S_ishl dX6_readsEdge_132 ?_
        refine S_ior dX6_readsEdge_133 ?_
        refine S_iastore dX6_readsEdge_134 (fun h20 _ => ?_)
        refine S_aload_n 1 dX6_readsEdge_135 rfl rfl ?_
        refine S_getR kc6 (k := 0) (by decide) kw_1040 dX6_readsEdge_136 (fun a21 _ => ?_)
        refine S_bipush 13 dX6_readsEdge_139 (by decide) ?_
        refine S_iload_n 0 dX6_readsEdge_141 rfl rfl ?_
        refine S_iadd dX6_readsEdge_142 ?_
        refine S_dup2 dX6_readsEdge_143 rfl rfl ?_
        refine S_iaload dX6_readsEdge_144 (fun x22 _ => ?_)
        refine S_iconst 1 dX6_readsEdge_145 (by decide) ?_
        refine S_iload_n 2 dX6_readsEdge_146 rfl rfl ?_
        refine S_ishl dX6_readsEdge_147 ?_
        refine S_ior dX6_readsEdge_148 ?_
        refine S_iastore dX6_readsEdge_149 (fun h23 _ => ?_)
        exact S_return rfl rfl dX6_readsEdge_150
      · exact S_return rfl rfl dX6_readsEdge_119
    refine S_if_ne 94 dX6_readsEdge_52 (by decide) (fun c35 => ?_) (fun c35 => ?_)
    · exact Sim.sub [0, 1] rfl (hk11 h7)
    · refine S_aload_n 0 dX6_readsEdge_55 rfl rfl ?_
      refine S_getI kc6 (k := 13) (by decide) kw_1053 dX6_readsEdge_56 (fun x25 _ => ?_)
      refine S_iconst 1 dX6_readsEdge_59 (by decide) ?_
      refine S_icmp_ne 94 dX6_readsEdge_60 (by decide) (fun c34 => ?_) (fun c34 => ?_)
      · exact Sim.sub [0, 1] rfl (hk11 h7)
      · refine S_aload_n 0 dX6_readsEdge_63 rfl rfl ?_
        refine S_getI kc6 (k := 14) (by decide) kw_1054 dX6_readsEdge_64 (fun x26 _ => ?_)
        refine S_aload_n 0 dX6_readsEdge_67 rfl rfl ?_
        refine S_getR kc6 (k := 0) (by decide) kw_1040 dX6_readsEdge_68 (fun a27 _ => ?_)
        refine S_iconst 0 dX6_readsEdge_71 (by decide) ?_
        refine S_iaload dX6_readsEdge_72 (fun x28 _ => ?_)
        refine S_icmp_ge 94 dX6_readsEdge_73 (by decide) (fun c33 => ?_) (fun c33 => ?_)
        · exact Sim.sub [0, 1] rfl (hk11 h7)
        · refine S_aload_n 0 dX6_readsEdge_76 rfl rfl ?_
          refine S_iload_n 1 dX6_readsEdge_77 rfl rfl ?_
          refine S_aload_n 0 dX6_readsEdge_78 rfl rfl ?_
          refine S_getI kc6 (k := 14) (by decide) kw_1054 dX6_readsEdge_79 (fun x29 _ => ?_)
          refine S_callV_BR (lev' := 0) (My := M_X6_areNext) [.int x4, .int x29] [] kc6 K_X6_areNext kw_1184 kw_1186 kw_40 dX6_readsEdge_82 (by decide) rfl (Nat.le_of_ble_eq_true rfl) (fun xx ee => sm_X6_areNext hs o x4 x29 h7 xx ee) (fun bb30 _ => ?_)
          refine S_if_eqB 94 dX6_readsEdge_85 (by decide) (fun c32 => ?_) (fun c32 => ?_)
          · exact Sim.sub [0, 1] rfl (hk11 h7)
          · refine S_aload_n 0 dX6_readsEdge_88 rfl rfl ?_
            refine S_bipush (-4) dX6_readsEdge_89 (by decide) ?_
            refine S_callV_VW (lev' := 0) (My := M_X6_fails) [.int (-4)] [] kc6 K_X6_fails kw_1153 kw_1155 kw_33 dX6_readsEdge_91 (by decide) rfl (Nat.le_of_ble_eq_true rfl) (fun xx ee => sm_X6_fails hs o (-4 : Int32) h7 xx ee) (fun h31 _ => ?_)
            exact Sim.sub [0, 1] rfl (hk11 h31)
  refine S_if_ne 48 dX6_readsEdge_23 (by decide) (fun c41 => ?_) (fun c41 => ?_)
  · exact Sim.sub [1, 0] rfl (hk8 h5)
  · refine S_aload_n 1 dX6_readsEdge_26 rfl rfl ?_
    refine S_getI kc6 (k := 13) (by decide) kw_1053 dX6_readsEdge_27 (fun x36 _ => ?_)
    refine S_iconst 1 dX6_readsEdge_30 (by decide) ?_
    refine S_icmp_ne 48 dX6_readsEdge_31 (by decide) (fun c40 => ?_) (fun c40 => ?_)
    · exact Sim.sub [1, 0] rfl (hk8 h5)
    · refine S_aload_n 1 dX6_readsEdge_34 rfl rfl ?_
      refine S_getI kc6 (k := 14) (by decide) kw_1054 dX6_readsEdge_35 (fun x37 _ => ?_)
      refine S_iload_n 0 dX6_readsEdge_38 rfl rfl ?_
      refine S_icmp_ne 48 dX6_readsEdge_39 (by decide) (fun c39 => ?_) (fun c39 => ?_)
      · exact Sim.sub [1, 0] rfl (hk8 h5)
      · refine S_aload_n 1 dX6_readsEdge_42 rfl rfl ?_
        refine S_bipush (-3) dX6_readsEdge_43 (by decide) ?_
        refine S_callV_VW (lev' := 0) (My := M_X6_fails) [.int (-3)] [] kc6 K_X6_fails kw_1153 kw_1155 kw_33 dX6_readsEdge_45 (by decide) rfl (Nat.le_of_ble_eq_true rfl) (fun xx ee => sm_X6_fails hs o (-3 : Int32) h5 xx ee) (fun h38 _ => ?_)
        exact Sim.sub [1, 0] rfl (hk8 h38)
theorem sm_X6_readsEdge (hs : l.stackTraces = false) (o : Nat) (h : Hp) : ∀ h1, m_X6_readsEdge  o h = some h1 → SR l G 4 M_X6_readsEdge [.ref o] h none h1 := fun h1 e => SR.of K_X6_readsEdge hs rfl (Nat.le_of_ble_eq_true rfl) (ss_X6_readsEdge hs o h) e rfl
end
section
variable {l : Launch} {G : Gx}
set_option maxRecDepth 20000 in
set_option maxHeartbeats 4000000 in
theorem ss_X6_readsPass (hs : l.stackTraces = false) (o : Nat) (h : Hp) : Sim l G 4 M_X6_readsPass (fun v : Hp => ((.inl none : Oc), v)) 0 [(0, .ref o)] [] h (m_X6_readsPass  o h) := by
  rw [m_X6_readsPass]
  refine S_aload_n 0 dX6_readsPass_0 rfl rfl ?_
  refine S_getR kc6 (k := 0) (by decide) kw_1040 dX6_readsPass_1 (fun a1 _ => ?_)
  refine S_iconst 2 dX6_readsPass_4 (by decide) ?_
  refine S_iaload dX6_readsPass_5 (fun x2 _ => ?_)
  refine S_jK (fun (k4 : Hp → Option Hp) => ∀ (h3 : Hp), Sim l G 4 M_X6_readsPass (fun v : Hp => ((.inl none : Oc), v)) 15 [(0, .ref o)] [] h3 (k4 h3)) ?_ (fun k4 hk4 => ?_)
  · intro h3
    refine S_aload_n 0 dX6_readsPass_15 rfl rfl ?_
    refine S_getI kc6 (k := 15) (by decide) kw_1055 dX6_readsPass_16 (fun x5 _ => ?_)
    refine S_jK (fun (k7 : Hp → Option Hp) => ∀ (h6 : Hp), Sim l G 4 M_X6_readsPass (fun v : Hp => ((.inl none : Oc), v)) 26 [(0, .ref o)] [] h6 (k7 h6)) ?_ (fun k7 hk7 => ?_)
    · intro h6
      refine S_aload_n 0 dX6_readsPass_26 rfl rfl ?_
      refine S_iconst 1 dX6_readsPass_27 (by decide) ?_
      refine S_callV_VW (lev' := 2) (My := M_X6_must) [.int 1] [] kc6 K_X6_must kw_1149 kw_1151 kw_32 dX6_readsPass_28 (by decide) rfl (Nat.le_of_ble_eq_true rfl) (fun xx ee => sm_X6_must hs o true h6 xx ee) (fun h8 _ => ?_)
      refine S_aload_n 0 dX6_readsPass_31 rfl rfl ?_
      refine S_callV_VW (lev' := 3) (My := M_X6_mustEnd) [] [] kc6 K_X6_mustEnd kw_1162 kw_1164 kw_35 dX6_readsPass_32 (by decide) rfl (Nat.le_of_ble_eq_true rfl) (fun xx ee => sm_X6_mustEnd hs o h8 xx ee) (fun h9 _ => ?_)
      exact S_return rfl rfl dX6_readsPass_35
    refine S_if_ne 26 dX6_readsPass_19 (by decide) (fun c11 => ?_) (fun c11 => ?_)
    · exact Sim.sub [0] rfl (hk7 h3)
    · refine S_aload_n 0 dX6_readsPass_22 rfl rfl ?_
      refine S_callV_VW (lev' := 3) (My := M_X6_passes) [] [] kc6 K_X6_passes kw_1256 kw_1258 kw_56 dX6_readsPass_23 (by decide) rfl (Nat.le_of_ble_eq_true rfl) (fun xx ee => sm_X6_passes hs o h3 xx ee) (fun h10 _ => ?_)
      exact Sim.sub [0] rfl (hk7 h10)
  refine S_if_ne 15 dX6_readsPass_6 (by decide) (fun c13 => ?_) (fun c13 => ?_)
  · exact Sim.sub [0] rfl (hk4 h)
  · refine S_aload_n 0 dX6_readsPass_9 rfl rfl ?_
    refine S_bipush (-5) dX6_readsPass_10 (by decide) ?_
    refine S_callV_VW (lev' := 0) (My := M_X6_fails) [.int (-5)] [] kc6 K_X6_fails kw_1153 kw_1155 kw_33 dX6_readsPass_12 (by decide) rfl (Nat.le_of_ble_eq_true rfl) (fun xx ee => sm_X6_fails hs o (-5 : Int32) h xx ee) (fun h12 _ => ?_)
    exact Sim.sub [0] rfl (hk4 h12)
theorem sm_X6_readsPass (hs : l.stackTraces = false) (o : Nat) (h : Hp) : ∀ h1, m_X6_readsPass  o h = some h1 → SR l G 4 M_X6_readsPass [.ref o] h none h1 := fun h1 e => SR.of K_X6_readsPass hs rfl (Nat.le_of_ble_eq_true rfl) (ss_X6_readsPass hs o h) e rfl
end
section
variable {l : Launch} {G : Gx}
set_option maxRecDepth 20000 in
set_option maxHeartbeats 4000000 in
theorem ss_X6_whyNot (hs : l.stackTraces = false) (o : Nat) (p1 : Int32) (p2 : Int32) (h : Hp) : Sim l G 4 M_X6_whyNot (fun v : Int32 => ((.inl (some (.int v)) : Oc), h)) 0 [(0, .ref o), (1, .int p1), (2, .int p2)] [] h (m_X6_whyNot  o p1 p2 h) := by
  rw [m_X6_whyNot]
  refine S_aload_n 0 dX6_whyNot_0 rfl rfl ?_
  refine S_iload_n 1 dX6_whyNot_1 rfl rfl ?_
  refine S_callV_BR (lev' := 0) (My := M_X6_isFree) [.int p1] [] kc6 K_X6_isFree kw_1198 kw_1200 kw_43 dX6_whyNot_2 (by decide) rfl (Nat.le_of_ble_eq_true rfl) (fun xx ee => sm_X6_isFree hs o p1 h xx ee) (fun bb1 _ => ?_)
  refine S_if_neB 10 dX6_whyNot_5 (by decide) (fun c9 => ?_) (fun c9 => ?_)
  · refine S_aload_n 0 dX6_whyNot_10 rfl rfl ?_
    refine S_getR kc6 (k := 0) (by decide) kw_1040 dX6_whyNot_11 (fun a2 _ => ?_)
    refine S_iconst 4 dX6_whyNot_14 (by decide) ?_
    refine S_iload_n 1 dX6_whyNot_15 rfl rfl ?_
    refine S_iadd dX6_whyNot_16 ?_
    refine S_iaload dX6_whyNot_17 (fun x3 _ => ?_)
    refine S_iload_n 2 dX6_whyNot_18 rfl rfl ?_
    refine S_ishr dX6_whyNot_19 ?_
    refine S_iconst 1 dX6_whyNot_20 (by decide) ?_
    refine S_iand dX6_whyNot_21 ?_
    refine S_if_ne 27 dX6_whyNot_22 (by decide) (fun c8 => ?_) (fun c8 => ?_)
    · refine S_aload_n 0 dX6_whyNot_27 rfl rfl ?_
      refine S_iload_n 1 dX6_whyNot_28 rfl rfl ?_
      refine S_callV_IR (lev' := 1) (My := M_X6_around) [.int p1] [] kc6 K_X6_around kw_1202 kw_1204 kw_44 dX6_whyNot_29 (by decide) rfl (Nat.le_of_ble_eq_true rfl) (fun xx ee => sm_X6_around hs o p1 h xx ee) (fun x4 _ => ?_)
      refine S_iload_n 2 dX6_whyNot_32 rfl rfl ?_
      refine S_ishr dX6_whyNot_33 ?_
      refine S_iconst 1 dX6_whyNot_34 (by decide) ?_
      refine S_iand dX6_whyNot_35 ?_
      refine S_iconst 1 dX6_whyNot_36 (by decide) ?_
      refine S_icmp_ne 42 dX6_whyNot_37 (by decide) (fun c7 => ?_) (fun c7 => ?_)
      · refine S_aload_n 0 dX6_whyNot_42 rfl rfl ?_
        refine S_iload_n 1 dX6_whyNot_43 rfl rfl ?_
        refine S_callV_IR (lev' := 3) (My := M_X6_colours) [.int p1] [] kc6 K_X6_colours kw_1210 kw_1212 kw_46 dX6_whyNot_44 (by decide) rfl (Nat.le_of_ble_eq_true rfl) (fun xx ee => sm_X6_colours hs o p1 h xx ee) (fun x5 _ => ?_)
        refine S_iload_n 2 dX6_whyNot_47 rfl rfl ?_
        refine S_ishr dX6_whyNot_48 ?_
        refine S_iconst 1 dX6_whyNot_49 (by decide) ?_
        refine S_iand dX6_whyNot_50 ?_
        refine S_iconst 1 dX6_whyNot_51 (by decide) ?_
        refine S_icmp_ne 59 dX6_whyNot_52 (by decide) (fun c6 => ?_) (fun c6 => ?_)
        · refine S_iconst 4 dX6_whyNot_59 (by decide) ?_
          exact S_ireturn rfl rfl dX6_whyNot_60
        · refine S_iconst 0 dX6_whyNot_55 (by decide) ?_
          refine S_goto 60 dX6_whyNot_56 (by decide) ?_
          exact S_ireturn rfl rfl dX6_whyNot_60
      · refine S_iconst 3 dX6_whyNot_40 (by decide) ?_
        exact S_ireturn rfl rfl dX6_whyNot_41
    · refine S_iconst 2 dX6_whyNot_25 (by decide) ?_
      exact S_ireturn rfl rfl dX6_whyNot_26
  · refine S_iconst 1 dX6_whyNot_8 (by decide) ?_
    exact S_ireturn rfl rfl dX6_whyNot_9
theorem sm_X6_whyNot (hs : l.stackTraces = false) (o : Nat) (p1 : Int32) (p2 : Int32) (h : Hp) : ∀ x, m_X6_whyNot  o p1 p2 h = some x → SR l G 4 M_X6_whyNot [.ref o, .int p1, .int p2] h (some (.int x)) h := fun x e => SR.of K_X6_whyNot hs rfl (Nat.le_of_ble_eq_true rfl) (ss_X6_whyNot hs o p1 p2 h) e rfl
end
section
variable {l : Launch} {G : Gx}
set_option maxRecDepth 20000 in
set_option maxHeartbeats 4000000 in
theorem sl_X6_pairs_L4 (hs : l.stackTraces = false) (u1 : Nat) (h : Hp) (k4_31 : Int32 → Option Int32) (hk4_31 : ∀ (v4 : Int32), Sim l G 4 M_X6_pairs (fun v : Int32 => ((.inl (some (.int v)) : Oc), h)) 31 [(1, .int v4)] [] h (k4_31 v4)) : ∀ (f : Nat) (w2 : Int32) (w3 : Int32), Sim l G 4 M_X6_pairs (fun v : Int32 => ((.inl (some (.int v)) : Oc), h)) 4 [(0, .ref u1), (1, .int w2), (2, .int w3)] [] h (m_X6_pairs_L4 u1 h k4_31 f w2 w3) := by
  intro f
  induction f with
  | zero => intro w2 w3; exact S_none rfl
  | succ f ih =>
    intro w2 w3
    rw [m_X6_pairs_L4]
    refine S_iload_n 2 dX6_pairs_4 rfl rfl ?_
    refine S_aload_n 0 dX6_pairs_5 rfl rfl ?_
    refine S_getR kc6 (k := 0) (by decide) kw_1040 dX6_pairs_6 (fun a5 _ => ?_)
    refine S_iconst 0 dX6_pairs_9 (by decide) ?_
    refine S_iaload dX6_pairs_10 (fun x6 _ => ?_)
    refine S_icmp_ge 31 dX6_pairs_11 (by decide) (fun c11 => ?_) (fun c11 => ?_)
    · exact Sim.sub [1] rfl (hk4_31 w2)
    · refine S_iload_n 1 dX6_pairs_14 rfl rfl ?_
      refine S_aload_n 0 dX6_pairs_15 rfl rfl ?_
      refine S_iload_n 2 dX6_pairs_16 rfl rfl ?_
      refine S_callV_IR (lev' := 3) (My := M_X6_colours) [.int w3] [.int w2] kc6 K_X6_colours kw_1210 kw_1212 kw_46 dX6_pairs_17 (by decide) rfl (Nat.le_of_ble_eq_true rfl) (fun xx ee => sm_X6_colours hs u1 w3 h xx ee) (fun x7 _ => ?_)
      refine S_callS_IR (lev' := 0) (My := M_X6_bits) [.int x7] [.int w2] K_X6_bits kw_1230 kw_1231 dX6_pairs_20 (by decide) rfl (Nat.le_of_ble_eq_true rfl) (fun xx ee => sm_X6_bits hs x7 _ xx ee) (fun x8 _ => ?_)
      refine S_iadd dX6_pairs_23 ?_
      refine S_nmI (fun x9 => ?_)
      refine S_istore_n [(1, .int x9), (0, .ref u1), (2, .int w3)] dX6_pairs_24 rfl (Nat.le_of_ble_eq_true rfl) rfl ?_
      refine S_iincN (c := 1) 2 (fun x10 => [(2, .int x10), (1, .int x9), (0, .ref u1)]) dX6_pairs_25 rfl (by decide) (Nat.le_of_ble_eq_true rfl) (fun _ => rfl) (fun x10 => ?_)
      refine S_goto 4 dX6_pairs_28 (by decide) ?_
      exact Sim.sub [2, 1, 0] rfl (ih x9 x10)
set_option maxRecDepth 20000 in
set_option maxHeartbeats 4000000 in
theorem ss_X6_pairs (hs : l.stackTraces = false) (o : Nat) (h : Hp) : Sim l G 4 M_X6_pairs (fun v : Int32 => ((.inl (some (.int v)) : Oc), h)) 0 [(0, .ref o)] [] h (m_X6_pairs  o h) := by
  rw [m_X6_pairs]
  refine S_iconst 0 dX6_pairs_0 (by decide) ?_
  refine S_istore_n [(1, .int 0), (0, .ref o)] dX6_pairs_1 rfl (Nat.le_of_ble_eq_true rfl) rfl ?_
  refine S_iconst 0 dX6_pairs_2 (by decide) ?_
  refine S_istore_n [(2, .int 0), (1, .int 0), (0, .ref o)] dX6_pairs_3 rfl (Nat.le_of_ble_eq_true rfl) rfl ?_
  refine Sim.sub [2, 1, 0] rfl (sl_X6_pairs_L4 hs o h _ ?_ LF (0 : Int32) (0 : Int32))
  · intro v4
    refine S_iload_n 0 dX6_pairs_31 rfl rfl ?_
    exact S_ireturn rfl rfl dX6_pairs_32
theorem sm_X6_pairs (hs : l.stackTraces = false) (o : Nat) (h : Hp) : ∀ x, m_X6_pairs  o h = some x → SR l G 4 M_X6_pairs [.ref o] h (some (.int x)) h := fun x e => SR.of K_X6_pairs hs rfl (Nat.le_of_ble_eq_true rfl) (ss_X6_pairs hs o h) e rfl
end
section
variable {l : Launch} {G : Gx}
set_option maxRecDepth 20000 in
set_option maxHeartbeats 4000000 in
theorem sl_X6_stuck_L4 (hs : l.stackTraces = false) (u1 : Nat) (h : Hp) (k4_44 : Int32 → Option Int32) (hk4_44 : ∀ (v4 : Int32), Sim l G 4 M_X6_stuck (fun v : Int32 => ((.inl (some (.int v)) : Oc), h)) 44 [(1, .int v4)] [] h (k4_44 v4)) : ∀ (f : Nat) (w2 : Int32) (w3 : Int32), Sim l G 4 M_X6_stuck (fun v : Int32 => ((.inl (some (.int v)) : Oc), h)) 4 [(0, .ref u1), (1, .int w2), (2, .int w3)] [] h (m_X6_stuck_L4 u1 h k4_44 f w2 w3) := by
  intro f
  induction f with
  | zero => intro w2 w3; exact S_none rfl
  | succ f ih =>
    intro w2 w3
    rw [m_X6_stuck_L4]
    refine S_iload_n 2 dX6_stuck_4 rfl rfl ?_
    refine S_aload_n 0 dX6_stuck_5 rfl rfl ?_
    refine S_getR kc6 (k := 0) (by decide) kw_1040 dX6_stuck_6 (fun a5 _ => ?_)
    refine S_iconst 0 dX6_stuck_9 (by decide) ?_
    refine S_iaload dX6_stuck_10 (fun x6 _ => ?_)
    refine S_icmp_ge 44 dX6_stuck_11 (by decide) (fun c15 => ?_) (fun c15 => ?_)
    · exact Sim.sub [1] rfl (hk4_44 w2)
    · refine S_iload_n 1 dX6_stuck_14 rfl rfl ?_
      refine S_aload_n 0 dX6_stuck_15 rfl rfl ?_
      refine S_iload_n 2 dX6_stuck_16 rfl rfl ?_
      refine S_callV_BR (lev' := 0) (My := M_X6_isFree) [.int w3] [.int w2] kc6 K_X6_isFree kw_1198 kw_1200 kw_43 dX6_stuck_17 (by decide) rfl (Nat.le_of_ble_eq_true rfl) (fun xx ee => sm_X6_isFree hs u1 w3 h xx ee) (fun bb7 _ => ?_)
      refine S_jK (fun (k9 : Bool → Option Int32) => ∀ (v8 : Bool), Sim l G 4 M_X6_stuck (fun v : Int32 => ((.inl (some (.int v)) : Oc), h)) 36 [(0, .ref u1), (2, .int w3)] [.int (bI v8), .int w2] h (k9 v8)) ?_ (fun k9 hk9 => ?_)
      · intro v8
        refine S_iadd dX6_stuck_36 ?_
        refine S_nmI (fun x10 => ?_)
        refine S_istore_n [(1, .int x10), (0, .ref u1), (2, .int w3)] dX6_stuck_37 rfl (Nat.le_of_ble_eq_true rfl) rfl ?_
        refine S_iincN (c := 1) 2 (fun x11 => [(2, .int x11), (1, .int x10), (0, .ref u1)]) dX6_stuck_38 rfl (by decide) (Nat.le_of_ble_eq_true rfl) (fun _ => rfl) (fun x11 => ?_)
        refine S_goto 4 dX6_stuck_41 (by decide) ?_
        exact Sim.sub [2, 1, 0] rfl (ih x10 x11)
      refine S_if_eqB 35 dX6_stuck_20 (by decide) (fun c14 => ?_) (fun c14 => ?_)
      · refine S_iconst 0 dX6_stuck_35 (by decide) ?_
        exact Sim.sub [0, 2] rfl (hk9 false)
      · refine S_aload_n 0 dX6_stuck_23 rfl rfl ?_
        refine S_iload_n 2 dX6_stuck_24 rfl rfl ?_
        refine S_callV_IR (lev' := 3) (My := M_X6_colours) [.int w3] [.int w2] kc6 K_X6_colours kw_1210 kw_1212 kw_46 dX6_stuck_25 (by decide) rfl (Nat.le_of_ble_eq_true rfl) (fun xx ee => sm_X6_colours hs u1 w3 h xx ee) (fun x12 _ => ?_)
        refine S_if_ne 35 dX6_stuck_28 (by decide) (fun c13 => ?_) (fun c13 => ?_)
        · refine S_iconst 0 dX6_stuck_35 (by decide) ?_
          exact Sim.sub [0, 2] rfl (hk9 false)
        · refine S_iconst 1 dX6_stuck_31 (by decide) ?_
          refine S_goto 36 dX6_stuck_32 (by decide) ?_
          exact Sim.sub [0, 2] rfl (hk9 true)
set_option maxRecDepth 20000 in
set_option maxHeartbeats 4000000 in
theorem ss_X6_stuck (hs : l.stackTraces = false) (o : Nat) (h : Hp) : Sim l G 4 M_X6_stuck (fun v : Int32 => ((.inl (some (.int v)) : Oc), h)) 0 [(0, .ref o)] [] h (m_X6_stuck  o h) := by
  rw [m_X6_stuck]
  refine S_iconst 0 dX6_stuck_0 (by decide) ?_
  refine S_istore_n [(1, .int 0), (0, .ref o)] dX6_stuck_1 rfl (Nat.le_of_ble_eq_true rfl) rfl ?_
  refine S_iconst 0 dX6_stuck_2 (by decide) ?_
  refine S_istore_n [(2, .int 0), (1, .int 0), (0, .ref o)] dX6_stuck_3 rfl (Nat.le_of_ble_eq_true rfl) rfl ?_
  refine Sim.sub [2, 1, 0] rfl (sl_X6_stuck_L4 hs o h _ ?_ LF (0 : Int32) (0 : Int32))
  · intro v4
    refine S_iload_n 0 dX6_stuck_44 rfl rfl ?_
    exact S_ireturn rfl rfl dX6_stuck_45
theorem sm_X6_stuck (hs : l.stackTraces = false) (o : Nat) (h : Hp) : ∀ x, m_X6_stuck  o h = some x → SR l G 4 M_X6_stuck [.ref o] h (some (.int x)) h := fun x e => SR.of K_X6_stuck hs rfl (Nat.le_of_ble_eq_true rfl) (ss_X6_stuck hs o h) e rfl
end
section
variable {l : Launch} {G : Gx}
set_option maxRecDepth 20000 in
set_option maxHeartbeats 4000000 in
theorem ss_X6_vertex (hs : l.stackTraces = false) (o : Nat) (p1 : Int32) (p2 : Int32) (h : Hp) : Sim l G 4 M_X6_vertex (fun p : Int32 × Hp => ((.inl (some (.int p.1)) : Oc), p.2)) 0 [(0, .ref o), (1, .int p1), (2, .int p2)] [] h (m_X6_vertex  o p1 p2 h) := by
  rw [m_X6_vertex]
  refine S_aload_n 0 dX6_vertex_0 rfl rfl ?_
  refine S_aload_n 0 dX6_vertex_1 rfl rfl ?_
  refine S_iload_n 1 dX6_vertex_2 rfl rfl ?_
  refine S_callV_BR (lev' := 1) (My := M_X6_isVertex) [.int p1] [.ref o] kc6 K_X6_isVertex kw_1292 kw_1294 kw_62 dX6_vertex_3 (by decide) rfl (Nat.le_of_ble_eq_true rfl) (fun xx ee => sm_X6_isVertex hs o p1 h xx ee) (fun bb1 _ => ?_)
  refine S_jK (fun (k3 : Int32 → Option (Int32 × Hp)) => ∀ (v2 : Int32), Sim l G 4 M_X6_vertex (fun p : Int32 × Hp => ((.inl (some (.int p.1)) : Oc), p.2)) 27 [(0, .ref o), (1, .int p1), (2, .int p2)] [.int v2, .ref o] h (k3 v2)) ?_ (fun k3 hk3 => ?_)
  · intro v2
    refine S_put kc6 (k := 7) (by decide) rfl kw_1047 rfl rfl dX6_vertex_27 (fun h4 _ => ?_)
    refine S_aload_n 0 dX6_vertex_30 rfl rfl ?_
    refine S_getI kc6 (k := 7) (by decide) kw_1047 dX6_vertex_31 (fun x5 _ => ?_)
    refine S_if_le 39 dX6_vertex_34 (by decide) (fun c20 => ?_) (fun c20 => ?_)
    · refine S_iload_n 2 dX6_vertex_39 rfl rfl ?_
      refine S_sw 128 [76, 82, 91, 97, 110] dX6_vertex_40 (by decide) (by decide) rfl (by decide) ?_ ⟨?_, ?_, ?_, ?_, ?_, trivial⟩
      · refine S_aload_n 0 dX6_vertex_128 rfl rfl ?_
        refine S_getR kc6 (k := 0) (by decide) kw_1040 dX6_vertex_129 (fun a16 _ => ?_)
        refine S_bipush 13 dX6_vertex_132 (by decide) ?_
        refine S_iload_n 1 dX6_vertex_134 rfl rfl ?_
        refine S_iadd dX6_vertex_135 ?_
        refine S_iaload dX6_vertex_136 (fun x17 _ => ?_)
        refine S_aload_n 0 dX6_vertex_137 rfl rfl ?_
        refine S_callV_IR (lev' := 1) (My := M_X6_freeSet) [] [.int x17] kc6 K_X6_freeSet kw_1214 kw_1216 kw_47 dX6_vertex_138 (by decide) rfl (Nat.le_of_ble_eq_true rfl) (fun xx ee => sm_X6_freeSet hs o h4 xx ee) (fun x18 _ => ?_)
        refine S_iand dX6_vertex_141 ?_
        refine S_callS_IR (lev' := 0) (My := M_X6_bits) [.int (x17 &&& x18)] [] K_X6_bits kw_1230 kw_1231 dX6_vertex_142 (by decide) rfl (Nat.le_of_ble_eq_true rfl) (fun xx ee => sm_X6_bits hs (x17 &&& x18) _ xx ee) (fun x19 _ => ?_)
        exact S_ireturn rfl rfl dX6_vertex_145
      · refine S_aload_n 0 dX6_vertex_76 rfl rfl ?_
        refine S_iload_n 1 dX6_vertex_77 rfl rfl ?_
        refine S_callV_IR (lev' := 0) (My := M_X6_colourOf) [.int p1] [] kc6 K_X6_colourOf kw_1206 kw_1208 kw_45 dX6_vertex_78 (by decide) rfl (Nat.le_of_ble_eq_true rfl) (fun xx ee => sm_X6_colourOf hs o p1 h4 xx ee) (fun x6 _ => ?_)
        exact S_ireturn rfl rfl dX6_vertex_81
      · refine S_aload_n 0 dX6_vertex_82 rfl rfl ?_
        refine S_getR kc6 (k := 0) (by decide) kw_1040 dX6_vertex_83 (fun a7 _ => ?_)
        refine S_iconst 4 dX6_vertex_86 (by decide) ?_
        refine S_iload_n 1 dX6_vertex_87 rfl rfl ?_
        refine S_iadd dX6_vertex_88 ?_
        refine S_iaload dX6_vertex_89 (fun x8 _ => ?_)
        exact S_ireturn rfl rfl dX6_vertex_90
      · refine S_aload_n 0 dX6_vertex_91 rfl rfl ?_
        refine S_iload_n 1 dX6_vertex_92 rfl rfl ?_
        refine S_callV_IR (lev' := 3) (My := M_X6_colours) [.int p1] [] kc6 K_X6_colours kw_1210 kw_1212 kw_46 dX6_vertex_93 (by decide) rfl (Nat.le_of_ble_eq_true rfl) (fun xx ee => sm_X6_colours hs o p1 h4 xx ee) (fun x9 _ => ?_)
        exact S_ireturn rfl rfl dX6_vertex_96
      · refine S_aload_n 0 dX6_vertex_97 rfl rfl ?_
        refine S_getR kc6 (k := 0) (by decide) kw_1040 dX6_vertex_98 (fun a10 _ => ?_)
        refine S_bipush 13 dX6_vertex_101 (by decide) ?_
        refine S_iload_n 1 dX6_vertex_103 rfl rfl ?_
        refine S_iadd dX6_vertex_104 ?_
        refine S_iaload dX6_vertex_105 (fun x11 _ => ?_)
        refine S_callS_IR (lev' := 0) (My := M_X6_bits) [.int x11] [] K_X6_bits kw_1230 kw_1231 dX6_vertex_106 (by decide) rfl (Nat.le_of_ble_eq_true rfl) (fun xx ee => sm_X6_bits hs x11 _ xx ee) (fun x12 _ => ?_)
        exact S_ireturn rfl rfl dX6_vertex_109
      · refine S_aload_n 0 dX6_vertex_110 rfl rfl ?_
        refine S_iload_n 1 dX6_vertex_111 rfl rfl ?_
        refine S_callV_BR (lev' := 0) (My := M_X6_isFree) [.int p1] [] kc6 K_X6_isFree kw_1198 kw_1200 kw_43 dX6_vertex_112 (by decide) rfl (Nat.le_of_ble_eq_true rfl) (fun xx ee => sm_X6_isFree hs o p1 h4 xx ee) (fun bb13 _ => ?_)
        refine S_if_eqB 126 dX6_vertex_115 (by decide) (fun c15 => ?_) (fun c15 => ?_)
        · refine S_iconst (-1) dX6_vertex_126 (by decide) ?_
          exact S_ireturn rfl rfl dX6_vertex_127
        · refine S_aload_n 0 dX6_vertex_118 rfl rfl ?_
          refine S_iload_n 1 dX6_vertex_119 rfl rfl ?_
          refine S_callV_IR (lev' := 2) (My := M_X6_partOf) [.int p1] [] kc6 K_X6_partOf kw_1296 kw_1298 kw_63 dX6_vertex_120 (by decide) rfl (Nat.le_of_ble_eq_true rfl) (fun xx ee => sm_X6_partOf hs o p1 h4 xx ee) (fun x14 _ => ?_)
          refine S_goto 127 dX6_vertex_123 (by decide) ?_
          exact S_ireturn rfl rfl dX6_vertex_127
    · refine S_iconst 0 dX6_vertex_37 (by decide) ?_
      exact S_ireturn rfl rfl dX6_vertex_38
  refine S_if_neB 13 dX6_vertex_6 (by decide) (fun c23 => ?_) (fun c23 => ?_)
  · refine S_iload_n 2 dX6_vertex_13 rfl rfl ?_
    refine S_iconst 0 dX6_vertex_14 (by decide) ?_
    refine S_iconst 5 dX6_vertex_15 (by decide) ?_
    refine S_callS_BR (lev' := 0) (My := M_X6_isIn) [.int p2, .int 0, .int 5] [.ref o] K_X6_isIn kw_1127 kw_1128 dX6_vertex_16 (by decide) rfl (Nat.le_of_ble_eq_true rfl) (fun xx ee => sm_X6_isIn hs p2 (0 : Int32) (5 : Int32) _ xx ee) (fun bb21 _ => ?_)
    refine S_if_eqB 26 dX6_vertex_19 (by decide) (fun c22 => ?_) (fun c22 => ?_)
    · refine S_iconst 2 dX6_vertex_26 (by decide) ?_
      exact Sim.sub [0, 1, 2] rfl (hk3 (2 : Int32))
    · refine S_iconst 0 dX6_vertex_22 (by decide) ?_
      refine S_goto 27 dX6_vertex_23 (by decide) ?_
      exact Sim.sub [0, 1, 2] rfl (hk3 (0 : Int32))
  · refine S_iconst 1 dX6_vertex_9 (by decide) ?_
    refine S_goto 27 dX6_vertex_10 (by decide) ?_
    exact Sim.sub [0, 1, 2] rfl (hk3 (1 : Int32))
theorem sm_X6_vertex (hs : l.stackTraces = false) (o : Nat) (p1 : Int32) (p2 : Int32) (h : Hp) : ∀ x h1, m_X6_vertex  o p1 p2 h = some (x, h1) → SR l G 4 M_X6_vertex [.ref o, .int p1, .int p2] h (some (.int x)) h1 := fun x h1 e => SR.of K_X6_vertex hs rfl (Nat.le_of_ble_eq_true rfl) (ss_X6_vertex hs o p1 p2 h) e rfl
end
section
variable {l : Launch} {G : Gx}
set_option maxRecDepth 20000 in
set_option maxHeartbeats 4000000 in
theorem sl_X6_pairsIn_L4 (hs : l.stackTraces = false) (u1 : Nat) (u2 : Int32) (h : Hp) (k4_44 : Int32 → Option Int32) (hk4_44 : ∀ (v5 : Int32), Sim l G 4 M_X6_pairsIn (fun v : Int32 => ((.inl (some (.int v)) : Oc), h)) 44 [(2, .int v5)] [] h (k4_44 v5)) : ∀ (f : Nat) (w3 : Int32) (w4 : Int32), Sim l G 4 M_X6_pairsIn (fun v : Int32 => ((.inl (some (.int v)) : Oc), h)) 4 [(0, .ref u1), (1, .int u2), (2, .int w3), (3, .int w4)] [] h (m_X6_pairsIn_L4 u1 u2 h k4_44 f w3 w4) := by
  intro f
  induction f with
  | zero => intro w3 w4; exact S_none rfl
  | succ f ih =>
    intro w3 w4
    rw [m_X6_pairsIn_L4]
    refine S_iload_n 3 dX6_pairsIn_4 rfl rfl ?_
    refine S_aload_n 0 dX6_pairsIn_5 rfl rfl ?_
    refine S_getR kc6 (k := 0) (by decide) kw_1040 dX6_pairsIn_6 (fun a6 _ => ?_)
    refine S_iconst 0 dX6_pairsIn_9 (by decide) ?_
    refine S_iaload dX6_pairsIn_10 (fun x7 _ => ?_)
    refine S_icmp_ge 44 dX6_pairsIn_11 (by decide) (fun c15 => ?_) (fun c15 => ?_)
    · exact Sim.sub [2] rfl (hk4_44 w3)
    · refine S_iload_n 2 dX6_pairsIn_14 rfl rfl ?_
      refine S_iload_n 1 dX6_pairsIn_15 rfl rfl ?_
      refine S_iload_n 3 dX6_pairsIn_16 rfl rfl ?_
      refine S_ishr dX6_pairsIn_17 ?_
      refine S_iconst 1 dX6_pairsIn_18 (by decide) ?_
      refine S_iand dX6_pairsIn_19 ?_
      refine S_iconst 1 dX6_pairsIn_20 (by decide) ?_
      refine S_jK (fun (k9 : Int32 → Option Int32) => ∀ (v8 : Int32), Sim l G 4 M_X6_pairsIn (fun v : Int32 => ((.inl (some (.int v)) : Oc), h)) 36 [(0, .ref u1), (1, .int u2), (3, .int w4)] [.int v8, .int w3] h (k9 v8)) ?_ (fun k9 hk9 => ?_)
      · intro v8
        refine S_iadd dX6_pairsIn_36 ?_
        refine S_nmI (fun x10 => ?_)
        refine S_istore_n [(2, .int x10), (0, .ref u1), (1, .int u2), (3, .int w4)] dX6_pairsIn_37 rfl (Nat.le_of_ble_eq_true rfl) rfl ?_
        refine S_iincN (c := 1) 3 (fun x11 => [(3, .int x11), (2, .int x10), (0, .ref u1), (1, .int u2)]) dX6_pairsIn_38 rfl (by decide) (Nat.le_of_ble_eq_true rfl) (fun _ => rfl) (fun x11 => ?_)
        refine S_goto 4 dX6_pairsIn_41 (by decide) ?_
        exact Sim.sub [2, 3, 1, 0] rfl (ih x10 x11)
      refine S_icmp_ne 35 dX6_pairsIn_21 (by decide) (fun c14 => ?_) (fun c14 => ?_)
      · refine S_iconst 0 dX6_pairsIn_35 (by decide) ?_
        exact Sim.sub [0, 1, 3] rfl (hk9 (0 : Int32))
      · refine S_aload_n 0 dX6_pairsIn_24 rfl rfl ?_
        refine S_iload_n 3 dX6_pairsIn_25 rfl rfl ?_
        refine S_callV_IR (lev' := 3) (My := M_X6_colours) [.int w4] [.int w3] kc6 K_X6_colours kw_1210 kw_1212 kw_46 dX6_pairsIn_26 (by decide) rfl (Nat.le_of_ble_eq_true rfl) (fun xx ee => sm_X6_colours hs u1 w4 h xx ee) (fun x12 _ => ?_)
        refine S_callS_IR (lev' := 0) (My := M_X6_bits) [.int x12] [.int w3] K_X6_bits kw_1230 kw_1231 dX6_pairsIn_29 (by decide) rfl (Nat.le_of_ble_eq_true rfl) (fun xx ee => sm_X6_bits hs x12 _ xx ee) (fun x13 _ => ?_)
        refine S_goto 36 dX6_pairsIn_32 (by decide) ?_
        exact Sim.sub [0, 1, 3] rfl (hk9 x13)
set_option maxRecDepth 20000 in
set_option maxHeartbeats 4000000 in
theorem ss_X6_pairsIn (hs : l.stackTraces = false) (o : Nat) (p1 : Int32) (h : Hp) : Sim l G 4 M_X6_pairsIn (fun v : Int32 => ((.inl (some (.int v)) : Oc), h)) 0 [(0, .ref o), (1, .int p1)] [] h (m_X6_pairsIn  o p1 h) := by
  rw [m_X6_pairsIn]
  refine S_iconst 0 dX6_pairsIn_0 (by decide) ?_
  refine S_istore_n [(2, .int 0), (0, .ref o), (1, .int p1)] dX6_pairsIn_1 rfl (Nat.le_of_ble_eq_true rfl) rfl ?_
  refine S_iconst 0 dX6_pairsIn_2 (by decide) ?_
  refine S_istore_n [(3, .int 0), (2, .int 0), (0, .ref o), (1, .int p1)] dX6_pairsIn_3 rfl (Nat.le_of_ble_eq_true rfl) rfl ?_
  refine Sim.sub [2, 3, 1, 0] rfl (sl_X6_pairsIn_L4 hs o p1 h _ ?_ LF (0 : Int32) (0 : Int32))
  · intro v5
    refine S_iload_n 0 dX6_pairsIn_44 rfl rfl ?_
    exact S_ireturn rfl rfl dX6_pairsIn_45
theorem sm_X6_pairsIn (hs : l.stackTraces = false) (o : Nat) (p1 : Int32) (h : Hp) : ∀ x, m_X6_pairsIn  o p1 h = some x → SR l G 4 M_X6_pairsIn [.ref o, .int p1] h (some (.int x)) h := fun x e => SR.of K_X6_pairsIn hs rfl (Nat.le_of_ble_eq_true rfl) (ss_X6_pairsIn hs o p1 h) e rfl
end
