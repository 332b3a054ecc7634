/-! printed by wip/whole/emit.py: walks -/
section
variable {l : Launch} {G : Gx}
set_option maxRecDepth 20000 in
set_option maxHeartbeats 4000000 in
theorem ss_X5_undo (hs : l.stackTraces = false) (o : Nat) (h : Hp) : Sim l G 3 M_X5_undo finX 0 [(0, .ref o)] [] h (m_X5_undo  o h) := by
  rw [m_X5_undo]
  refine S_aload_n 0 dX5_undo_0 rfl rfl ?_
  refine S_getR kc5 (k := 3) (by decide) kw_246 dX5_undo_1 (fun a1 _ => ?_)
  refine S_getI kc1 (k := 0) (by decide) kw_232 dX5_undo_4 (fun x2 _ => ?_)
  refine S_if_ne 21 dX5_undo_7 (by decide) (fun c8 => ?_) (fun c8 => ?_)
  · refine S_aload_n 0 dX5_undo_21 rfl rfl ?_
    refine S_getR kc5 (k := 3) (by decide) kw_246 dX5_undo_22 (fun a3 _ => ?_)
    refine S_aload_n 0 dX5_undo_25 rfl rfl ?_
    refine S_getR kc5 (k := 0) (by decide) kw_243 dX5_undo_26 (fun a4 _ => ?_)
    refine S_callV_VW (lev' := 2) (My := M_X1_bringBack) [.ref a4] [] kc1 K_X1_bringBack kw_1010 kw_1011 kw_1012 dX5_undo_29 (by decide) rfl (Nat.le_of_ble_eq_true rfl) (fun xx ee => sm_X1_bringBack hs a3 a4 h xx ee) (fun h5 _ => ?_)
    refine S_aload_n 0 dX5_undo_32 rfl rfl ?_
    refine S_getR kc5 (k := 3) (by decide) kw_246 dX5_undo_33 (fun a6 _ => ?_)
    refine S_getI kc1 (k := 0) (by decide) kw_232 dX5_undo_36 (fun x7 _ => ?_)
    exact S_ireturn rfl rfl dX5_undo_39
  · exact S_throwW0 rfl (by decide +kernel) kw_456 kn_1009 kw_499 dX5_undo_10 dX5_undo_13 dX5_undo_14 dX5_undo_17 dX5_undo_20
end
section
variable {l : Launch} {G : Gx}
set_option maxRecDepth 20000 in
set_option maxHeartbeats 4000000 in
theorem ss_X5_save (hs : l.stackTraces = false) (o : Nat) (p1 : Int32) (h : Hp) : Sim l G 3 M_X5_save finX 0 [(0, .ref o), (1, .int p1)] [] h (m_X5_save  o p1 h) := by
  rw [m_X5_save]
  refine S_iload_n 1 dX5_save_0 rfl rfl ?_
  refine S_if_lt 13 dX5_save_1 (by decide) (fun c9 => ?_) (fun c9 => ?_)
  · exact S_throwW2 rfl (by decide +kernel) kw_811 kn_1022 kw_821 dX5_save_13 dX5_save_16 dX5_save_17 dX5_save_20 dX5_save_23
  · refine S_iload_n 1 dX5_save_4 rfl rfl ?_
    refine S_aload_n 0 dX5_save_5 rfl rfl ?_
    refine S_getR kc5 (k := 4) (by decide) kw_247 dX5_save_6 (fun a1 _ => ?_)
    refine S_alen (t := 4) (ty := .object "ColourDuel$Board") rfl dX5_save_9 (fun x2 _ => ?_)
    refine S_icmp_lt 24 dX5_save_10 (by decide) (fun c8 => ?_) (fun c8 => ?_)
    · refine S_aload_n 0 dX5_save_24 rfl rfl ?_
      refine S_getR kc5 (k := 4) (by decide) kw_247 dX5_save_25 (fun a3 _ => ?_)
      refine S_iload_n 1 dX5_save_28 rfl rfl ?_
      refine S_aload_n 0 dX5_save_29 rfl rfl ?_
      refine S_getR kc5 (k := 0) (by decide) kw_243 dX5_save_30 (fun a4 _ => ?_)
      refine S_callS_VW (lev' := 2) (My := M_X5_keepCopy) [.ref a3, .int p1, .ref a4] [] K_X5_keepCopy kw_1023 kw_758 dX5_save_33 (by decide) rfl (Nat.le_of_ble_eq_true rfl) (fun xx ee => sm_X5_keepCopy hs a3 p1 a4 h xx ee) (fun h5 _ => ?_)
      refine S_aload_n 0 dX5_save_36 rfl rfl ?_
      refine S_getR kc5 (k := 0) (by decide) kw_243 dX5_save_37 (fun a6 _ => ?_)
      refine S_getI kc0 (k := 5) (by decide) kw_137 dX5_save_40 (fun x7 _ => ?_)
      exact S_ireturn rfl rfl dX5_save_43
    · exact S_throwW2 rfl (by decide +kernel) kw_811 kn_1022 kw_821 dX5_save_13 dX5_save_16 dX5_save_17 dX5_save_20 dX5_save_23
end
section
variable {l : Launch} {G : Gx}
set_option maxRecDepth 20000 in
set_option maxHeartbeats 4000000 in
theorem ss_X6_mustEnd (hs : l.stackTraces = false) (o : Nat) (h : Hp) : Sim l G 3 M_X6_mustEnd (fun v : Hp => ((.inl none : Oc), v)) 0 [(0, .ref o)] [] h (m_X6_mustEnd  o h) := by
  rw [m_X6_mustEnd]
  refine S_aload_n 0 dX6_mustEnd_0 rfl rfl ?_
  refine S_aload_n 0 dX6_mustEnd_1 rfl rfl ?_
  refine S_getI kc6 (k := 13) (by decide) kw_1053 dX6_mustEnd_2 (fun x1 _ => ?_)
  refine S_iconst 2 dX6_mustEnd_5 (by decide) ?_
  refine S_jK (fun (k3 : Bool → Option Hp) => ∀ (v2 : Bool), Sim l G 3 M_X6_mustEnd (fun v : Hp => ((.inl none : Oc), v)) 27 [] [.int (bI v2), .ref o] h (k3 v2)) ?_ (fun k3 hk3 => ?_)
  · intro v2
    refine S_callV_VW (lev' := 2) (My := M_X6_must) [.int (bI v2)] [] kc6 K_X6_must kw_1149 kw_1151 kw_32 dX6_mustEnd_27 (by decide) rfl (Nat.le_of_ble_eq_true rfl) (fun xx ee => sm_X6_must hs o v2 h xx ee) (fun h4 _ => ?_)
    exact S_return rfl rfl dX6_mustEnd_30
  refine S_icmp_ne 26 dX6_mustEnd_6 (by decide) (fun c8 => ?_) (fun c8 => ?_)
  · refine S_iconst 0 dX6_mustEnd_26 (by decide) ?_
    exact Sim.sub [] rfl (hk3 false)
  · refine S_aload_n 0 dX6_mustEnd_9 rfl rfl ?_
    refine S_aload_n 0 dX6_mustEnd_10 rfl rfl ?_
    refine S_getI kc6 (k := 11) (by decide) kw_1051 dX6_mustEnd_11 (fun x5 _ => ?_)
    refine S_callV_IR (lev' := 0) (My := M_X6_see) [.int x5] [.ref o] kc6 K_X6_see kw_1134 kw_1136 kw_29 dX6_mustEnd_14 (by decide) rfl (Nat.le_of_ble_eq_true rfl) (fun xx ee => sm_X6_see hs o x5 h xx ee) (fun x6 _ => ?_)
    refine S_bipush 59 dX6_mustEnd_17 (by decide) ?_
    refine S_icmp_ne 26 dX6_mustEnd_19 (by decide) (fun c7 => ?_) (fun c7 => ?_)
    · refine S_iconst 0 dX6_mustEnd_26 (by decide) ?_
      exact Sim.sub [] rfl (hk3 false)
    · refine S_iconst 1 dX6_mustEnd_22 (by decide) ?_
      refine S_goto 27 dX6_mustEnd_23 (by decide) ?_
      exact Sim.sub [] rfl (hk3 true)
theorem sm_X6_mustEnd (hs : l.stackTraces = false) (o : Nat) (h : Hp) : ∀ h1, m_X6_mustEnd  o h = some h1 → SR l G 3 M_X6_mustEnd [.ref o] h none h1 := fun h1 e => SR.of K_X6_mustEnd hs rfl (Nat.le_of_ble_eq_true rfl) (ss_X6_mustEnd hs o h) e rfl
end
section
variable {l : Launch} {G : Gx}
set_option maxRecDepth 20000 in
set_option maxHeartbeats 4000000 in
theorem ss_X6_colours (hs : l.stackTraces = false) (o : Nat) (p1 : Int32) (h : Hp) : Sim l G 3 M_X6_colours (fun v : Int32 => ((.inl (some (.int v)) : Oc), h)) 0 [(0, .ref o), (1, .int p1)] [] h (m_X6_colours  o p1 h) := by
  rw [m_X6_colours]
  refine S_aload_n 0 dX6_colours_0 rfl rfl ?_
  refine S_iload_n 1 dX6_colours_1 rfl rfl ?_
  refine S_callV_BR (lev' := 0) (My := M_X6_isFree) [.int p1] [] kc6 K_X6_isFree kw_1198 kw_1200 kw_43 dX6_colours_2 (by decide) rfl (Nat.le_of_ble_eq_true rfl) (fun xx ee => sm_X6_isFree hs o p1 h xx ee) (fun bb1 _ => ?_)
  refine S_if_eqB 30 dX6_colours_5 (by decide) (fun c6 => ?_) (fun c6 => ?_)
  · refine S_iconst 0 dX6_colours_30 (by decide) ?_
    exact S_ireturn rfl rfl dX6_colours_31
  · refine S_aload_n 0 dX6_colours_8 rfl rfl ?_
    refine S_iload_n 1 dX6_colours_9 rfl rfl ?_
    refine S_aload_n 0 dX6_colours_10 rfl rfl ?_
    refine S_iload_n 1 dX6_colours_11 rfl rfl ?_
    refine S_aload_n 0 dX6_colours_12 rfl rfl ?_
    refine S_callV_IR (lev' := 1) (My := M_X6_freeSet) [] [.int p1, .ref o, .int p1, .ref o] kc6 K_X6_freeSet kw_1214 kw_1216 kw_47 dX6_colours_13 (by decide) rfl (Nat.le_of_ble_eq_true rfl) (fun xx ee => sm_X6_freeSet hs o h xx ee) (fun x2 _ => ?_)
    refine S_callV_IR (lev' := 0) (My := M_X6_reached) [.int p1, .int x2] [.int p1, .ref o] kc6 K_X6_reached kw_1218 kw_1220 kw_48 dX6_colours_16 (by decide) rfl (Nat.le_of_ble_eq_true rfl) (fun xx ee => sm_X6_reached hs o p1 x2 h xx ee) (fun x3 _ => ?_)
    refine S_aload_n 0 dX6_colours_19 rfl rfl ?_
    refine S_iload_n 1 dX6_colours_20 rfl rfl ?_
    refine S_callV_IR (lev' := 0) (My := M_X6_banOf) [.int p1] [.int x3, .int p1, .ref o] kc6 K_X6_banOf kw_1222 kw_1224 kw_49 dX6_colours_21 (by decide) rfl (Nat.le_of_ble_eq_true rfl) (fun xx ee => sm_X6_banOf hs o p1 h xx ee) (fun x4 _ => ?_)
    refine S_callV_IR (lev' := 2) (My := M_X6_canLay) [.int p1, .int x3, .int x4] [] kc6 K_X6_canLay kw_1226 kw_1228 kw_50 dX6_colours_24 (by decide) rfl (Nat.le_of_ble_eq_true rfl) (fun xx ee => sm_X6_canLay hs o p1 x3 x4 h xx ee) (fun x5 _ => ?_)
    refine S_goto 31 dX6_colours_27 (by decide) ?_
    exact S_ireturn rfl rfl dX6_colours_31
theorem sm_X6_colours (hs : l.stackTraces = false) (o : Nat) (p1 : Int32) (h : Hp) : ∀ x, m_X6_colours  o p1 h = some x → SR l G 3 M_X6_colours [.ref o, .int p1] h (some (.int x)) h := fun x e => SR.of K_X6_colours hs rfl (Nat.le_of_ble_eq_true rfl) (ss_X6_colours hs o p1 h) e rfl
end
section
variable {l : Launch} {G : Gx}
set_option maxRecDepth 20000 in
set_option maxHeartbeats 4000000 in
theorem sl_X6_lays_L13 (hs : l.stackTraces = false) (u3 : Nat) (u4 : Int32) (u5 : Int32) (u6 : Int32) (k13_53 : Hp → Option Hp) (hk13_53 : ∀ (h8 : Hp), Sim l G 3 M_X6_lays (fun v : Hp => ((.inl none : Oc), v)) 53 [(0, .ref u3), (1, .int u4), (2, .int u5), (3, .int u6)] [] h8 (k13_53 h8)) : ∀ (f : Nat) (w7 : Int32) (h : Hp), Sim l G 3 M_X6_lays (fun v : Hp => ((.inl none : Oc), v)) 13 [(0, .ref u3), (1, .int u4), (2, .int u5), (3, .int u6), (4, .int w7)] [] h (m_X6_lays_L13 u3 u4 u5 u6 k13_53 f w7 h) := by
  intro f
  induction f with
  | zero => intro w7 h; exact S_none rfl
  | succ f ih =>
    intro w7 h
    rw [m_X6_lays_L13]
    refine S_iload 4 dX6_lays_13 rfl ?_
    refine S_aload_n 0 dX6_lays_15 rfl rfl ?_
    refine S_getR kc6 (k := 0) (by decide) kw_1040 dX6_lays_16 (fun a9 _ => ?_)
    refine S_iconst 0 dX6_lays_19 (by decide) ?_
    refine S_iaload dX6_lays_20 (fun x10 _ => ?_)
    refine S_icmp_ge 53 dX6_lays_21 (by decide) (fun c17 => ?_) (fun c17 => ?_)
    · exact Sim.sub [0, 1, 2, 3] rfl (hk13_53 h)
    · refine S_iload_n 3 dX6_lays_24 rfl rfl ?_
      refine S_iload 4 dX6_lays_25 rfl ?_
      refine S_ishr dX6_lays_27 ?_
      refine S_iconst 1 dX6_lays_28 (by decide) ?_
      refine S_iand dX6_lays_29 ?_
      refine S_iconst 1 dX6_lays_30 (by decide) ?_
      refine S_jK (fun (k12 : Hp → Option Hp) => ∀ (h11 : Hp), Sim l G 3 M_X6_lays (fun v : Hp => ((.inl none : Oc), v)) 47 [(0, .ref u3), (1, .int u4), (2, .int u5), (3, .int u6), (4, .int w7)] [] h11 (k12 h11)) ?_ (fun k12 hk12 => ?_)
      · intro h11
        refine S_iincN (c := 1) 4 (fun x13 => [(4, .int x13), (0, .ref u3), (1, .int u4), (2, .int u5), (3, .int u6)]) dX6_lays_47 rfl (by decide) (Nat.le_of_ble_eq_true rfl) (fun _ => rfl) (fun x13 => ?_)
        refine S_goto 13 dX6_lays_50 (by decide) ?_
        exact Sim.sub [1, 2, 3, 4, 0] rfl (ih x13 h11)
      refine S_icmp_ne 47 dX6_lays_31 (by decide) (fun c16 => ?_) (fun c16 => ?_)
      · exact Sim.sub [0, 1, 2, 3, 4] rfl (hk12 h)
      · refine S_aload_n 0 dX6_lays_34 rfl rfl ?_
        refine S_getR kc6 (k := 0) (by decide) kw_1040 dX6_lays_35 (fun a14 _ => ?_)
        refine S_bipush 31 dX6_lays_38 (by decide) ?_
        refine S_iload 4 dX6_lays_40 rfl ?_
        refine S_iadd dX6_lays_42 ?_
        refine S_iload_n 2 dX6_lays_43 rfl rfl ?_
        refine S_iconst 1 dX6_lays_44 (by decide) ?_
        refine S_iadd dX6_lays_45 ?_
        refine S_iastore dX6_lays_46 (fun h15 _ => ?_)
        exact Sim.sub [0, 1, 2, 3, 4] rfl (hk12 h15)
set_option maxRecDepth 20000 in
set_option maxHeartbeats 4000000 in
theorem ss_X6_lays (hs : l.stackTraces = false) (o : Nat) (p1 : Int32) (p2 : Int32) (h : Hp) : Sim l G 3 M_X6_lays (fun v : Hp => ((.inl none : Oc), v)) 0 [(0, .ref o), (1, .int p1), (2, .int p2)] [] h (m_X6_lays  o p1 p2 h) := by
  rw [m_X6_lays]
  refine S_aload_n 0 dX6_lays_0 rfl rfl ?_
  refine S_iload_n 1 dX6_lays_1 rfl rfl ?_
  refine S_aload_n 0 dX6_lays_2 rfl rfl ?_
  refine S_callV_IR (lev' := 1) (My := M_X6_freeSet) [] [.int p1, .ref o] kc6 K_X6_freeSet kw_1214 kw_1216 kw_47 dX6_lays_3 (by decide) rfl (Nat.le_of_ble_eq_true rfl) (fun xx ee => sm_X6_freeSet hs o h xx ee) (fun x1 _ => ?_)
  refine S_callV_IR (lev' := 0) (My := M_X6_reached) [.int p1, .int x1] [] kc6 K_X6_reached kw_1218 kw_1220 kw_48 dX6_lays_6 (by decide) rfl (Nat.le_of_ble_eq_true rfl) (fun xx ee => sm_X6_reached hs o p1 x1 h xx ee) (fun x2 _ => ?_)
  refine S_istore_n [(3, .int x2), (0, .ref o), (1, .int p1), (2, .int p2)] dX6_lays_9 rfl (Nat.le_of_ble_eq_true rfl) rfl ?_
  refine S_iconst 0 dX6_lays_10 (by decide) ?_
  refine S_istore [(4, .int 0), (3, .int x2), (0, .ref o), (1, .int p1), (2, .int p2)] dX6_lays_11 (Nat.le_of_ble_eq_true rfl) rfl ?_
  refine Sim.sub [2, 3, 4, 1, 0] rfl (sl_X6_lays_L13 hs o p1 p2 x2 _ ?_ LF (0 : Int32) h)
  · intro h8
    refine S_aload_n 0 dX6_lays_53 rfl rfl ?_
    refine S_getR kc6 (k := 0) (by decide) kw_1040 dX6_lays_54 (fun a18 _ => ?_)
    refine S_bipush 22 dX6_lays_57 (by decide) ?_
    refine S_iload_n 1 dX6_lays_59 rfl rfl ?_
    refine S_iadd dX6_lays_60 ?_
    refine S_iload_n 2 dX6_lays_61 rfl rfl ?_
    refine S_iconst 1 dX6_lays_62 (by decide) ?_
    refine S_iadd dX6_lays_63 ?_
    refine S_iastore dX6_lays_64 (fun h19 _ => ?_)
    refine S_aload_n 0 dX6_lays_65 rfl rfl ?_
    refine S_iload_n 1 dX6_lays_66 rfl rfl ?_
    refine S_iload_n 2 dX6_lays_67 rfl rfl ?_
    refine S_aload_n 0 dX6_lays_68 rfl rfl ?_
    refine S_iload_n 3 dX6_lays_69 rfl rfl ?_
    refine S_iconst 1 dX6_lays_70 (by decide) ?_
    refine S_iload_n 1 dX6_lays_71 rfl rfl ?_
    refine S_ishl dX6_lays_72 ?_
    refine S_iconst (-1) dX6_lays_73 (by decide) ?_
    refine S_ixor dX6_lays_74 ?_
    refine S_iand dX6_lays_75 ?_
    refine S_callV_IR (lev' := 1) (My := M_X6_partsIn) [.int (x2 &&& (((1 : Int32) <<< (p1 &&& 31)) ^^^ (-1 : Int32)))] [.int p2, .int p1, .ref o] kc6 K_X6_partsIn kw_1237 kw_1239 kw_52 dX6_lays_76 (by decide) rfl (Nat.le_of_ble_eq_true rfl) (fun xx ee => sm_X6_partsIn hs o (x2 &&& (((1 : Int32) <<< (p1 &&& 31)) ^^^ (-1 : Int32))) h19 xx ee) (fun x20 _ => ?_)
    refine S_callV_VW (lev' := 2) (My := M_X6_notes) [.int p1, .int p2, .int x20] [] kc6 K_X6_notes kw_1244 kw_1246 kw_53 dX6_lays_79 (by decide) rfl (Nat.le_of_ble_eq_true rfl) (fun xx ee => sm_X6_notes hs o p1 p2 x20 h19 xx ee) (fun h21 _ => ?_)
    exact S_return rfl rfl dX6_lays_82
theorem sm_X6_lays (hs : l.stackTraces = false) (o : Nat) (p1 : Int32) (p2 : Int32) (h : Hp) : ∀ h1, m_X6_lays  o p1 p2 h = some h1 → SR l G 3 M_X6_lays [.ref o, .int p1, .int p2] h none h1 := fun h1 e => SR.of K_X6_lays hs rfl (Nat.le_of_ble_eq_true rfl) (ss_X6_lays hs o p1 p2 h) e rfl
end
section
variable {l : Launch} {G : Gx}
set_option maxRecDepth 20000 in
set_option maxHeartbeats 4000000 in
theorem ss_X6_passes (hs : l.stackTraces = false) (o : Nat) (h : Hp) : Sim l G 3 M_X6_passes (fun v : Hp => ((.inl none : Oc), v)) 0 [(0, .ref o)] [] h (m_X6_passes  o h) := by
  rw [m_X6_passes]
  refine S_aload_n 0 dX6_passes_0 rfl rfl ?_
  refine S_getR kc6 (k := 0) (by decide) kw_1040 dX6_passes_1 (fun a1 _ => ?_)
  refine S_iconst 2 dX6_passes_4 (by decide) ?_
  refine S_dup2 dX6_passes_5 rfl rfl ?_
  refine S_iaload dX6_passes_6 (fun x2 _ => ?_)
  refine S_iconst 1 dX6_passes_7 (by decide) ?_
  refine S_isub dX6_passes_8 ?_
  refine S_iastore dX6_passes_9 (fun h3 _ => ?_)
  refine S_aload_n 0 dX6_passes_10 rfl rfl ?_
  refine S_iconst (-1) dX6_passes_11 (by decide) ?_
  refine S_iconst (-1) dX6_passes_12 (by decide) ?_
  refine S_iconst 0 dX6_passes_13 (by decide) ?_
  refine S_callV_VW (lev' := 2) (My := M_X6_notes) [.int (-1), .int (-1), .int 0] [] kc6 K_X6_notes kw_1244 kw_1246 kw_53 dX6_passes_14 (by decide) rfl (Nat.le_of_ble_eq_true rfl) (fun xx ee => sm_X6_notes hs o (-1 : Int32) (-1 : Int32) (0 : Int32) h3 xx ee) (fun h4 _ => ?_)
  exact S_return rfl rfl dX6_passes_17
theorem sm_X6_passes (hs : l.stackTraces = false) (o : Nat) (h : Hp) : ∀ h1, m_X6_passes  o h = some h1 → SR l G 3 M_X6_passes [.ref o] h none h1 := fun h1 e => SR.of K_X6_passes hs rfl (Nat.le_of_ble_eq_true rfl) (ss_X6_passes hs o h) e rfl
end
section
variable {l : Launch} {G : Gx}
set_option maxRecDepth 20000 in
set_option maxHeartbeats 4000000 in
theorem sl_X0_partNumberOf_L2 (hs : l.stackTraces = false) (u1 : Nat) (u2 : Int32) (h : Hp) (k2_26 : Int32 → Option Int32) (hk2_26 : ∀ (v4 : Int32), Sim l G 3 M_X0_partNumberOf (fun v : Int32 => ((.inl (some (.int v)) : Oc), h)) 26 [(2, .int v4)] [] h (k2_26 v4)) : ∀ (f : Nat) (w3 : Int32), Sim l G 3 M_X0_partNumberOf (fun v : Int32 => ((.inl (some (.int v)) : Oc), h)) 2 [(0, .ref u1), (1, .int u2), (2, .int w3)] [] h (m_X0_partNumberOf_L2 u1 u2 h k2_26 f w3) := by
  intro f
  induction f with
  | zero => intro w3; exact S_none rfl
  | succ f ih =>
    intro w3
    rw [m_X0_partNumberOf_L2]
    refine S_iload_n 2 dX0_partNumberOf_2 rfl rfl ?_
    refine S_bipush 9 dX0_partNumberOf_3 (by decide) ?_
    refine S_icmp_ge 26 dX0_partNumberOf_5 (by decide) (fun c9 => ?_) (fun c9 => ?_)
    · exact Sim.sub [2] rfl (hk2_26 w3)
    · refine S_aload_n 0 dX0_partNumberOf_8 rfl rfl ?_
      refine S_iload_n 2 dX0_partNumberOf_9 rfl rfl ?_
      refine S_callV_IR (lev' := 2) (My := M_X0_partAt) [.int w3] [] kc0 K_X0_partAt kw_836 kw_423 kw_424 dX0_partNumberOf_10 (by decide) rfl (Nat.le_of_ble_eq_true rfl) (fun xx ee => sm_X0_partAt hs u1 w3 h xx ee) (fun x5 _ => ?_)
      refine S_iload_n 1 dX0_partNumberOf_13 rfl rfl ?_
      refine S_callSN_BR (lev' := 0) (My := M_X5_has) [.int x5, .int u2] [] K_X5_has kn_391 kw_319 dX0_partNumberOf_14 (by decide) rfl (Nat.le_of_ble_eq_true rfl) (fun xx ee => sm_X5_has hs x5 u2 _ xx ee) (fun bb6 _ => ?_)
      refine S_if_neB 26 dX0_partNumberOf_17 (by decide) (fun c8 => ?_) (fun c8 => ?_)
      · exact Sim.sub [2] rfl (hk2_26 w3)
      · refine S_iincN (c := 1) 2 (fun x7 => [(2, .int x7), (0, .ref u1), (1, .int u2)]) dX0_partNumberOf_20 rfl (by decide) (Nat.le_of_ble_eq_true rfl) (fun _ => rfl) (fun x7 => ?_)
        refine S_goto 2 dX0_partNumberOf_23 (by decide) ?_
        exact Sim.sub [1, 2, 0] rfl (ih x7)
set_option maxRecDepth 20000 in
set_option maxHeartbeats 4000000 in
theorem ss_X0_partNumberOf (hs : l.stackTraces = false) (o : Nat) (p1 : Int32) (h : Hp) : Sim l G 3 M_X0_partNumberOf (fun v : Int32 => ((.inl (some (.int v)) : Oc), h)) 0 [(0, .ref o), (1, .int p1)] [] h (m_X0_partNumberOf  o p1 h) := by
  rw [m_X0_partNumberOf]
  refine S_iconst 0 dX0_partNumberOf_0 (by decide) ?_
  refine S_istore_n [(2, .int 0), (0, .ref o), (1, .int p1)] dX0_partNumberOf_1 rfl (Nat.le_of_ble_eq_true rfl) rfl ?_
  refine Sim.sub [1, 2, 0] rfl (sl_X0_partNumberOf_L2 hs o p1 h _ ?_ LF (0 : Int32))
  · intro v4
    refine S_iload_n 0 dX0_partNumberOf_26 rfl rfl ?_
    exact S_ireturn rfl rfl dX0_partNumberOf_27
theorem sm_X0_partNumberOf (hs : l.stackTraces = false) (o : Nat) (p1 : Int32) (h : Hp) : ∀ x, m_X0_partNumberOf  o p1 h = some x → SR l G 3 M_X0_partNumberOf [.ref o, .int p1] h (some (.int x)) h := fun x e => SR.of K_X0_partNumberOf hs rfl (Nat.le_of_ble_eq_true rfl) (ss_X0_partNumberOf hs o p1 h) e rfl
end
section
variable {l : Launch} {G : Gx}
set_option maxRecDepth 20000 in
set_option maxHeartbeats 4000000 in
theorem sl_X0_choicesOn_L4 (hs : l.stackTraces = false) (u1 : Nat) (u2 : Int32) (h : Hp) (k4_33 : Int32 → Option Int32) (hk4_33 : ∀ (v5 : Int32), Sim l G 3 M_X0_choicesOn (fun v : Int32 => ((.inl (some (.int v)) : Oc), h)) 33 [(2, .int v5)] [] h (k4_33 v5)) : ∀ (f : Nat) (w3 : Int32) (w4 : Int32), Sim l G 3 M_X0_choicesOn (fun v : Int32 => ((.inl (some (.int v)) : Oc), h)) 4 [(0, .ref u1), (1, .int u2), (2, .int w3), (3, .int w4)] [] h (m_X0_choicesOn_L4 u1 u2 h k4_33 f w3 w4) := by
  intro f
  induction f with
  | zero => intro w3 w4; exact S_none rfl
  | succ f ih =>
    intro w3 w4
    rw [m_X0_choicesOn_L4]
    refine S_iload_n 3 dX0_choicesOn_4 rfl rfl ?_
    refine S_aload_n 0 dX0_choicesOn_5 rfl rfl ?_
    refine S_getI kc0 (k := 1) (by decide) kw_125 dX0_choicesOn_6 (fun x6 _ => ?_)
    refine S_icmp_ge 33 dX0_choicesOn_9 (by decide) (fun c13 => ?_) (fun c13 => ?_)
    · exact Sim.sub [2] rfl (hk4_33 w3)
    · refine S_aload_n 0 dX0_choicesOn_12 rfl rfl ?_
      refine S_iload_n 1 dX0_choicesOn_13 rfl rfl ?_
      refine S_iload_n 3 dX0_choicesOn_14 rfl rfl ?_
      refine S_callV_IR (lev' := 2) (My := M_X0_whyNot) [.int u2, .int w4] [] kc0 K_X0_whyNot kw_383 kw_384 kw_385 dX0_choicesOn_15 (by decide) rfl (Nat.le_of_ble_eq_true rfl) (fun xx ee => sm_X0_whyNot hs u1 u2 w4 h xx ee) (fun x7 _ => ?_)
      refine S_jK (fun (k9 : Int32 → Option Int32) => ∀ (v8 : Int32), Sim l G 3 M_X0_choicesOn (fun v : Int32 => ((.inl (some (.int v)) : Oc), h)) 27 [(0, .ref u1), (1, .int u2), (2, .int v8), (3, .int w4)] [] h (k9 v8)) ?_ (fun k9 hk9 => ?_)
      · intro v8
        refine S_iincN (c := 1) 3 (fun x10 => [(3, .int x10), (0, .ref u1), (1, .int u2), (2, .int v8)]) dX0_choicesOn_27 rfl (by decide) (Nat.le_of_ble_eq_true rfl) (fun _ => rfl) (fun x10 => ?_)
        refine S_goto 4 dX0_choicesOn_30 (by decide) ?_
        exact Sim.sub [1, 2, 3, 0] rfl (ih v8 x10)
      refine S_if_ne 27 dX0_choicesOn_18 (by decide) (fun c12 => ?_) (fun c12 => ?_)
      · exact Sim.sub [0, 1, 2, 3] rfl (hk9 w3)
      · refine S_iload_n 2 dX0_choicesOn_21 rfl rfl ?_
        refine S_iconst 1 dX0_choicesOn_22 (by decide) ?_
        refine S_iload_n 3 dX0_choicesOn_23 rfl rfl ?_
        refine S_ishl dX0_choicesOn_24 ?_
        refine S_ior dX0_choicesOn_25 ?_
        refine S_nmI (fun x11 => ?_)
        refine S_istore_n [(2, .int x11), (0, .ref u1), (1, .int u2), (3, .int w4)] dX0_choicesOn_26 rfl (Nat.le_of_ble_eq_true rfl) rfl ?_
        exact Sim.sub [1, 2, 0, 3] rfl (hk9 x11)
set_option maxRecDepth 20000 in
set_option maxHeartbeats 4000000 in
theorem ss_X0_choicesOn (hs : l.stackTraces = false) (o : Nat) (p1 : Int32) (h : Hp) : Sim l G 3 M_X0_choicesOn (fun v : Int32 => ((.inl (some (.int v)) : Oc), h)) 0 [(0, .ref o), (1, .int p1)] [] h (m_X0_choicesOn  o p1 h) := by
  rw [m_X0_choicesOn]
  refine S_iconst 0 dX0_choicesOn_0 (by decide) ?_
  refine S_istore_n [(2, .int 0), (0, .ref o), (1, .int p1)] dX0_choicesOn_1 rfl (Nat.le_of_ble_eq_true rfl) rfl ?_
  refine S_iconst 0 dX0_choicesOn_2 (by decide) ?_
  refine S_istore_n [(3, .int 0), (2, .int 0), (0, .ref o), (1, .int p1)] dX0_choicesOn_3 rfl (Nat.le_of_ble_eq_true rfl) rfl ?_
  refine Sim.sub [2, 3, 1, 0] rfl (sl_X0_choicesOn_L4 hs o p1 h _ ?_ LF (0 : Int32) (0 : Int32))
  · intro v5
    refine S_iload_n 0 dX0_choicesOn_33 rfl rfl ?_
    exact S_ireturn rfl rfl dX0_choicesOn_34
theorem sm_X0_choicesOn (hs : l.stackTraces = false) (o : Nat) (p1 : Int32) (h : Hp) : ∀ x, m_X0_choicesOn  o p1 h = some x → SR l G 3 M_X0_choicesOn [.ref o, .int p1] h (some (.int x)) h := fun x e => SR.of K_X0_choicesOn hs rfl (Nat.le_of_ble_eq_true rfl) (ss_X0_choicesOn hs o p1 h) e rfl
end
section
variable {l : Launch} {G : Gx}
set_option maxRecDepth 20000 in
set_option maxHeartbeats 4000000 in
theorem sl_X0_paint_L29 (hs : l.stackTraces = false) (u5 : Nat) (u6 : Int32) (u7 : Int32) (u8 : Int32) (k29_58 : Hp → Option Hp) (hk29_58 : ∀ (h10 : Hp), Sim l G 3 M_X0_paint (fun v : Hp => ((.inl none : Oc), v)) 58 [(0, .ref u5), (1, .int u6), (2, .int u7), (3, .int u8)] [] h10 (k29_58 h10)) : ∀ (f : Nat) (w9 : Int32) (h : Hp), Sim l G 3 M_X0_paint (fun v : Hp => ((.inl none : Oc), v)) 29 [(0, .ref u5), (1, .int u6), (2, .int u7), (3, .int u8), (4, .int w9)] [] h (m_X0_paint_L29 u5 u6 u7 u8 k29_58 f w9 h) := by
  intro f
  induction f with
  | zero => intro w9 h; exact S_none rfl
  | succ f ih =>
    intro w9 h
    rw [m_X0_paint_L29]
    refine S_iload 4 dX0_paint_29 rfl ?_
    refine S_aload_n 0 dX0_paint_31 rfl rfl ?_
    refine S_getR kc0 (k := 10) (by decide) kw_142 dX0_paint_32 (fun a11 _ => ?_)
    refine S_alen (t := 0) (ty := .int) rfl dX0_paint_35 (fun x12 _ => ?_)
    refine S_icmp_ge 58 dX0_paint_36 (by decide) (fun c17 => ?_) (fun c17 => ?_)
    · exact Sim.sub [0, 1, 2, 3] rfl (hk29_58 h)
    · refine S_aload_n 0 dX0_paint_39 rfl rfl ?_
      refine S_getR kc0 (k := 10) (by decide) kw_142 dX0_paint_40 (fun a13 _ => ?_)
      refine S_iload 4 dX0_paint_43 rfl ?_
      refine S_dup2 dX0_paint_45 rfl rfl ?_
      refine S_iaload dX0_paint_46 (fun x14 _ => ?_)
      refine S_iload_n 3 dX0_paint_47 rfl rfl ?_
      refine S_iconst (-1) dX0_paint_48 (by decide) ?_
      refine S_ixor dX0_paint_49 ?_
      refine S_iand dX0_paint_50 ?_
      refine S_iastore dX0_paint_51 (fun h15 _ => ?_)
      refine S_iincN (c := 1) 4 (fun x16 => [(4, .int x16), (0, .ref u5), (1, .int u6), (2, .int u7), (3, .int u8)]) dX0_paint_52 rfl (by decide) (Nat.le_of_ble_eq_true rfl) (fun _ => rfl) (fun x16 => ?_)
      refine S_goto 29 dX0_paint_55 (by decide) ?_
      exact Sim.sub [1, 2, 3, 4, 0] rfl (ih x16 h15)
set_option maxRecDepth 20000 in
set_option maxHeartbeats 4000000 in
theorem ss_X0_paint (hs : l.stackTraces = false) (o : Nat) (p1 : Int32) (p2 : Int32) (h : Hp) : Sim l G 3 M_X0_paint (fun v : Hp => ((.inl none : Oc), v)) 0 [(0, .ref o), (1, .int p1), (2, .int p2)] [] h (m_X0_paint  o p1 p2 h) := by
  rw [m_X0_paint]
  refine S_aload_n 0 dX0_paint_0 rfl rfl ?_
  refine S_iload_n 1 dX0_paint_1 rfl rfl ?_
  refine S_callV_IR (lev' := 2) (My := M_X0_partWith) [.int p1] [] kc0 K_X0_partWith kw_712 kw_399 kw_400 dX0_paint_2 (by decide) rfl (Nat.le_of_ble_eq_true rfl) (fun xx ee => sm_X0_partWith hs o p1 h xx ee) (fun x1 _ => ?_)
  refine S_iconst 1 dX0_paint_5 (by decide) ?_
  refine S_iload_n 1 dX0_paint_6 rfl rfl ?_
  refine S_ishl dX0_paint_7 ?_
  refine S_iconst (-1) dX0_paint_8 (by decide) ?_
  refine S_ixor dX0_paint_9 ?_
  refine S_iand dX0_paint_10 ?_
  refine S_nmI (fun x2 => ?_)
  refine S_istore_n [(3, .int x2), (0, .ref o), (1, .int p1), (2, .int p2)] dX0_paint_11 rfl (Nat.le_of_ble_eq_true rfl) rfl ?_
  refine S_aload_n 1 dX0_paint_12 rfl rfl ?_
  refine S_dup dX0_paint_13 rfl ?_
  refine S_getI kc0 (k := 4) (by decide) kw_133 dX0_paint_14 (fun x3 _ => ?_)
  refine S_iconst 1 dX0_paint_17 (by decide) ?_
  refine S_iload_n 2 dX0_paint_18 rfl rfl ?_
  refine S_ishl dX0_paint_19 ?_
  refine S_iconst (-1) dX0_paint_20 (by decide) ?_
  refine S_ixor dX0_paint_21 ?_
  refine S_iand dX0_paint_22 ?_
  refine S_put kc0 (k := 4) (by decide) rfl kw_133 rfl rfl dX0_paint_23 (fun h4 _ => ?_)
  refine S_iconst 0 dX0_paint_26 (by decide) ?_
  refine S_istore [(4, .int 0), (3, .int x2), (0, .ref o), (1, .int p1), (2, .int p2)] dX0_paint_27 (Nat.le_of_ble_eq_true rfl) rfl ?_
  refine Sim.sub [2, 3, 4, 1, 0] rfl (sl_X0_paint_L29 hs o p1 p2 x2 _ ?_ LF (0 : Int32) h4)
  · intro h10
    refine S_aload_n 0 dX0_paint_58 rfl rfl ?_
    refine S_getR kc0 (k := 10) (by decide) kw_142 dX0_paint_59 (fun a18 _ => ?_)
    refine S_iload_n 2 dX0_paint_62 rfl rfl ?_
    refine S_iload_n 3 dX0_paint_63 rfl rfl ?_
    refine S_callSN_VW (lev' := 0) (My := M_X5_add) [.ref a18, .int p2, .int x2] [] K_X5_add kn_692 kw_693 dX0_paint_64 (by decide) rfl (Nat.le_of_ble_eq_true rfl) (fun xx ee => sm_X5_add hs a18 p2 x2 h10 xx ee) (fun h19 _ => ?_)
    refine S_aload_n 0 dX0_paint_67 rfl rfl ?_
    refine S_getR kc0 (k := 9) (by decide) kw_141 dX0_paint_68 (fun a20 _ => ?_)
    refine S_iload_n 2 dX0_paint_71 rfl rfl ?_
    refine S_iconst 1 dX0_paint_72 (by decide) ?_
    refine S_iload_n 1 dX0_paint_73 rfl rfl ?_
    refine S_ishl dX0_paint_74 ?_
    refine S_callSN_VW (lev' := 0) (My := M_X5_add) [.ref a20, .int p2, .int ((1 : Int32) <<< (p1 &&& 31))] [] K_X5_add kn_692 kw_693 dX0_paint_75 (by decide) rfl (Nat.le_of_ble_eq_true rfl) (fun xx ee => sm_X5_add hs a20 p2 ((1 : Int32) <<< (p1 &&& 31)) h19 xx ee) (fun h21 _ => ?_)
    refine S_aload_n 0 dX0_paint_78 rfl rfl ?_
    refine S_newN kc2 rfl kd2 kw_713 kw_714 kw_99 dX0_paint_79 (fun a22 h23 => ?_)
    refine S_dup dX0_paint_82 rfl ?_
    refine S_aload_n 0 dX0_paint_83 rfl rfl ?_
    refine S_getN kc0 (k := 6) (by decide) kw_138 dX0_paint_84 (fun q24 _ => ?_)
    refine S_iload_n 1 dX0_paint_87 rfl rfl ?_
    refine S_iload_n 2 dX0_paint_88 rfl rfl ?_
    refine S_aload_n 0 dX0_paint_89 rfl rfl ?_
    refine S_aload_n 0 dX0_paint_90 rfl rfl ?_
    refine S_getI kc0 (k := 4) (by decide) kw_133 dX0_paint_91 (fun x25 _ => ?_)
    refine S_callV_IR (lev' := 2) (My := M_X0_partsIn) [.int x25] [.int p2, .int p1, va_rf q24, .ref a22, .ref a22, .ref o] kc0 K_X0_partsIn kw_715 kw_419 kw_420 dX0_paint_94 (by decide) rfl (by cases q24 <;> exact Nat.le_of_ble_eq_true rfl) (fun xx ee => sm_X0_partsIn hs o x25 h23 xx ee) (fun x26 _ => ?_)
    refine S_aload_n 0 dX0_paint_97 rfl rfl ?_
    refine S_iload_n 3 dX0_paint_98 rfl rfl ?_
    refine S_callV_IR (lev' := 2) (My := M_X0_partsIn) [.int x2] [.int x26, .int p2, .int p1, va_rf q24, .ref a22, .ref a22, .ref o] kc0 K_X0_partsIn kw_715 kw_419 kw_420 dX0_paint_99 (by decide) rfl (by cases q24 <;> exact Nat.le_of_ble_eq_true rfl) (fun xx ee => sm_X0_partsIn hs o x2 h23 xx ee) (fun x27 _ => ?_)
    refine S_callI_VW (lev' := 0) (My := M_X2_init) [va_rf q24, .int p1, .int p2, .int x26, .int x27] [.ref a22, .ref o] K_X2_init rfl rfl kw_716 kw_717 dX0_paint_102 (by decide) rfl (Nat.le_of_ble_eq_true rfl) (fun xx ee => sm_X2_init hs a22 q24 p1 p2 x26 x27 h23 xx ee) (fun h28 _ => ?_)
    refine S_put kc0 (k := 6) (by decide) rfl kw_138 rfl rfl dX0_paint_105 (fun h29 _ => ?_)
    refine S_aload_n 0 dX0_paint_108 rfl rfl ?_
    refine S_dup dX0_paint_109 rfl ?_
    refine S_getI kc0 (k := 5) (by decide) kw_136 dX0_paint_110 (fun x30 _ => ?_)
    refine S_iconst 1 dX0_paint_113 (by decide) ?_
    refine S_iadd dX0_paint_114 ?_
    refine S_put kc0 (k := 5) (by decide) rfl kw_136 rfl rfl dX0_paint_115 (fun h31 _ => ?_)
    exact S_return rfl rfl dX0_paint_118
theorem sm_X0_paint (hs : l.stackTraces = false) (o : Nat) (p1 : Int32) (p2 : Int32) (h : Hp) : ∀ h1, m_X0_paint  o p1 p2 h = some h1 → SR l G 3 M_X0_paint [.ref o, .int p1, .int p2] h none h1 := fun h1 e => SR.of K_X0_paint hs rfl (Nat.le_of_ble_eq_true rfl) (ss_X0_paint hs o p1 p2 h) e rfl
end
section
variable {l : Launch} {G : Gx}
set_option maxRecDepth 20000 in
set_option maxHeartbeats 4000000 in
theorem ss_X0_spendPass (hs : l.stackTraces = false) (o : Nat) (h : Hp) : Sim l G 3 M_X0_spendPass (fun v : Hp => ((.inl none : Oc), v)) 0 [(0, .ref o)] [] h (m_X0_spendPass  o h) := by
  rw [m_X0_spendPass]
  refine S_aload_n 0 dX0_spendPass_0 rfl rfl ?_
  refine S_dup dX0_spendPass_1 rfl ?_
  refine S_getI kc0 (k := 3) (by decide) kw_130 dX0_spendPass_2 (fun x1 _ => ?_)
  refine S_iconst 1 dX0_spendPass_5 (by decide) ?_
  refine S_isub dX0_spendPass_6 ?_
  refine S_put kc0 (k := 3) (by decide) rfl kw_130 rfl rfl dX0_spendPass_7 (fun h2 _ => ?_)
  refine S_aload_n 0 dX0_spendPass_10 rfl rfl ?_
  refine S_newN kc2 rfl kd2 kw_713 kw_714 kw_99 dX0_spendPass_11 (fun a3 h4 => ?_)
  refine S_dup dX0_spendPass_14 rfl ?_
  refine S_aload_n 0 dX0_spendPass_15 rfl rfl ?_
  refine S_getN kc0 (k := 6) (by decide) kw_138 dX0_spendPass_16 (fun q5 _ => ?_)
  refine S_iconst (-1) dX0_spendPass_19 (by decide) ?_
  refine S_iconst (-1) dX0_spendPass_20 (by decide) ?_
  refine S_aload_n 0 dX0_spendPass_21 rfl rfl ?_
  refine S_aload_n 0 dX0_spendPass_22 rfl rfl ?_
  refine S_getI kc0 (k := 4) (by decide) kw_133 dX0_spendPass_23 (fun x6 _ => ?_)
  refine S_callV_IR (lev' := 2) (My := M_X0_partsIn) [.int x6] [.int (-1), .int (-1), va_rf q5, .ref a3, .ref a3, .ref o] kc0 K_X0_partsIn kw_715 kw_419 kw_420 dX0_spendPass_26 (by decide) rfl (by cases q5 <;> exact Nat.le_of_ble_eq_true rfl) (fun xx ee => sm_X0_partsIn hs o x6 h4 xx ee) (fun x7 _ => ?_)
  refine S_iconst (-1) dX0_spendPass_29 (by decide) ?_
  refine S_callI_VW (lev' := 0) (My := M_X2_init) [va_rf q5, .int (-1), .int (-1), .int x7, .int (-1)] [.ref a3, .ref o] K_X2_init rfl rfl kw_716 kw_717 dX0_spendPass_30 (by decide) rfl (Nat.le_of_ble_eq_true rfl) (fun xx ee => sm_X2_init hs a3 q5 (-1 : Int32) (-1 : Int32) x7 (-1 : Int32) h4 xx ee) (fun h8 _ => ?_)
  refine S_put kc0 (k := 6) (by decide) rfl kw_138 rfl rfl dX0_spendPass_33 (fun h9 _ => ?_)
  refine S_aload_n 0 dX0_spendPass_36 rfl rfl ?_
  refine S_dup dX0_spendPass_37 rfl ?_
  refine S_getI kc0 (k := 5) (by decide) kw_136 dX0_spendPass_38 (fun x10 _ => ?_)
  refine S_iconst 1 dX0_spendPass_41 (by decide) ?_
  refine S_iadd dX0_spendPass_42 ?_
  refine S_put kc0 (k := 5) (by decide) rfl kw_136 rfl rfl dX0_spendPass_43 (fun h11 _ => ?_)
  exact S_return rfl rfl dX0_spendPass_46
theorem sm_X0_spendPass (hs : l.stackTraces = false) (o : Nat) (h : Hp) : ∀ h1, m_X0_spendPass  o h = some h1 → SR l G 3 M_X0_spendPass [.ref o] h none h1 := fun h1 e => SR.of K_X0_spendPass hs rfl (Nat.le_of_ble_eq_true rfl) (ss_X0_spendPass hs o h) e rfl
end
section
variable {l : Launch} {G : Gx}
set_option maxRecDepth 20000 in
set_option maxHeartbeats 4000000 in
theorem ss_X1_keep (hs : l.stackTraces = false) (o : Nat) (p1 : Nat) (h : Hp) : Sim l G 3 M_X1_keep (fun v : Hp => ((.inl none : Oc), v)) 0 [(0, .ref o), (1, .ref p1)] [] h (m_X1_keep  o p1 h) := by
  rw [m_X1_keep]
  refine S_aload_n 0 dX1_keep_0 rfl rfl ?_
  refine S_getR kc1 (k := 2) (by decide) kw_234 dX1_keep_1 (fun a1 _ => ?_)
  refine S_aload_n 0 dX1_keep_4 rfl rfl ?_
  refine S_getI kc1 (k := 1) (by decide) kw_233 dX1_keep_5 (fun x2 _ => ?_)
  refine S_aload_n 1 dX1_keep_8 rfl rfl ?_
  refine S_callSN_VW (lev' := 2) (My := M_X5_keepCopy) [.ref a1, .int x2, .ref p1] [] K_X5_keepCopy kn_757 kw_758 dX1_keep_9 (by decide) rfl (Nat.le_of_ble_eq_true rfl) (fun xx ee => sm_X5_keepCopy hs a1 x2 p1 h xx ee) (fun h3 _ => ?_)
  refine S_aload_n 0 dX1_keep_12 rfl rfl ?_
  refine S_aload_n 0 dX1_keep_13 rfl rfl ?_
  refine S_getI kc1 (k := 1) (by decide) kw_233 dX1_keep_14 (fun x4 _ => ?_)
  refine S_iconst 1 dX1_keep_17 (by decide) ?_
  refine S_iadd dX1_keep_18 ?_
  refine S_aload_n 0 dX1_keep_19 rfl rfl ?_
  refine S_getR kc1 (k := 2) (by decide) kw_234 dX1_keep_20 (fun a5 _ => ?_)
  refine S_alen (t := 4) (ty := .object "ColourDuel$Board") rfl dX1_keep_23 (fun x6 _ => ?_)
  refine S_jK (fun (k8 : Int32 → Option Hp) => ∀ (v7 : Int32), Sim l G 3 M_X1_keep (fun v : Hp => ((.inl none : Oc), v)) 37 [(0, .ref o)] [.int v7, .ref o] h3 (k8 v7)) ?_ (fun k8 hk8 => ?_)
  · intro v7
    refine S_put kc1 (k := 1) (by decide) rfl kw_233 rfl rfl dX1_keep_37 (fun h9 _ => ?_)
    refine S_aload_n 0 dX1_keep_40 rfl rfl ?_
    refine S_aload_n 0 dX1_keep_41 rfl rfl ?_
    refine S_getI kc1 (k := 0) (by decide) kw_231 dX1_keep_42 (fun x10 _ => ?_)
    refine S_iconst 1 dX1_keep_45 (by decide) ?_
    refine S_iadd dX1_keep_46 ?_
    refine S_aload_n 0 dX1_keep_47 rfl rfl ?_
    refine S_getR kc1 (k := 2) (by decide) kw_234 dX1_keep_48 (fun a11 _ => ?_)
    refine S_alen (t := 4) (ty := .object "ColourDuel$Board") rfl dX1_keep_51 (fun x12 _ => ?_)
    refine S_mmin kw_768 (Nat.le_of_ble_eq_true rfl) dX1_keep_52 ?_
    refine S_put kc1 (k := 0) (by decide) rfl kw_231 rfl rfl dX1_keep_55 (fun h13 _ => ?_)
    exact S_return rfl rfl dX1_keep_58
  refine S_icmp_ge 36 dX1_keep_24 (by decide) (fun c15 => ?_) (fun c15 => ?_)
  · refine S_iconst 0 dX1_keep_36 (by decide) ?_
    exact Sim.sub [0] rfl (hk8 (0 : Int32))
  · refine S_aload_n 0 dX1_keep_27 rfl rfl ?_
    refine S_getI kc1 (k := 1) (by decide) kw_233 dX1_keep_28 (fun x14 _ => ?_)
    refine S_iconst 1 dX1_keep_31 (by decide) ?_
    refine S_iadd dX1_keep_32 ?_
    refine S_goto 37 dX1_keep_33 (by decide) ?_
    exact Sim.sub [0] rfl (hk8 (x14 + (1 : Int32)))
theorem sm_X1_keep (hs : l.stackTraces = false) (o : Nat) (p1 : Nat) (h : Hp) : ∀ h1, m_X1_keep  o p1 h = some h1 → SR l G 3 M_X1_keep [.ref o, .ref p1] h none h1 := fun h1 e => SR.of K_X1_keep hs rfl (Nat.le_of_ble_eq_true rfl) (ss_X1_keep hs o p1 h) e rfl
end
section
variable {l : Launch} {G : Gx} {L : Nat}
set_option maxRecDepth 20000 in
set_option maxHeartbeats 4000000 in
theorem sl_X6_together_L11 (hs : l.stackTraces = false) (hL : 3 ≤ L) (rc : Nat → Int32 → Int32 → Hp → Option (Int32 × Hp)) (hrc : ∀ (z0 : Nat) (z1 : Int32) (z2 : Int32) (h : Hp) x h1, rc z0 z1 z2 h = some (x, h1) → SR l G L M_X6_knownOf [.ref z0, .int z1, .int z2] h (some (.int x)) h1) (u1 : Nat) (u2 : Int32) (u3 : Int32) (k11_79 : Int32 → Int32 → Int32 → Hp → Option (Int32 × Hp)) (hk11_79 : ∀ (v8 : Int32) (v9 : Int32) (v10 : Int32) (h11 : Hp), Sim l G (L + 1) M_X6_together (fun p : Int32 × Hp => ((.inl (some (.int p.1)) : Oc), p.2)) 79 [(3, .int v8), (4, .int v9), (5, .int v10)] [] h11 (k11_79 v8 v9 v10 h11)) : ∀ (f : Nat) (w4 : Int32) (w5 : Int32) (w6 : Int32) (w7 : Int32) (h : Hp), Sim l G (L + 1) M_X6_together (fun p : Int32 × Hp => ((.inl (some (.int p.1)) : Oc), p.2)) 11 [(0, .ref u1), (1, .int u2), (2, .int u3), (3, .int w4), (4, .int w5), (5, .int w6), (6, .int w7)] [] h (m_X6_together_L11 rc u1 u2 u3 k11_79 f w4 w5 w6 w7 h) := by
  intro f
  induction f with
  | zero => intro w4 w5 w6 w7 h; exact S_none rfl
  | succ f ih =>
    intro w4 w5 w6 w7 h
    rw [m_X6_together_L11]
    refine S_iload 6 dX6_together_11 rfl ?_
    refine S_if_le 79 dX6_together_13 (by decide) (fun c20 => ?_) (fun c20 => ?_)
    · exact Sim.sub [3, 4, 5] rfl (hk11_79 w4 w5 w6 h)
    · refine S_aload_n 0 dX6_together_16 rfl rfl ?_
      refine S_iload 6 dX6_together_17 rfl ?_
      refine S_callS_IR (lev' := 0) (My := M_X6_lowest) [.int w7] [.ref u1] K_X6_lowest kw_1241 kw_1242 dX6_together_19 (by omega) rfl (Nat.le_of_ble_eq_true rfl) (fun xx ee => sm_X6_lowest hs w7 _ xx ee) (fun x12 _ => ?_)
      refine S_iload_n 1 dX6_together_22 rfl rfl ?_
      refine S_callV_IR (lev' := 0) (My := M_X6_reached) [.int x12, .int u2] [] kc6 K_X6_reached kw_1218 kw_1220 kw_48 dX6_together_23 (by omega) rfl (Nat.le_of_ble_eq_true rfl) (fun xx ee => sm_X6_reached hs u1 x12 u2 h xx ee) (fun x13 _ => ?_)
      refine S_istore [(7, .int x13), (0, .ref u1), (1, .int u2), (2, .int u3), (3, .int w4), (4, .int w5), (5, .int w6), (6, .int w7)] dX6_together_26 (Nat.le_of_ble_eq_true rfl) rfl ?_
      refine S_aload_n 1 dX6_together_28 rfl rfl ?_
      refine S_iload 0 dX6_together_29 rfl ?_
      refine S_iload_n 3 dX6_together_31 rfl rfl ?_
      refine S_callV_IW (lev' := L) (My := M_X6_knownOf) [.int x13, .int u3] [] kc6 K_X6_knownOf kw_1328 kw_1330 kw_69 dX6_together_32 (by omega) rfl (Nat.le_of_ble_eq_true rfl) (fun xx yy ee => hrc u1 x13 u3 h xx yy ee) (fun x14 h15 _ => ?_)
      refine S_istore [(8, .int x14), (7, .int x13), (0, .ref u1), (1, .int u2), (2, .int u3), (3, .int w4), (4, .int w5), (5, .int w6), (6, .int w7)] dX6_together_35 (Nat.le_of_ble_eq_true rfl) rfl ?_
      refine S_iload_n 5 dX6_together_37 rfl rfl ?_
      refine S_iload 0 dX6_together_38 rfl ?_
      refine S_bipush 31 dX6_together_40 (by decide) ?_
      refine S_iand dX6_together_42 ?_
      refine S_ixor dX6_together_43 ?_
      refine S_nmI (fun x16 => ?_)
      refine S_istore_n [(3, .int x16), (8, .int x14), (7, .int x13), (0, .ref u1), (1, .int u2), (2, .int u3), (4, .int w5), (5, .int w6), (6, .int w7)] dX6_together_44 rfl (Nat.le_of_ble_eq_true rfl) rfl ?_
      refine S_iload 6 dX6_together_45 rfl ?_
      refine S_iload 1 dX6_together_47 rfl ?_
      refine S_iconst 5 dX6_together_49 (by decide) ?_
      refine S_ishr dX6_together_50 ?_
      refine S_bipush 31 dX6_together_51 (by decide) ?_
      refine S_iand dX6_together_53 ?_
      refine S_iadd dX6_together_54 ?_
      refine S_nmI (fun x17 => ?_)
      refine S_istore [(4, .int x17), (3, .int x16), (8, .int x14), (7, .int x13), (0, .ref u1), (1, .int u2), (2, .int u3), (5, .int w6), (6, .int w7)] dX6_together_55 (Nat.le_of_ble_eq_true rfl) rfl ?_
      refine S_iload 7 dX6_together_57 rfl ?_
      refine S_iload 2 dX6_together_59 rfl ?_
      refine S_bipush 10 dX6_together_61 (by decide) ?_
      refine S_ishr dX6_together_63 ?_
      refine S_iadd dX6_together_64 ?_
      refine S_nmI (fun x18 => ?_)
      refine S_istore [(5, .int x18), (4, .int x17), (3, .int x16), (8, .int x14), (7, .int x13), (0, .ref u1), (1, .int u2), (2, .int u3), (6, .int w7)] dX6_together_65 (Nat.le_of_ble_eq_true rfl) rfl ?_
      refine S_iload 8 dX6_together_67 rfl ?_
      refine S_iload 4 dX6_together_69 rfl ?_
      refine S_iconst (-1) dX6_together_71 (by decide) ?_
      refine S_ixor dX6_together_72 ?_
      refine S_iand dX6_together_73 ?_
      refine S_nmI (fun x19 => ?_)
      refine S_istore [(6, .int x19), (5, .int x18), (4, .int x17), (3, .int x16), (8, .int x14), (7, .int x13), (0, .ref u1), (1, .int u2), (2, .int u3)] dX6_together_74 (Nat.le_of_ble_eq_true rfl) rfl ?_
      refine S_goto 11 dX6_together_76 (by decide) ?_
      exact Sim.sub [6, 7, 8, 3, 2, 1, 0] rfl (ih x16 x17 x18 x19 h15)
set_option maxRecDepth 20000 in
set_option maxHeartbeats 4000000 in
theorem ss_X6_together (hs : l.stackTraces = false) (hL : 3 ≤ L) (rc : Nat → Int32 → Int32 → Hp → Option (Int32 × Hp)) (hrc : ∀ (z0 : Nat) (z1 : Int32) (z2 : Int32) (h : Hp) x h1, rc z0 z1 z2 h = some (x, h1) → SR l G L M_X6_knownOf [.ref z0, .int z1, .int z2] h (some (.int x)) h1) (o : Nat) (p1 : Int32) (p2 : Int32) (h : Hp) : Sim l G (L + 1) M_X6_together (fun p : Int32 × Hp => ((.inl (some (.int p.1)) : Oc), p.2)) 0 [(0, .ref o), (1, .int p1), (2, .int p2)] [] h (m_X6_together rc  o p1 p2 h) := by
  rw [m_X6_together]
  refine S_iconst 0 dX6_together_0 (by decide) ?_
  refine S_istore_n [(3, .int 0), (0, .ref o), (1, .int p1), (2, .int p2)] dX6_together_1 rfl (Nat.le_of_ble_eq_true rfl) rfl ?_
  refine S_iconst 0 dX6_together_2 (by decide) ?_
  refine S_istore [(4, .int 0), (3, .int 0), (0, .ref o), (1, .int p1), (2, .int p2)] dX6_together_3 (Nat.le_of_ble_eq_true rfl) rfl ?_
  refine S_iconst 0 dX6_together_5 (by decide) ?_
  refine S_istore [(5, .int 0), (4, .int 0), (3, .int 0), (0, .ref o), (1, .int p1), (2, .int p2)] dX6_together_6 (Nat.le_of_ble_eq_true rfl) rfl ?_
  refine S_iload_n 4 dX6_together_8 rfl rfl ?_
  refine S_istore [(6, .int p1), (5, .int 0), (4, .int 0), (3, .int 0), (0, .ref o), (1, .int p1), (2, .int p2)] dX6_together_9 (Nat.le_of_ble_eq_true rfl) rfl ?_
  refine Sim.sub [4, 5, 6, 3, 2, 1, 0] rfl (sl_X6_together_L11 hs hL rc hrc o p1 p2 _ ?_ LF (0 : Int32) (0 : Int32) (0 : Int32) p1 h)
  · intro v8 v9 v10 h11
    refine S_iload_n 0 dX6_together_79 rfl rfl ?_
    refine S_iload 1 dX6_together_80 rfl ?_
    refine S_iconst 5 dX6_together_82 (by decide) ?_
    refine S_ishl dX6_together_83 ?_
    refine S_ior dX6_together_84 ?_
    refine S_iload 2 dX6_together_85 rfl ?_
    refine S_bipush 10 dX6_together_87 (by decide) ?_
    refine S_ishl dX6_together_89 ?_
    refine S_ior dX6_together_90 ?_
    exact S_ireturn rfl rfl dX6_together_91
theorem sm_X6_together (hs : l.stackTraces = false) (hL : 3 ≤ L) (rc : Nat → Int32 → Int32 → Hp → Option (Int32 × Hp)) (hrc : ∀ (z0 : Nat) (z1 : Int32) (z2 : Int32) (h : Hp) x h1, rc z0 z1 z2 h = some (x, h1) → SR l G L M_X6_knownOf [.ref z0, .int z1, .int z2] h (some (.int x)) h1) (o : Nat) (p1 : Int32) (p2 : Int32) (h : Hp) : ∀ x h1, m_X6_together rc  o p1 p2 h = some (x, h1) → SR l G (L + 1) M_X6_together [.ref o, .int p1, .int p2] h (some (.int x)) h1 := fun x h1 e => SR.of K_X6_together hs rfl (Nat.le_of_ble_eq_true rfl) (ss_X6_together hs hL rc hrc o p1 p2 h) e rfl
end
section
variable {l : Launch} {G : Gx} {L : Nat}
set_option maxRecDepth 20000 in
set_option maxHeartbeats 4000000 in
theorem sl_X6_knownOf_L74 (hs : l.stackTraces = false) (hL : 3 ≤ L) (rc : Nat → Int32 → Int32 → Hp → Option (Int32 × Hp)) (hrc : ∀ (z0 : Nat) (z1 : Int32) (z2 : Int32) (h : Hp) x h1, rc z0 z1 z2 h = some (x, h1) → SR l G L M_X6_knownOf [.ref z0, .int z1, .int z2] h (some (.int x)) h1) (u20 : Nat) (u21 : Int32) (u22 : Int32) (u23 : Int32) (u27 : Int32) (u28 : Int32) (k74_215 : Int32 → Int32 → Int32 → Hp → Option (Int32 × Hp)) (hk74_215 : ∀ (v30 : Int32) (v31 : Int32) (v32 : Int32) (h33 : Hp), Sim l G (L + 2) M_X6_knownOf (fun p : Int32 × Hp => ((.inl (some (.int p.1)) : Oc), p.2)) 215 [(0, .ref u20), (1, .int u21), (2, .int u22), (3, .int u23), (4, .int v30), (5, .int v31), (6, .int v32), (7, .int u27)] [] h33 (k74_215 v30 v31 v32 h33)) : ∀ (f : Nat) (w24 : Int32) (w25 : Int32) (w26 : Int32) (w29 : Int32) (h : Hp), Sim l G (L + 2) M_X6_knownOf (fun p : Int32 × Hp => ((.inl (some (.int p.1)) : Oc), p.2)) 74 [(0, .ref u20), (1, .int u21), (2, .int u22), (3, .int u23), (4, .int w24), (5, .int w25), (6, .int w26), (7, .int u27), (8, .int u28), (9, .int w29)] [] h (m_X6_knownOf_L74 rc u20 u21 u22 u23 u27 u28 k74_215 f w24 w25 w26 w29 h) := by
  intro f
  induction f with
  | zero => intro w24 w25 w26 w29 h; exact S_none rfl
  | succ f ih =>
    intro w24 w25 w26 w29 h
    rw [m_X6_knownOf_L74]
    refine S_iload 9 dX6_knownOf_74 rfl ?_
    refine S_aload_n 0 dX6_knownOf_76 rfl rfl ?_
    refine S_getR kc6 (k := 0) (by decide) kw_1040 dX6_knownOf_77 (fun a34 _ => ?_)
    refine S_iconst 1 dX6_knownOf_80 (by decide) ?_
    refine S_iaload dX6_knownOf_81 (fun x35 _ => ?_)
    refine S_icmp_ge 215 dX6_knownOf_82 (by decide) (fun c59 => ?_) (fun c59 => ?_)
    · exact Sim.sub [0, 1, 2, 3, 4, 5, 6, 7] rfl (hk74_215 w24 w25 w26 h)
    · refine S_iload 8 dX6_knownOf_85 rfl ?_
      refine S_iload 9 dX6_knownOf_87 rfl ?_
      refine S_ishr dX6_knownOf_89 ?_
      refine S_iconst 1 dX6_knownOf_90 (by decide) ?_
      refine S_iand dX6_knownOf_91 ?_
      refine S_jK (fun (k40 : Int32 → Int32 → Int32 → Hp → Option (Int32 × Hp)) => ∀ (v36 : Int32) (v37 : Int32) (v38 : Int32) (h39 : Hp), Sim l G (L + 2) M_X6_knownOf (fun p : Int32 × Hp => ((.inl (some (.int p.1)) : Oc), p.2)) 209 [(0, .ref u20), (1, .int u21), (2, .int u22), (3, .int u23), (4, .int v36), (5, .int v37), (6, .int v38), (7, .int u27), (8, .int u28), (9, .int w29)] [] h39 (k40 v36 v37 v38 h39)) ?_ (fun k40 hk40 => ?_)
      · intro v36 v37 v38 h39
        refine S_iincN (c := 1) 9 (fun x41 => [(9, .int x41), (0, .ref u20), (1, .int u21), (2, .int u22), (3, .int u23), (4, .int v36), (5, .int v37), (6, .int v38), (7, .int u27), (8, .int u28)]) dX6_knownOf_209 rfl (by decide) (Nat.le_of_ble_eq_true rfl) (fun _ => rfl) (fun x41 => ?_)
        refine S_goto 74 dX6_knownOf_212 (by decide) ?_
        exact Sim.sub [1, 2, 3, 4, 5, 6, 7, 8, 9, 0] rfl (ih v36 v37 v38 x41 h39)
      refine S_if_ne 98 dX6_knownOf_92 (by decide) (fun c58 => ?_) (fun c58 => ?_)
      · refine S_aload_n 0 dX6_knownOf_98 rfl rfl ?_
        refine S_getR kc6 (k := 0) (by decide) kw_1040 dX6_knownOf_99 (fun a42 _ => ?_)
        refine S_bipush 22 dX6_knownOf_102 (by decide) ?_
        refine S_iload 7 dX6_knownOf_104 rfl ?_
        refine S_iadd dX6_knownOf_106 ?_
        refine S_iload 9 dX6_knownOf_107 rfl ?_
        refine S_iconst 1 dX6_knownOf_109 (by decide) ?_
        refine S_iadd dX6_knownOf_110 ?_
        refine S_iastore dX6_knownOf_111 (fun h43 _ => ?_)
        refine S_aload_n 0 dX6_knownOf_112 rfl rfl ?_
        refine S_iload_n 1 dX6_knownOf_113 rfl rfl ?_
        refine S_iconst 1 dX6_knownOf_114 (by decide) ?_
        refine S_iload 7 dX6_knownOf_115 rfl ?_
        refine S_ishl dX6_knownOf_117 ?_
        refine S_iconst (-1) dX6_knownOf_118 (by decide) ?_
        refine S_ixor dX6_knownOf_119 ?_
        refine S_iand dX6_knownOf_120 ?_
        refine S_iload 9 dX6_knownOf_121 rfl ?_
        refine S_callV_IW (lev' := (L + 1)) (My := M_X6_together) [.int (u21 &&& (((1 : Int32) <<< (u27 &&& 31)) ^^^ (-1 : Int32))), .int w29] [] kc6 K_X6_together kw_1336 kw_1338 kw_71 dX6_knownOf_123 (by omega) rfl (Nat.le_of_ble_eq_true rfl) (fun xx yy ee => sm_X6_together hs hL rc hrc u20 (u21 &&& (((1 : Int32) <<< (u27 &&& 31)) ^^^ (-1 : Int32))) w29 h43 xx yy ee) (fun x44 h45 _ => ?_)
        refine S_istore [(10, .int x44), (0, .ref u20), (1, .int u21), (2, .int u22), (3, .int u23), (4, .int w24), (5, .int w25), (6, .int w26), (7, .int u27), (8, .int u28), (9, .int w29)] dX6_knownOf_126 (Nat.le_of_ble_eq_true rfl) rfl ?_
        refine S_aload_n 1 dX6_knownOf_128 rfl rfl ?_
        refine S_getR kc6 (k := 0) (by decide) kw_1040 dX6_knownOf_129 (fun a46 _ => ?_)
        refine S_bipush 22 dX6_knownOf_132 (by decide) ?_
        refine S_iload 8 dX6_knownOf_134 rfl ?_
        refine S_iadd dX6_knownOf_136 ?_
        refine S_iconst 0 dX6_knownOf_137 (by decide) ?_
        refine S_iastore dX6_knownOf_138 (fun h47 _ => ?_)
        refine S_iload 5 dX6_knownOf_139 rfl ?_
        refine S_iconst 1 dX6_knownOf_141 (by decide) ?_
        refine S_iload 0 dX6_knownOf_142 rfl ?_
        refine S_bipush 31 dX6_knownOf_144 (by decide) ?_
        refine S_iand dX6_knownOf_146 ?_
        refine S_ishl dX6_knownOf_147 ?_
        refine S_ior dX6_knownOf_148 ?_
        refine S_nmI (fun x48 => ?_)
        refine S_istore [(4, .int x48), (10, .int x44), (0, .ref u20), (1, .int u21), (2, .int u22), (3, .int u23), (5, .int w25), (6, .int w26), (7, .int u27), (8, .int u28), (9, .int w29)] dX6_knownOf_149 (Nat.le_of_ble_eq_true rfl) rfl ?_
        refine S_iconst 1 dX6_knownOf_151 (by decide) ?_
        refine S_iload 1 dX6_knownOf_152 rfl ?_
        refine S_iconst 5 dX6_knownOf_154 (by decide) ?_
        refine S_ishr dX6_knownOf_155 ?_
        refine S_bipush 31 dX6_knownOf_156 (by decide) ?_
        refine S_iand dX6_knownOf_158 ?_
        refine S_iadd dX6_knownOf_159 ?_
        refine S_nmI (fun x49 => ?_)
        refine S_istore [(11, .int x49), (4, .int x48), (10, .int x44), (0, .ref u20), (1, .int u21), (2, .int u22), (3, .int u23), (5, .int w25), (6, .int w26), (7, .int u27), (8, .int u28), (9, .int w29)] dX6_knownOf_160 (Nat.le_of_ble_eq_true rfl) rfl ?_
        refine S_iconst 1 dX6_knownOf_162 (by decide) ?_
        refine S_iload 2 dX6_knownOf_163 rfl ?_
        refine S_bipush 10 dX6_knownOf_165 (by decide) ?_
        refine S_ishr dX6_knownOf_167 ?_
        refine S_iadd dX6_knownOf_168 ?_
        refine S_nmI (fun x50 => ?_)
        refine S_istore [(12, .int x50), (11, .int x49), (4, .int x48), (10, .int x44), (0, .ref u20), (1, .int u21), (2, .int u22), (3, .int u23), (5, .int w25), (6, .int w26), (7, .int u27), (8, .int u28), (9, .int w29)] dX6_knownOf_169 (Nat.le_of_ble_eq_true rfl) rfl ?_
        refine S_iload 1 dX6_knownOf_171 rfl ?_
        refine S_iload 8 dX6_knownOf_173 rfl ?_
        refine S_jK (fun (k52 : Int32 → Option (Int32 × Hp)) => ∀ (v51 : Int32), Sim l G (L + 2) M_X6_knownOf (fun p : Int32 × Hp => ((.inl (some (.int p.1)) : Oc), p.2)) 185 [(0, .ref u20), (1, .int u21), (2, .int u22), (3, .int u23), (4, .int x48), (6, .int w26), (7, .int u27), (8, .int u28), (9, .int w29), (12, .int x50)] [.int v51] h47 (k52 v51)) ?_ (fun k52 hk52 => ?_)
        · intro v51
          refine S_istore [(5, .int v51), (0, .ref u20), (1, .int u21), (2, .int u22), (3, .int u23), (4, .int x48), (6, .int w26), (7, .int u27), (8, .int u28), (9, .int w29), (12, .int x50)] dX6_knownOf_185 (Nat.le_of_ble_eq_true rfl) rfl ?_
          refine S_iload 6 dX6_knownOf_187 rfl ?_
          refine S_iconst (-1) dX6_knownOf_189 (by decide) ?_
          refine S_jK (fun (k54 : Int32 → Option (Int32 × Hp)) => ∀ (v53 : Int32), Sim l G (L + 2) M_X6_knownOf (fun p : Int32 × Hp => ((.inl (some (.int p.1)) : Oc), p.2)) 207 [(0, .ref u20), (1, .int u21), (2, .int u22), (3, .int u23), (4, .int x48), (5, .int v51), (7, .int u27), (8, .int u28), (9, .int w29)] [.int v53] h47 (k54 v53)) ?_ (fun k54 hk54 => ?_)
          · intro v53
            refine S_istore [(6, .int v53), (0, .ref u20), (1, .int u21), (2, .int u22), (3, .int u23), (4, .int x48), (5, .int v51), (7, .int u27), (8, .int u28), (9, .int w29)] dX6_knownOf_207 (Nat.le_of_ble_eq_true rfl) rfl ?_
            exact Sim.sub [1, 2, 3, 4, 5, 6, 0, 7, 8, 9] rfl (hk40 x48 v51 v53 h47)
          refine S_icmp_eq 200 dX6_knownOf_190 (by decide) (fun c56 => ?_) (fun c56 => ?_)
          · refine S_iload 10 dX6_knownOf_200 rfl ?_
            refine S_goto 207 dX6_knownOf_202 (by decide) ?_
            exact Sim.sub [1, 2, 3, 4, 5, 0, 7, 8, 9] rfl (hk54 x50)
          · refine S_iload 10 dX6_knownOf_193 rfl ?_
            refine S_iload 6 dX6_knownOf_195 rfl ?_
            refine S_icmp_ge 205 dX6_knownOf_197 (by decide) (fun c55 => ?_) (fun c55 => ?_)
            · refine S_iload 6 dX6_knownOf_205 rfl ?_
              exact Sim.sub [1, 2, 3, 4, 5, 0, 7, 8, 9] rfl (hk54 w26)
            · refine S_iload 10 dX6_knownOf_200 rfl ?_
              refine S_goto 207 dX6_knownOf_202 (by decide) ?_
              exact Sim.sub [1, 2, 3, 4, 5, 0, 7, 8, 9] rfl (hk54 x50)
        refine S_icmp_le 183 dX6_knownOf_175 (by decide) (fun c57 => ?_) (fun c57 => ?_)
        · refine S_iload 8 dX6_knownOf_183 rfl ?_
          exact Sim.sub [4, 5, 6, 7, 2, 9, 10, 11, 12, 0] rfl (hk52 w25)
        · refine S_iload 1 dX6_knownOf_178 rfl ?_
          refine S_goto 185 dX6_knownOf_180 (by decide) ?_
          exact Sim.sub [4, 5, 6, 7, 2, 9, 10, 11, 12, 0] rfl (hk52 x49)
      · refine S_goto 209 dX6_knownOf_95 (by decide) ?_
        exact Sim.sub [0, 1, 2, 3, 4, 5, 6, 7, 8, 9] rfl (hk40 w24 w25 w26 h)
set_option maxRecDepth 20000 in
set_option maxHeartbeats 4000000 in
theorem sl_X6_knownOf_L36 (hs : l.stackTraces = false) (hL : 3 ≤ L) (rc : Nat → Int32 → Int32 → Hp → Option (Int32 × Hp)) (hrc : ∀ (z0 : Nat) (z1 : Int32) (z2 : Int32) (h : Hp) x h1, rc z0 z1 z2 h = some (x, h1) → SR l G L M_X6_knownOf [.ref z0, .int z1, .int z2] h (some (.int x)) h1) (u4 : Nat) (u5 : Int32) (u6 : Int32) (u7 : Int32) (k36_221 : Int32 → Int32 → Int32 → Hp → Option (Int32 × Hp)) (hk36_221 : ∀ (v12 : Int32) (v13 : Int32) (v14 : Int32) (h15 : Hp), Sim l G (L + 2) M_X6_knownOf (fun p : Int32 × Hp => ((.inl (some (.int p.1)) : Oc), p.2)) 221 [(0, .ref u4), (3, .int u7), (4, .int v12), (5, .int v13), (6, .int v14)] [] h15 (k36_221 v12 v13 v14 h15)) : ∀ (f : Nat) (w8 : Int32) (w9 : Int32) (w10 : Int32) (w11 : Int32) (h : Hp), Sim l G (L + 2) M_X6_knownOf (fun p : Int32 × Hp => ((.inl (some (.int p.1)) : Oc), p.2)) 36 [(0, .ref u4), (1, .int u5), (2, .int u6), (3, .int u7), (4, .int w8), (5, .int w9), (6, .int w10), (7, .int w11)] [] h (m_X6_knownOf_L36 rc u4 u5 u6 u7 k36_221 f w8 w9 w10 w11 h) := by
  intro f
  induction f with
  | zero => intro w8 w9 w10 w11 h; exact S_none rfl
  | succ f ih =>
    intro w8 w9 w10 w11 h
    rw [m_X6_knownOf_L36]
    refine S_iload 7 dX6_knownOf_36 rfl ?_
    refine S_aload_n 0 dX6_knownOf_38 rfl rfl ?_
    refine S_getR kc6 (k := 0) (by decide) kw_1040 dX6_knownOf_39 (fun a16 _ => ?_)
    refine S_iconst 0 dX6_knownOf_42 (by decide) ?_
    refine S_iaload dX6_knownOf_43 (fun x17 _ => ?_)
    refine S_icmp_ge 221 dX6_knownOf_44 (by decide) (fun c63 => ?_) (fun c63 => ?_)
    · exact Sim.sub [0, 3, 4, 5, 6] rfl (hk36_221 w8 w9 w10 h)
    · refine S_iload_n 1 dX6_knownOf_47 rfl rfl ?_
      refine S_iload 7 dX6_knownOf_48 rfl ?_
      refine S_ishr dX6_knownOf_50 ?_
      refine S_iconst 1 dX6_knownOf_51 (by decide) ?_
      refine S_iand dX6_knownOf_52 ?_
      refine S_iconst 1 dX6_knownOf_53 (by decide) ?_
      refine S_jK (fun (k19 : Int32 → Option (Int32 × Hp)) => ∀ (v18 : Int32), Sim l G (L + 2) M_X6_knownOf (fun p : Int32 × Hp => ((.inl (some (.int p.1)) : Oc), p.2)) 69 [(0, .ref u4), (1, .int u5), (2, .int u6), (3, .int u7), (4, .int w8), (5, .int w9), (6, .int w10), (7, .int w11)] [.int v18] h (k19 v18)) ?_ (fun k19 hk19 => ?_)
      · intro v18
        refine S_istore [(8, .int v18), (0, .ref u4), (1, .int u5), (2, .int u6), (3, .int u7), (4, .int w8), (5, .int w9), (6, .int w10), (7, .int w11)] dX6_knownOf_69 (Nat.le_of_ble_eq_true rfl) rfl ?_
        refine S_iconst 0 dX6_knownOf_71 (by decide) ?_
        refine S_istore [(9, .int 0), (8, .int v18), (0, .ref u4), (1, .int u5), (2, .int u6), (3, .int u7), (4, .int w8), (5, .int w9), (6, .int w10), (7, .int w11)] dX6_knownOf_72 (Nat.le_of_ble_eq_true rfl) rfl ?_
        refine Sim.sub [2, 3, 4, 5, 6, 7, 8, 9, 1, 0] rfl (sl_X6_knownOf_L74 hs hL rc hrc u4 u5 u6 u7 w11 v18 _ ?_ LF w8 w9 w10 (0 : Int32) h)
        · intro v30 v31 v32 h33
          refine S_iincN (c := 1) 7 (fun x60 => [(7, .int x60), (0, .ref u4), (1, .int u5), (2, .int u6), (3, .int u7), (4, .int v30), (5, .int v31), (6, .int v32)]) dX6_knownOf_215 rfl (by decide) (Nat.le_of_ble_eq_true rfl) (fun _ => rfl) (fun x60 => ?_)
          refine S_goto 36 dX6_knownOf_218 (by decide) ?_
          exact Sim.sub [1, 2, 3, 4, 5, 6, 7, 0] rfl (ih v30 v31 v32 x60 h33)
      refine S_icmp_ne 68 dX6_knownOf_54 (by decide) (fun c62 => ?_) (fun c62 => ?_)
      · refine S_iconst 0 dX6_knownOf_68 (by decide) ?_
        exact Sim.sub [0, 1, 2, 3, 4, 5, 6, 7] rfl (hk19 (0 : Int32))
      · refine S_aload_n 0 dX6_knownOf_57 rfl rfl ?_
        refine S_iload 7 dX6_knownOf_58 rfl ?_
        refine S_iload_n 1 dX6_knownOf_60 rfl rfl ?_
        refine S_iload_n 2 dX6_knownOf_61 rfl rfl ?_
        refine S_callV_IR (lev' := 2) (My := M_X6_canLay) [.int w11, .int u5, .int u6] [] kc6 K_X6_canLay kw_1226 kw_1228 kw_50 dX6_knownOf_62 (by omega) rfl (Nat.le_of_ble_eq_true rfl) (fun xx ee => sm_X6_canLay hs u4 w11 u5 u6 h xx ee) (fun x61 _ => ?_)
        refine S_goto 69 dX6_knownOf_65 (by decide) ?_
        exact Sim.sub [0, 1, 2, 3, 4, 5, 6, 7] rfl (hk19 x61)
set_option maxRecDepth 20000 in
set_option maxHeartbeats 4000000 in
theorem ss_X6_knownOf (hs : l.stackTraces = false) (hL : 3 ≤ L) (rc : Nat → Int32 → Int32 → Hp → Option (Int32 × Hp)) (hrc : ∀ (z0 : Nat) (z1 : Int32) (z2 : Int32) (h : Hp) x h1, rc z0 z1 z2 h = some (x, h1) → SR l G L M_X6_knownOf [.ref z0, .int z1, .int z2] h (some (.int x)) h1) (o : Nat) (p1 : Int32) (p2 : Int32) (h : Hp) : Sim l G (L + 2) M_X6_knownOf (fun p : Int32 × Hp => ((.inl (some (.int p.1)) : Oc), p.2)) 0 [(0, .ref o), (1, .int p1), (2, .int p2)] [] h (m_X6_knownOf_B rc  o p1 p2 h) := by
  rw [m_X6_knownOf_B]
  refine S_aload_n 0 dX6_knownOf_0 rfl rfl ?_
  refine S_iload_n 1 dX6_knownOf_1 rfl rfl ?_
  refine S_iload_n 2 dX6_knownOf_2 rfl rfl ?_
  refine S_callV_IR (lev' := 1) (My := M_X6_placeOf) [.int p1, .int p2] [] kc6 K_X6_placeOf kw_1332 kw_1334 kw_70 dX6_knownOf_3 (by omega) rfl (Nat.le_of_ble_eq_true rfl) (fun xx ee => sm_X6_placeOf hs o p1 p2 h xx ee) (fun x1 _ => ?_)
  refine S_istore_n [(3, .int x1), (0, .ref o), (1, .int p1), (2, .int p2)] dX6_knownOf_6 rfl (Nat.le_of_ble_eq_true rfl) rfl ?_
  refine S_aload_n 1 dX6_knownOf_7 rfl rfl ?_
  refine S_getR kc6 (k := 18) (by decide) kw_1058 dX6_knownOf_8 (fun a2 _ => ?_)
  refine S_iload_n 0 dX6_knownOf_11 rfl rfl ?_
  refine S_iaload dX6_knownOf_12 (fun x3 _ => ?_)
  refine S_iconst (-1) dX6_knownOf_13 (by decide) ?_
  refine S_icmp_eq 24 dX6_knownOf_14 (by decide) (fun c74 => ?_) (fun c74 => ?_)
  · refine S_iconst 0 dX6_knownOf_24 (by decide) ?_
    refine S_istore [(4, .int 0), (3, .int x1), (0, .ref o), (1, .int p1), (2, .int p2)] dX6_knownOf_25 (Nat.le_of_ble_eq_true rfl) rfl ?_
    refine S_iconst 0 dX6_knownOf_27 (by decide) ?_
    refine S_istore [(5, .int 0), (4, .int 0), (3, .int x1), (0, .ref o), (1, .int p1), (2, .int p2)] dX6_knownOf_28 (Nat.le_of_ble_eq_true rfl) rfl ?_
    refine S_iconst (-1) dX6_knownOf_30 (by decide) ?_
    refine S_istore [(6, .int (-1)), (5, .int 0), (4, .int 0), (3, .int x1), (0, .ref o), (1, .int p1), (2, .int p2)] dX6_knownOf_31 (Nat.le_of_ble_eq_true rfl) rfl ?_
    refine S_iconst 0 dX6_knownOf_33 (by decide) ?_
    refine S_istore [(7, .int 0), (6, .int (-1)), (5, .int 0), (4, .int 0), (3, .int x1), (0, .ref o), (1, .int p1), (2, .int p2)] dX6_knownOf_34 (Nat.le_of_ble_eq_true rfl) rfl ?_
    refine Sim.sub [5, 6, 7, 4, 3, 2, 1, 0] rfl (sl_X6_knownOf_L36 hs hL rc hrc o p1 p2 x1 _ ?_ LF (0 : Int32) (0 : Int32) (-1 : Int32) (0 : Int32) h)
    · intro v12 v13 v14 h15
      refine S_aload_n 0 dX6_knownOf_221 rfl rfl ?_
      refine S_getR kc6 (k := 18) (by decide) kw_1058 dX6_knownOf_222 (fun a64 _ => ?_)
      refine S_iload_n 1 dX6_knownOf_225 rfl rfl ?_
      refine S_iload 2 dX6_knownOf_226 rfl ?_
      refine S_iconst (-1) dX6_knownOf_228 (by decide) ?_
      refine S_ixor dX6_knownOf_229 ?_
      refine S_callS_IR (lev' := 0) (My := M_X6_lowest) [.int (v12 ^^^ (-1 : Int32))] [.int x1, .ref a64] K_X6_lowest kw_1241 kw_1242 dX6_knownOf_230 (by omega) rfl (Nat.le_of_ble_eq_true rfl) (fun xx ee => sm_X6_lowest hs (v12 ^^^ (-1 : Int32)) _ xx ee) (fun x65 _ => ?_)
      refine S_iload 3 dX6_knownOf_233 rfl ?_
      refine S_iconst 5 dX6_knownOf_235 (by decide) ?_
      refine S_ishl dX6_knownOf_236 ?_
      refine S_ior dX6_knownOf_237 ?_
      refine S_iload 4 dX6_knownOf_238 rfl ?_
      refine S_iconst (-1) dX6_knownOf_240 (by decide) ?_
      refine S_jK (fun (k67 : Int32 → Option (Int32 × Hp)) => ∀ (v66 : Int32), Sim l G (L + 2) M_X6_knownOf (fun p : Int32 × Hp => ((.inl (some (.int p.1)) : Oc), p.2)) 250 [(0, .ref o), (3, .int x1)] [.int v66, .int (x65 ||| (v13 <<< ((5 : Int32) &&& 31))), .int x1, .ref a64] h15 (k67 v66)) ?_ (fun k67 hk67 => ?_)
      · intro v66
        refine S_bipush 10 dX6_knownOf_250 (by decide) ?_
        refine S_ishl dX6_knownOf_252 ?_
        refine S_ior dX6_knownOf_253 ?_
        refine S_iastore dX6_knownOf_254 (fun h68 _ => ?_)
        refine S_aload_n 0 dX6_knownOf_255 rfl rfl ?_
        refine S_getR kc6 (k := 18) (by decide) kw_1058 dX6_knownOf_256 (fun a69 _ => ?_)
        refine S_iload_n 1 dX6_knownOf_259 rfl rfl ?_
        refine S_iaload dX6_knownOf_260 (fun x70 _ => ?_)
        exact S_ireturn rfl rfl dX6_knownOf_261
      refine S_icmp_ne 248 dX6_knownOf_241 (by decide) (fun c71 => ?_) (fun c71 => ?_)
      · refine S_iload 4 dX6_knownOf_248 rfl ?_
        exact Sim.sub [0, 1] rfl (hk67 v14)
      · refine S_iconst 0 dX6_knownOf_244 (by decide) ?_
        refine S_goto 250 dX6_knownOf_245 (by decide) ?_
        exact Sim.sub [0, 1] rfl (hk67 (0 : Int32))
  · refine S_aload_n 1 dX6_knownOf_17 rfl rfl ?_
    refine S_getR kc6 (k := 18) (by decide) kw_1058 dX6_knownOf_18 (fun a72 _ => ?_)
    refine S_iload_n 0 dX6_knownOf_21 rfl rfl ?_
    refine S_iaload dX6_knownOf_22 (fun x73 _ => ?_)
    exact S_ireturn rfl rfl dX6_knownOf_23
theorem sm_X6_knownOf_B (hs : l.stackTraces = false) (hL : 3 ≤ L) (rc : Nat → Int32 → Int32 → Hp → Option (Int32 × Hp)) (hrc : ∀ (z0 : Nat) (z1 : Int32) (z2 : Int32) (h : Hp) x h1, rc z0 z1 z2 h = some (x, h1) → SR l G L M_X6_knownOf [.ref z0, .int z1, .int z2] h (some (.int x)) h1) (o : Nat) (p1 : Int32) (p2 : Int32) (h : Hp) : ∀ x h1, m_X6_knownOf_B rc  o p1 p2 h = some (x, h1) → SR l G (L + 2) M_X6_knownOf [.ref o, .int p1, .int p2] h (some (.int x)) h1 := fun x h1 e => SR.of K_X6_knownOf hs rfl (Nat.le_of_ble_eq_true rfl) (ss_X6_knownOf hs hL rc hrc o p1 p2 h) e rfl
end
theorem sm_X6_knownOf {l : Launch} {G : Gx} (hs : l.stackTraces = false) : ∀ (d : Nat) (o : Nat) (p1 : Int32) (p2 : Int32) (h : Hp) x h1, m_X6_knownOf d o p1 p2 h = some (x, h1) → SR l G (3 + 2 * d) M_X6_knownOf [.ref o, .int p1, .int p2] h (some (.int x)) h1
  | 0, o, p1, p2, h, x, h1, e => by cases e
  | d + 1, o, p1, p2, h, x, h1, e => sm_X6_knownOf_B (L := 3 + 2 * d) hs (by omega) (m_X6_knownOf d) (sm_X6_knownOf hs d) o p1 p2 h x h1 e
