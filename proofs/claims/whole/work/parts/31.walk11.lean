/-! printed by wip/whole/emit.py: walks -/
section
variable {l : Launch} {G : Gx}
set_option maxRecDepth 20000 in
set_option maxHeartbeats 4000000 in
theorem ss_X6_ofPart (hs : l.stackTraces = false) (o : Nat) (p1 : Int32) (p2 : Int32) (p3 : Int32) (h : Hp) : Sim l G 124 M_X6_ofPart (fun p : Int32 × Hp => ((.inl (some (.int p.1)) : Oc), p.2)) 0 [(0, .ref o), (1, .int p1), (2, .int p2), (3, .int p3)] [] h (m_X6_ofPart  o p1 p2 p3 h) := by
  rw [m_X6_ofPart]
  refine S_aload_n 0 dX6_ofPart_0 rfl rfl ?_
  refine S_callV_VW (lev' := 0) (My := M_X6_forgets) [] [] kc6 K_X6_forgets kw_1324 kw_1326 kw_68 dX6_ofPart_1 (by decide) rfl (Nat.le_of_ble_eq_true rfl) (fun xx ee => sm_X6_forgets hs o h xx ee) (fun h1 _ => ?_)
  refine S_aload_n 0 dX6_ofPart_4 rfl rfl ?_
  refine S_iload_n 1 dX6_ofPart_5 rfl rfl ?_
  refine S_iload_n 2 dX6_ofPart_6 rfl rfl ?_
  refine S_callV_IW (lev' := 123) (My := M_X6_knownOf) [.int p1, .int p2] [] kc6 K_X6_knownOf kw_1328 kw_1330 kw_69 dX6_ofPart_7 (by decide) rfl (Nat.le_of_ble_eq_true rfl) (fun xx yy ee => sm_X6_knownOf hs RD o p1 p2 h1 xx yy ee) (fun x2 h3 _ => ?_)
  refine S_istore [(4, .int x2), (0, .ref o), (1, .int p1), (2, .int p2), (3, .int p3)] dX6_ofPart_10 (Nat.le_of_ble_eq_true rfl) rfl ?_
  refine S_iload_n 4 dX6_ofPart_12 rfl rfl ?_
  refine S_iconst 5 dX6_ofPart_13 (by decide) ?_
  refine S_icmp_ne 25 dX6_ofPart_14 (by decide) (fun c5 => ?_) (fun c5 => ?_)
  · refine S_iload_n 4 dX6_ofPart_25 rfl rfl ?_
    refine S_bipush 6 dX6_ofPart_26 (by decide) ?_
    refine S_icmp_ne 41 dX6_ofPart_28 (by decide) (fun c4 => ?_) (fun c4 => ?_)
    · refine S_iload 0 dX6_ofPart_41 rfl ?_
      refine S_bipush 10 dX6_ofPart_43 (by decide) ?_
      refine S_ishr dX6_ofPart_45 ?_
      exact S_ireturn rfl rfl dX6_ofPart_46
    · refine S_iload 0 dX6_ofPart_31 rfl ?_
      refine S_iconst 5 dX6_ofPart_33 (by decide) ?_
      refine S_ishr dX6_ofPart_34 ?_
      refine S_bipush 31 dX6_ofPart_35 (by decide) ?_
      refine S_iand dX6_ofPart_37 ?_
      refine S_goto 46 dX6_ofPart_38 (by decide) ?_
      exact S_ireturn rfl rfl dX6_ofPart_46
  · refine S_iload 0 dX6_ofPart_17 rfl ?_
    refine S_bipush 31 dX6_ofPart_19 (by decide) ?_
    refine S_iand dX6_ofPart_21 ?_
    refine S_goto 46 dX6_ofPart_22 (by decide) ?_
    exact S_ireturn rfl rfl dX6_ofPart_46
theorem sm_X6_ofPart (hs : l.stackTraces = false) (o : Nat) (p1 : Int32) (p2 : Int32) (p3 : Int32) (h : Hp) : ∀ x h1, m_X6_ofPart  o p1 p2 p3 h = some (x, h1) → SR l G 124 M_X6_ofPart [.ref o, .int p1, .int p2, .int p3] h (some (.int x)) h1 := fun x h1 e => SR.of K_X6_ofPart hs rfl (Nat.le_of_ble_eq_true rfl) (ss_X6_ofPart hs o p1 p2 p3 h) e rfl
end
section
variable {l : Launch} {G : Gx}
set_option maxRecDepth 20000 in
set_option maxHeartbeats 4000000 in
theorem sl_X6_meanValue_L22 (hs : l.stackTraces = false) (u5 : Nat) (u6 : Int32) (k22_60 : Int32 → Hp → Option (UInt32 × Hp)) (hk22_60 : ∀ (v9 : Int32) (h10 : Hp), Sim l G 124 M_X6_meanValue (fun p : UInt32 × Hp => ((.inl (some (.float p.1)) : Oc), p.2)) 60 [(1, .int u6), (2, .int v9)] [] h10 (k22_60 v9 h10)) : ∀ (f : Nat) (w7 : Int32) (w8 : Int32) (h : Hp), Sim l G 124 M_X6_meanValue (fun p : UInt32 × Hp => ((.inl (some (.float p.1)) : Oc), p.2)) 22 [(0, .ref u5), (1, .int u6), (2, .int w7), (3, .int w8)] [] h (m_X6_meanValue_L22 u5 u6 k22_60 f w7 w8 h) := by
  intro f
  induction f with
  | zero => intro w7 w8 h; exact S_none rfl
  | succ f ih =>
    intro w7 w8 h
    rw [m_X6_meanValue_L22]
    refine S_iload_n 3 dX6_meanValue_22 rfl rfl ?_
    refine S_iload_n 1 dX6_meanValue_23 rfl rfl ?_
    refine S_icmp_ge 60 dX6_meanValue_24 (by decide) (fun c19 => ?_) (fun c19 => ?_)
    · exact Sim.sub [1, 2] rfl (hk22_60 w7 h)
    · refine S_iload_n 2 dX6_meanValue_27 rfl rfl ?_
      refine S_aload_n 0 dX6_meanValue_28 rfl rfl ?_
      refine S_aload_n 0 dX6_meanValue_29 rfl rfl ?_
      refine S_iload_n 3 dX6_meanValue_30 rfl rfl ?_
      refine S_callV_IR (lev' := 2) (My := M_X6_partSet) [.int w8] [.ref u5, .int w7] kc6 K_X6_partSet kw_1312 kw_1314 kw_65 dX6_meanValue_31 (by decide) rfl (Nat.le_of_ble_eq_true rfl) (fun xx ee => sm_X6_partSet hs u5 w8 h xx ee) (fun x11 _ => ?_)
      refine S_aload_n 0 dX6_meanValue_34 rfl rfl ?_
      refine S_aload_n 0 dX6_meanValue_35 rfl rfl ?_
      refine S_iload_n 3 dX6_meanValue_36 rfl rfl ?_
      refine S_callV_IR (lev' := 2) (My := M_X6_partSet) [.int w8] [.ref u5, .int x11, .ref u5, .int w7] kc6 K_X6_partSet kw_1312 kw_1314 kw_65 dX6_meanValue_37 (by decide) rfl (Nat.le_of_ble_eq_true rfl) (fun xx ee => sm_X6_partSet hs u5 w8 h xx ee) (fun x12 _ => ?_)
      refine S_callS_IR (lev' := 0) (My := M_X6_lowest) [.int x12] [.ref u5, .int x11, .ref u5, .int w7] K_X6_lowest kw_1241 kw_1242 dX6_meanValue_40 (by decide) rfl (Nat.le_of_ble_eq_true rfl) (fun xx ee => sm_X6_lowest hs x12 _ xx ee) (fun x13 _ => ?_)
      refine S_callV_IR (lev' := 0) (My := M_X6_banOf) [.int x13] [.int x11, .ref u5, .int w7] kc6 K_X6_banOf kw_1222 kw_1224 kw_49 dX6_meanValue_43 (by decide) rfl (Nat.le_of_ble_eq_true rfl) (fun xx ee => sm_X6_banOf hs u5 x13 h xx ee) (fun x14 _ => ?_)
      refine S_callV_IW (lev' := 123) (My := M_X6_knownOf) [.int x11, .int x14] [.int w7] kc6 K_X6_knownOf kw_1328 kw_1330 kw_69 dX6_meanValue_46 (by decide) rfl (Nat.le_of_ble_eq_true rfl) (fun xx yy ee => sm_X6_knownOf hs RD u5 x11 x14 h xx yy ee) (fun x15 h16 _ => ?_)
      refine S_bipush 31 dX6_meanValue_49 (by decide) ?_
      refine S_iand dX6_meanValue_51 ?_
      refine S_iadd dX6_meanValue_52 ?_
      refine S_nmI (fun x17 => ?_)
      refine S_istore_n [(2, .int x17), (0, .ref u5), (1, .int u6), (3, .int w8)] dX6_meanValue_53 rfl (Nat.le_of_ble_eq_true rfl) rfl ?_
      refine S_iincN (c := 1) 3 (fun x18 => [(3, .int x18), (2, .int x17), (0, .ref u5), (1, .int u6)]) dX6_meanValue_54 rfl (by decide) (Nat.le_of_ble_eq_true rfl) (fun _ => rfl) (fun x18 => ?_)
      refine S_goto 22 dX6_meanValue_57 (by decide) ?_
      exact Sim.sub [2, 3, 1, 0] rfl (ih x17 x18 h16)
set_option maxRecDepth 20000 in
set_option maxHeartbeats 4000000 in
theorem ss_X6_meanValue (hs : l.stackTraces = false) (o : Nat) (h : Hp) : Sim l G 124 M_X6_meanValue (fun p : UInt32 × Hp => ((.inl (some (.float p.1)) : Oc), p.2)) 0 [(0, .ref o)] [] h (m_X6_meanValue  o h) := by
  rw [m_X6_meanValue]
  refine S_aload_n 0 dX6_meanValue_0 rfl rfl ?_
  refine S_iconst 0 dX6_meanValue_1 (by decide) ?_
  refine S_put kc6 (k := 7) (by decide) rfl kw_1047 rfl rfl dX6_meanValue_2 (fun h1 _ => ?_)
  refine S_aload_n 0 dX6_meanValue_5 rfl rfl ?_
  refine S_callV_VW (lev' := 0) (My := M_X6_forgets) [] [] kc6 K_X6_forgets kw_1324 kw_1326 kw_68 dX6_meanValue_6 (by decide) rfl (Nat.le_of_ble_eq_true rfl) (fun xx ee => sm_X6_forgets hs o h1 xx ee) (fun h2 _ => ?_)
  refine S_aload_n 0 dX6_meanValue_9 rfl rfl ?_
  refine S_aload_n 0 dX6_meanValue_10 rfl rfl ?_
  refine S_callV_IR (lev' := 1) (My := M_X6_freeSet) [] [.ref o] kc6 K_X6_freeSet kw_1214 kw_1216 kw_47 dX6_meanValue_11 (by decide) rfl (Nat.le_of_ble_eq_true rfl) (fun xx ee => sm_X6_freeSet hs o h2 xx ee) (fun x3 _ => ?_)
  refine S_callV_IR (lev' := 1) (My := M_X6_partsIn) [.int x3] [] kc6 K_X6_partsIn kw_1237 kw_1239 kw_52 dX6_meanValue_14 (by decide) rfl (Nat.le_of_ble_eq_true rfl) (fun xx ee => sm_X6_partsIn hs o x3 h2 xx ee) (fun x4 _ => ?_)
  refine S_istore_n [(1, .int x4), (0, .ref o)] dX6_meanValue_17 rfl (Nat.le_of_ble_eq_true rfl) rfl ?_
  refine S_iconst 0 dX6_meanValue_18 (by decide) ?_
  refine S_istore_n [(2, .int 0), (1, .int x4), (0, .ref o)] dX6_meanValue_19 rfl (Nat.le_of_ble_eq_true rfl) rfl ?_
  refine S_iconst 0 dX6_meanValue_20 (by decide) ?_
  refine S_istore_n [(3, .int 0), (2, .int 0), (1, .int x4), (0, .ref o)] dX6_meanValue_21 rfl (Nat.le_of_ble_eq_true rfl) rfl ?_
  refine Sim.sub [3, 2, 1, 0] rfl (sl_X6_meanValue_L22 hs o x4 _ ?_ LF (0 : Int32) (0 : Int32) h2)
  · intro v9 h10
    refine S_iload_n 0 dX6_meanValue_60 rfl rfl ?_
    refine S_if_ne 68 dX6_meanValue_61 (by decide) (fun c21 => ?_) (fun c21 => ?_)
    · refine S_iload_n 1 dX6_meanValue_68 rfl rfl ?_
      refine S_i2f dX6_meanValue_69 ?_
      refine S_iload_n 0 dX6_meanValue_70 rfl rfl ?_
      refine S_i2f dX6_meanValue_71 ?_
      refine S_fdiv dX6_meanValue_72 (fun x20 _ => ?_)
      exact S_freturn rfl rfl dX6_meanValue_73
    · refine S_fconst0 dX6_meanValue_64 ?_
      refine S_goto 73 dX6_meanValue_65 (by decide) ?_
      exact S_freturn rfl rfl dX6_meanValue_73
theorem sm_X6_meanValue (hs : l.stackTraces = false) (o : Nat) (h : Hp) : ∀ x h1, m_X6_meanValue  o h = some (x, h1) → SR l G 124 M_X6_meanValue [.ref o] h (some (.float x)) h1 := fun x h1 e => SR.of K_X6_meanValue hs rfl (Nat.le_of_ble_eq_true rfl) (ss_X6_meanValue hs o h) e rfl
end
section
variable {l : Launch} {G : Gx}
set_option maxRecDepth 20000 in
set_option maxHeartbeats 4000000 in
theorem ss_X6_valueNow (hs : l.stackTraces = false) (o : Nat) (h : Hp) : Sim l G 125 M_X6_valueNow (fun p : Int32 × Hp => ((.inl (some (.int p.1)) : Oc), p.2)) 0 [(0, .ref o)] [] h (m_X6_valueNow  o h) := by
  rw [m_X6_valueNow]
  refine S_aload_n 0 dX6_valueNow_0 rfl rfl ?_
  refine S_callV_IW (lev' := 124) (My := M_X6_board) [] [] kc6 K_X6_board kw_1348 kw_1350 kw_73 dX6_valueNow_1 (by decide) rfl (Nat.le_of_ble_eq_true rfl) (fun xx yy ee => sm_X6_board hs o h xx yy ee) (fun x1 h2 _ => ?_)
  refine S_bipush 31 dX6_valueNow_4 (by decide) ?_
  refine S_iand dX6_valueNow_6 ?_
  refine S_aload_n 0 dX6_valueNow_7 rfl rfl ?_
  refine S_getR kc6 (k := 0) (by decide) kw_1040 dX6_valueNow_8 (fun a3 _ => ?_)
  refine S_iconst 2 dX6_valueNow_11 (by decide) ?_
  refine S_iaload dX6_valueNow_12 (fun x4 _ => ?_)
  refine S_iconst 2 dX6_valueNow_13 (by decide) ?_
  refine S_iremC dX6_valueNow_14 (by decide) ?_
  refine S_ixor dX6_valueNow_15 ?_
  exact S_ireturn rfl rfl dX6_valueNow_16
theorem sm_X6_valueNow (hs : l.stackTraces = false) (o : Nat) (h : Hp) : ∀ x h1, m_X6_valueNow  o h = some (x, h1) → SR l G 125 M_X6_valueNow [.ref o] h (some (.int x)) h1 := fun x h1 e => SR.of K_X6_valueNow hs rfl (Nat.le_of_ble_eq_true rfl) (ss_X6_valueNow hs o h) e rfl
end
section
variable {l : Launch} {G : Gx}
set_option maxRecDepth 20000 in
set_option maxHeartbeats 4000000 in
theorem sl_X6_boardIf_L13 (hs : l.stackTraces = false) (u3 : Nat) (u4 : Int32) (u5 : Int32) (u6 : Int32) (k13_43 : Hp → Option (Int32 × Hp)) (hk13_43 : ∀ (h8 : Hp), Sim l G 125 M_X6_boardIf (fun p : Int32 × Hp => ((.inl (some (.int p.1)) : Oc), p.2)) 43 [(0, .ref u3), (1, .int u4), (2, .int u5), (3, .int u6)] [] h8 (k13_43 h8)) : ∀ (f : Nat) (w7 : Int32) (h : Hp), Sim l G 125 M_X6_boardIf (fun p : Int32 × Hp => ((.inl (some (.int p.1)) : Oc), p.2)) 13 [(0, .ref u3), (1, .int u4), (2, .int u5), (3, .int u6), (4, .int w7)] [] h (m_X6_boardIf_L13 u3 u4 u5 u6 k13_43 f w7 h) := by
  intro f
  induction f with
  | zero => intro w7 h; exact S_none rfl
  | succ f ih =>
    intro w7 h
    rw [m_X6_boardIf_L13]
    refine S_iload 4 dX6_boardIf_13 rfl ?_
    refine S_bipush 9 dX6_boardIf_15 (by decide) ?_
    refine S_icmp_ge 43 dX6_boardIf_17 (by decide) (fun c14 => ?_) (fun c14 => ?_)
    · exact Sim.sub [0, 1, 2, 3] rfl (hk13_43 h)
    · refine S_aload_n 0 dX6_boardIf_20 rfl rfl ?_
      refine S_getR kc6 (k := 19) (by decide) kw_1059 dX6_boardIf_21 (fun a9 _ => ?_)
      refine S_iload 4 dX6_boardIf_24 rfl ?_
      refine S_aload_n 0 dX6_boardIf_26 rfl rfl ?_
      refine S_getR kc6 (k := 0) (by decide) kw_1040 dX6_boardIf_27 (fun a10 _ => ?_)
      refine S_bipush 31 dX6_boardIf_30 (by decide) ?_
      refine S_iload 4 dX6_boardIf_32 rfl ?_
      refine S_iadd dX6_boardIf_34 ?_
      refine S_iaload dX6_boardIf_35 (fun x11 _ => ?_)
      refine S_iastore dX6_boardIf_36 (fun h12 _ => ?_)
      refine S_iincN (c := 1) 4 (fun x13 => [(4, .int x13), (0, .ref u3), (1, .int u4), (2, .int u5), (3, .int u6)]) dX6_boardIf_37 rfl (by decide) (Nat.le_of_ble_eq_true rfl) (fun _ => rfl) (fun x13 => ?_)
      refine S_goto 13 dX6_boardIf_40 (by decide) ?_
      exact Sim.sub [1, 2, 3, 4, 0] rfl (ih x13 h12)
set_option maxRecDepth 20000 in
set_option maxHeartbeats 4000000 in
theorem sl_X6_boardIf_L46 (hs : l.stackTraces = false) (u15 : Nat) (u16 : Int32) (u17 : Int32) (u18 : Int32) (k46_86 : Hp → Option (Int32 × Hp)) (hk46_86 : ∀ (h20 : Hp), Sim l G 125 M_X6_boardIf (fun p : Int32 × Hp => ((.inl (some (.int p.1)) : Oc), p.2)) 86 [(0, .ref u15), (1, .int u16), (2, .int u17)] [] h20 (k46_86 h20)) : ∀ (f : Nat) (w19 : Int32) (h : Hp), Sim l G 125 M_X6_boardIf (fun p : Int32 × Hp => ((.inl (some (.int p.1)) : Oc), p.2)) 46 [(0, .ref u15), (1, .int u16), (2, .int u17), (3, .int u18), (4, .int w19)] [] h (m_X6_boardIf_L46 u15 u16 u17 u18 k46_86 f w19 h) := by
  intro f
  induction f with
  | zero => intro w19 h; exact S_none rfl
  | succ f ih =>
    intro w19 h
    rw [m_X6_boardIf_L46]
    refine S_iload 4 dX6_boardIf_46 rfl ?_
    refine S_aload_n 0 dX6_boardIf_48 rfl rfl ?_
    refine S_getR kc6 (k := 0) (by decide) kw_1040 dX6_boardIf_49 (fun a21 _ => ?_)
    refine S_iconst 0 dX6_boardIf_52 (by decide) ?_
    refine S_iaload dX6_boardIf_53 (fun x22 _ => ?_)
    refine S_icmp_ge 86 dX6_boardIf_54 (by decide) (fun c29 => ?_) (fun c29 => ?_)
    · exact Sim.sub [0, 1, 2] rfl (hk46_86 h)
    · refine S_iload_n 3 dX6_boardIf_57 rfl rfl ?_
      refine S_iload 4 dX6_boardIf_58 rfl ?_
      refine S_ishr dX6_boardIf_60 ?_
      refine S_iconst 1 dX6_boardIf_61 (by decide) ?_
      refine S_iand dX6_boardIf_62 ?_
      refine S_iconst 1 dX6_boardIf_63 (by decide) ?_
      refine S_jK (fun (k24 : Hp → Option (Int32 × Hp)) => ∀ (h23 : Hp), Sim l G 125 M_X6_boardIf (fun p : Int32 × Hp => ((.inl (some (.int p.1)) : Oc), p.2)) 80 [(0, .ref u15), (1, .int u16), (2, .int u17), (3, .int u18), (4, .int w19)] [] h23 (k24 h23)) ?_ (fun k24 hk24 => ?_)
      · intro h23
        refine S_iincN (c := 1) 4 (fun x25 => [(4, .int x25), (0, .ref u15), (1, .int u16), (2, .int u17), (3, .int u18)]) dX6_boardIf_80 rfl (by decide) (Nat.le_of_ble_eq_true rfl) (fun _ => rfl) (fun x25 => ?_)
        refine S_goto 46 dX6_boardIf_83 (by decide) ?_
        exact Sim.sub [1, 2, 3, 4, 0] rfl (ih x25 h23)
      refine S_icmp_ne 80 dX6_boardIf_64 (by decide) (fun c28 => ?_) (fun c28 => ?_)
      · exact Sim.sub [0, 1, 2, 3, 4] rfl (hk24 h)
      · refine S_aload_n 0 dX6_boardIf_67 rfl rfl ?_
        refine S_getR kc6 (k := 0) (by decide) kw_1040 dX6_boardIf_68 (fun a26 _ => ?_)
        refine S_bipush 31 dX6_boardIf_71 (by decide) ?_
        refine S_iload 4 dX6_boardIf_73 rfl ?_
        refine S_iadd dX6_boardIf_75 ?_
        refine S_iload_n 2 dX6_boardIf_76 rfl rfl ?_
        refine S_iconst 1 dX6_boardIf_77 (by decide) ?_
        refine S_iadd dX6_boardIf_78 ?_
        refine S_iastore dX6_boardIf_79 (fun h27 _ => ?_)
        exact Sim.sub [0, 1, 2, 3, 4] rfl (hk24 h27)
set_option maxRecDepth 20000 in
set_option maxHeartbeats 4000000 in
theorem sl_X6_boardIf_L117 (hs : l.stackTraces = false) (u36 : Nat) (u37 : Int32) (k117_147 : Hp → Option (Int32 × Hp)) (hk117_147 : ∀ (h39 : Hp), Sim l G 125 M_X6_boardIf (fun p : Int32 × Hp => ((.inl (some (.int p.1)) : Oc), p.2)) 147 [(4, .int u37)] [] h39 (k117_147 h39)) : ∀ (f : Nat) (w38 : Int32) (h : Hp), Sim l G 125 M_X6_boardIf (fun p : Int32 × Hp => ((.inl (some (.int p.1)) : Oc), p.2)) 117 [(0, .ref u36), (4, .int u37), (5, .int w38)] [] h (m_X6_boardIf_L117 u36 u37 k117_147 f w38 h) := by
  intro f
  induction f with
  | zero => intro w38 h; exact S_none rfl
  | succ f ih =>
    intro w38 h
    rw [m_X6_boardIf_L117]
    refine S_iload 2 dX6_boardIf_117 rfl ?_
    refine S_bipush 9 dX6_boardIf_119 (by decide) ?_
    refine S_icmp_ge 147 dX6_boardIf_121 (by decide) (fun c45 => ?_) (fun c45 => ?_)
    · exact Sim.sub [1] rfl (hk117_147 h)
    · refine S_aload_n 0 dX6_boardIf_124 rfl rfl ?_
      refine S_getR kc6 (k := 0) (by decide) kw_1040 dX6_boardIf_125 (fun a40 _ => ?_)
      refine S_bipush 31 dX6_boardIf_128 (by decide) ?_
      refine S_iload 2 dX6_boardIf_130 rfl ?_
      refine S_iadd dX6_boardIf_132 ?_
      refine S_aload_n 0 dX6_boardIf_133 rfl rfl ?_
      refine S_getR kc6 (k := 19) (by decide) kw_1059 dX6_boardIf_134 (fun a41 _ => ?_)
      refine S_iload 2 dX6_boardIf_137 rfl ?_
      refine S_iaload dX6_boardIf_139 (fun x42 _ => ?_)
      refine S_iastore dX6_boardIf_140 (fun h43 _ => ?_)
      refine S_iincN (c := 1) 2 (fun x44 => [(5, .int x44), (0, .ref u36), (4, .int u37)]) dX6_boardIf_141 rfl (by decide) (Nat.le_of_ble_eq_true rfl) (fun _ => rfl) (fun x44 => ?_)
      refine S_goto 117 dX6_boardIf_144 (by decide) ?_
      exact Sim.sub [1, 2, 0] rfl (ih x44 h43)
set_option maxRecDepth 20000 in
set_option maxHeartbeats 4000000 in
theorem ss_X6_boardIf (hs : l.stackTraces = false) (o : Nat) (p1 : Int32) (p2 : Int32) (h : Hp) : Sim l G 125 M_X6_boardIf (fun p : Int32 × Hp => ((.inl (some (.int p.1)) : Oc), p.2)) 0 [(0, .ref o), (1, .int p1), (2, .int p2)] [] h (m_X6_boardIf  o p1 p2 h) := by
  rw [m_X6_boardIf]
  refine S_aload_n 0 dX6_boardIf_0 rfl rfl ?_
  refine S_iload_n 1 dX6_boardIf_1 rfl rfl ?_
  refine S_aload_n 0 dX6_boardIf_2 rfl rfl ?_
  refine S_callV_IR (lev' := 1) (My := M_X6_freeSet) [] [.int p1, .ref o] kc6 K_X6_freeSet kw_1214 kw_1216 kw_47 dX6_boardIf_3 (by decide) rfl (Nat.le_of_ble_eq_true rfl) (fun xx ee => sm_X6_freeSet hs o h xx ee) (fun x1 _ => ?_)
  refine S_callV_IR (lev' := 0) (My := M_X6_reached) [.int p1, .int x1] [] kc6 K_X6_reached kw_1218 kw_1220 kw_48 dX6_boardIf_6 (by decide) rfl (Nat.le_of_ble_eq_true rfl) (fun xx ee => sm_X6_reached hs o p1 x1 h xx ee) (fun x2 _ => ?_)
  refine S_istore_n [(3, .int x2), (0, .ref o), (1, .int p1), (2, .int p2)] dX6_boardIf_9 rfl (Nat.le_of_ble_eq_true rfl) rfl ?_
  refine S_iconst 0 dX6_boardIf_10 (by decide) ?_
  refine S_istore [(4, .int 0), (3, .int x2), (0, .ref o), (1, .int p1), (2, .int p2)] dX6_boardIf_11 (Nat.le_of_ble_eq_true rfl) rfl ?_
  refine Sim.sub [2, 3, 4, 1, 0] rfl (sl_X6_boardIf_L13 hs o p1 p2 x2 _ ?_ LF (0 : Int32) h)
  · intro h8
    refine S_iconst 0 dX6_boardIf_43 (by decide) ?_
    refine S_istore [(4, .int 0), (0, .ref o), (1, .int p1), (2, .int p2), (3, .int x2)] dX6_boardIf_44 (Nat.le_of_ble_eq_true rfl) rfl ?_
    refine Sim.sub [1, 2, 3, 4, 0] rfl (sl_X6_boardIf_L46 hs o p1 p2 x2 _ ?_ LF (0 : Int32) h8)
    · intro h20
      refine S_aload_n 0 dX6_boardIf_86 rfl rfl ?_
      refine S_getR kc6 (k := 0) (by decide) kw_1040 dX6_boardIf_87 (fun a30 _ => ?_)
      refine S_bipush 22 dX6_boardIf_90 (by decide) ?_
      refine S_iload_n 1 dX6_boardIf_92 rfl rfl ?_
      refine S_iadd dX6_boardIf_93 ?_
      refine S_iload_n 2 dX6_boardIf_94 rfl rfl ?_
      refine S_iconst 1 dX6_boardIf_95 (by decide) ?_
      refine S_iadd dX6_boardIf_96 ?_
      refine S_iastore dX6_boardIf_97 (fun h31 _ => ?_)
      refine S_aload_n 0 dX6_boardIf_98 rfl rfl ?_
      refine S_callV_IW (lev' := 124) (My := M_X6_board) [] [] kc6 K_X6_board kw_1348 kw_1350 kw_73 dX6_boardIf_99 (by decide) rfl (Nat.le_of_ble_eq_true rfl) (fun xx yy ee => sm_X6_board hs o h31 xx yy ee) (fun x32 h33 _ => ?_)
      refine S_istore [(4, .int x32), (0, .ref o), (1, .int p1), (2, .int p2)] dX6_boardIf_102 (Nat.le_of_ble_eq_true rfl) rfl ?_
      refine S_aload_n 1 dX6_boardIf_104 rfl rfl ?_
      refine S_getR kc6 (k := 0) (by decide) kw_1040 dX6_boardIf_105 (fun a34 _ => ?_)
      refine S_bipush 22 dX6_boardIf_108 (by decide) ?_
      refine S_iload_n 2 dX6_boardIf_110 rfl rfl ?_
      refine S_iadd dX6_boardIf_111 ?_
      refine S_iconst 0 dX6_boardIf_112 (by decide) ?_
      refine S_iastore dX6_boardIf_113 (fun h35 _ => ?_)
      refine S_iconst 0 dX6_boardIf_114 (by decide) ?_
      refine S_istore [(5, .int 0), (4, .int x32), (0, .ref o), (1, .int p1), (2, .int p2)] dX6_boardIf_115 (Nat.le_of_ble_eq_true rfl) rfl ?_
      refine Sim.sub [2, 1, 0] rfl (sl_X6_boardIf_L117 hs o x32 _ ?_ LF (0 : Int32) h35)
      · intro h39
        refine S_iload 0 dX6_boardIf_147 rfl ?_
        exact S_ireturn rfl rfl dX6_boardIf_149
theorem sm_X6_boardIf (hs : l.stackTraces = false) (o : Nat) (p1 : Int32) (p2 : Int32) (h : Hp) : ∀ x h1, m_X6_boardIf  o p1 p2 h = some (x, h1) → SR l G 125 M_X6_boardIf [.ref o, .int p1, .int p2] h (some (.int x)) h1 := fun x h1 e => SR.of K_X6_boardIf hs rfl (Nat.le_of_ble_eq_true rfl) (ss_X6_boardIf hs o p1 p2 h) e rfl
end
section
variable {l : Launch} {G : Gx}
set_option maxRecDepth 20000 in
set_option maxHeartbeats 4000000 in
theorem ss_X6_passWins (hs : l.stackTraces = false) (o : Nat) (h : Hp) : Sim l G 125 M_X6_passWins (fun p : Bool × Hp => ((.inl (some (.int (bI p.1))) : Oc), p.2)) 0 [(0, .ref o)] [] h (m_X6_passWins  o h) := by
  rw [m_X6_passWins]
  refine S_aload_n 0 dX6_passWins_0 rfl rfl ?_
  refine S_getR kc6 (k := 0) (by decide) kw_1040 dX6_passWins_1 (fun a1 _ => ?_)
  refine S_iconst 2 dX6_passWins_4 (by decide) ?_
  refine S_iaload dX6_passWins_5 (fun x2 _ => ?_)
  refine S_if_le 34 dX6_passWins_6 (by decide) (fun c8 => ?_) (fun c8 => ?_)
  · refine S_iconst 0 dX6_passWins_34 (by decide) ?_
    exact S_zreturn (b := false) rfl rfl dX6_passWins_35
  · refine S_aload_n 0 dX6_passWins_9 rfl rfl ?_
    refine S_callV_IW (lev' := 124) (My := M_X6_board) [] [] kc6 K_X6_board kw_1348 kw_1350 kw_73 dX6_passWins_10 (by decide) rfl (Nat.le_of_ble_eq_true rfl) (fun xx yy ee => sm_X6_board hs o h xx yy ee) (fun x3 h4 _ => ?_)
    refine S_bipush 31 dX6_passWins_13 (by decide) ?_
    refine S_iand dX6_passWins_15 ?_
    refine S_aload_n 0 dX6_passWins_16 rfl rfl ?_
    refine S_getR kc6 (k := 0) (by decide) kw_1040 dX6_passWins_17 (fun a5 _ => ?_)
    refine S_iconst 2 dX6_passWins_20 (by decide) ?_
    refine S_iaload dX6_passWins_21 (fun x6 _ => ?_)
    refine S_iconst 1 dX6_passWins_22 (by decide) ?_
    refine S_isub dX6_passWins_23 ?_
    refine S_iconst 2 dX6_passWins_24 (by decide) ?_
    refine S_iremC dX6_passWins_25 (by decide) ?_
    refine S_ixor dX6_passWins_26 ?_
    refine S_if_ne 34 dX6_passWins_27 (by decide) (fun c7 => ?_) (fun c7 => ?_)
    · refine S_iconst 0 dX6_passWins_34 (by decide) ?_
      exact S_zreturn (b := false) rfl rfl dX6_passWins_35
    · refine S_iconst 1 dX6_passWins_30 (by decide) ?_
      refine S_goto 35 dX6_passWins_31 (by decide) ?_
      exact S_zreturn (b := true) rfl rfl dX6_passWins_35
theorem sm_X6_passWins (hs : l.stackTraces = false) (o : Nat) (h : Hp) : ∀ x h1, m_X6_passWins  o h = some (x, h1) → SR l G 125 M_X6_passWins [.ref o] h (some (.int (bI x))) h1 := fun x h1 e => SR.of K_X6_passWins hs rfl (Nat.le_of_ble_eq_true rfl) (ss_X6_passWins hs o h) e rfl
end
section
variable {l : Launch} {G : Gx}
set_option maxRecDepth 20000 in
set_option maxHeartbeats 4000000 in
theorem ss_X6_part (hs : l.stackTraces = false) (o : Nat) (p1 : Int32) (p2 : Int32) (h : Hp) : Sim l G 125 M_X6_part (fun p : Int32 × Hp => ((.inl (some (.int p.1)) : Oc), p.2)) 0 [(0, .ref o), (1, .int p1), (2, .int p2)] [] h (m_X6_part  o p1 p2 h) := by
  rw [m_X6_part]
  refine S_iload_n 1 dX6_part_0 rfl rfl ?_
  refine S_jK (fun (k2 : Int32 → Option (Int32 × Hp)) => ∀ (v1 : Int32), Sim l G 125 M_X6_part (fun p : Int32 × Hp => ((.inl (some (.int p.1)) : Oc), p.2)) 13 [(0, .ref o), (2, .int p2)] [.int v1] h (k2 v1)) ?_ (fun k2 hk2 => ?_)
  · intro v1
    refine S_istore_n [(3, .int v1), (0, .ref o), (2, .int p2)] dX6_part_13 rfl (Nat.le_of_ble_eq_true rfl) rfl ?_
    refine S_aload_n 1 dX6_part_14 rfl rfl ?_
    refine S_iload_n 0 dX6_part_15 rfl rfl ?_
    refine S_jK (fun (k4 : Int32 → Option (Int32 × Hp)) => ∀ (v3 : Int32), Sim l G 125 M_X6_part (fun p : Int32 × Hp => ((.inl (some (.int p.1)) : Oc), p.2)) 38 [(0, .ref o), (2, .int p2), (3, .int v1)] [.int v3, .ref o] h (k4 v3)) ?_ (fun k4 hk4 => ?_)
    · intro v3
      refine S_put kc6 (k := 7) (by decide) rfl kw_1047 rfl rfl dX6_part_38 (fun h5 _ => ?_)
      refine S_aload_n 0 dX6_part_41 rfl rfl ?_
      refine S_getI kc6 (k := 7) (by decide) kw_1047 dX6_part_42 (fun x6 _ => ?_)
      refine S_if_le 50 dX6_part_45 (by decide) (fun c15 => ?_) (fun c15 => ?_)
      · refine S_aload_n 0 dX6_part_50 rfl rfl ?_
        refine S_iload_n 2 dX6_part_51 rfl rfl ?_
        refine S_callS_IR (lev' := 0) (My := M_X6_lowest) [.int v1] [.ref o] K_X6_lowest kw_1241 kw_1242 dX6_part_52 (by decide) rfl (Nat.le_of_ble_eq_true rfl) (fun xx ee => sm_X6_lowest hs v1 _ xx ee) (fun x7 _ => ?_)
        refine S_callV_IR (lev' := 0) (My := M_X6_banOf) [.int x7] [] kc6 K_X6_banOf kw_1222 kw_1224 kw_49 dX6_part_55 (by decide) rfl (Nat.le_of_ble_eq_true rfl) (fun xx ee => sm_X6_banOf hs o x7 h5 xx ee) (fun x8 _ => ?_)
        refine S_istore [(4, .int x8), (0, .ref o), (2, .int p2), (3, .int v1)] dX6_part_58 (Nat.le_of_ble_eq_true rfl) rfl ?_
        refine S_iload_n 2 dX6_part_60 rfl rfl ?_
        refine S_sw 121 [96, 101, 106, 109, 115] dX6_part_61 (by decide) (by decide) rfl (by decide) ?_ ⟨?_, ?_, ?_, ?_, ?_, trivial⟩
        · refine S_aload_n 1 dX6_part_121 rfl rfl ?_
          refine S_iload_n 3 dX6_part_122 rfl rfl ?_
          refine S_iload 0 dX6_part_123 rfl ?_
          refine S_iload_n 2 dX6_part_125 rfl rfl ?_
          refine S_callV_IW (lev' := 124) (My := M_X6_ofPart) [.int v1, .int x8, .int p2] [] kc6 K_X6_ofPart kw_1320 kw_1322 kw_67 dX6_part_126 (by decide) rfl (Nat.le_of_ble_eq_true rfl) (fun xx yy ee => sm_X6_ofPart hs o v1 x8 p2 h5 xx yy ee) (fun x13 h14 _ => ?_)
          exact S_ireturn rfl rfl dX6_part_129
        · refine S_iload_n 3 dX6_part_96 rfl rfl ?_
          refine S_callS_IR (lev' := 0) (My := M_X6_bits) [.int v1] [] K_X6_bits kw_1230 kw_1231 dX6_part_97 (by decide) rfl (Nat.le_of_ble_eq_true rfl) (fun xx ee => sm_X6_bits hs v1 _ xx ee) (fun x9 _ => ?_)
          exact S_ireturn rfl rfl dX6_part_100
        · refine S_iload_n 3 dX6_part_101 rfl rfl ?_
          refine S_callS_IR (lev' := 0) (My := M_X6_lowest) [.int v1] [] K_X6_lowest kw_1241 kw_1242 dX6_part_102 (by decide) rfl (Nat.le_of_ble_eq_true rfl) (fun xx ee => sm_X6_lowest hs v1 _ xx ee) (fun x10 _ => ?_)
          exact S_ireturn rfl rfl dX6_part_105
        · refine S_iload 0 dX6_part_106 rfl ?_
          exact S_ireturn rfl rfl dX6_part_108
        · refine S_aload_n 1 dX6_part_109 rfl rfl ?_
          refine S_iload_n 3 dX6_part_110 rfl rfl ?_
          refine S_callV_IR (lev' := 1) (My := M_X6_edgesIn) [.int v1] [] kc6 K_X6_edgesIn kw_1272 kw_1274 kw_58 dX6_part_111 (by decide) rfl (Nat.le_of_ble_eq_true rfl) (fun xx ee => sm_X6_edgesIn hs o v1 h5 xx ee) (fun x11 _ => ?_)
          exact S_ireturn rfl rfl dX6_part_114
        · refine S_aload_n 1 dX6_part_115 rfl rfl ?_
          refine S_iload_n 3 dX6_part_116 rfl rfl ?_
          refine S_callV_IR (lev' := 4) (My := M_X6_pairsIn) [.int v1] [] kc6 K_X6_pairsIn kw_1316 kw_1318 kw_66 dX6_part_117 (by decide) rfl (Nat.le_of_ble_eq_true rfl) (fun xx ee => sm_X6_pairsIn hs o v1 h5 xx ee) (fun x12 _ => ?_)
          exact S_ireturn rfl rfl dX6_part_120
      · refine S_iconst 0 dX6_part_48 (by decide) ?_
        exact S_ireturn rfl rfl dX6_part_49
    refine S_if_ne 23 dX6_part_16 (by decide) (fun c18 => ?_) (fun c18 => ?_)
    · refine S_iload_n 2 dX6_part_23 rfl rfl ?_
      refine S_iconst 0 dX6_part_24 (by decide) ?_
      refine S_bipush 7 dX6_part_25 (by decide) ?_
      refine S_callS_BR (lev' := 0) (My := M_X6_isIn) [.int p2, .int 0, .int 7] [.ref o] K_X6_isIn kw_1127 kw_1128 dX6_part_27 (by decide) rfl (Nat.le_of_ble_eq_true rfl) (fun xx ee => sm_X6_isIn hs p2 (0 : Int32) (7 : Int32) _ xx ee) (fun bb16 _ => ?_)
      refine S_if_eqB 37 dX6_part_30 (by decide) (fun c17 => ?_) (fun c17 => ?_)
      · refine S_iconst 2 dX6_part_37 (by decide) ?_
        exact Sim.sub [1, 2, 0] rfl (hk4 (2 : Int32))
      · refine S_iconst 0 dX6_part_33 (by decide) ?_
        refine S_goto 38 dX6_part_34 (by decide) ?_
        exact Sim.sub [1, 2, 0] rfl (hk4 (0 : Int32))
    · refine S_iconst 1 dX6_part_19 (by decide) ?_
      refine S_goto 38 dX6_part_20 (by decide) ?_
      exact Sim.sub [1, 2, 0] rfl (hk4 (1 : Int32))
  refine S_if_ge 8 dX6_part_1 (by decide) (fun c20 => ?_) (fun c20 => ?_)
  · refine S_aload_n 0 dX6_part_8 rfl rfl ?_
    refine S_iload_n 1 dX6_part_9 rfl rfl ?_
    refine S_callV_IR (lev' := 2) (My := M_X6_partSet) [.int p1] [] kc6 K_X6_partSet kw_1312 kw_1314 kw_65 dX6_part_10 (by decide) rfl (Nat.le_of_ble_eq_true rfl) (fun xx ee => sm_X6_partSet hs o p1 h xx ee) (fun x19 _ => ?_)
    exact Sim.sub [0, 2] rfl (hk2 x19)
  · refine S_iconst 0 dX6_part_4 (by decide) ?_
    refine S_goto 13 dX6_part_5 (by decide) ?_
    exact Sim.sub [0, 2] rfl (hk2 (0 : Int32))
theorem sm_X6_part (hs : l.stackTraces = false) (o : Nat) (p1 : Int32) (p2 : Int32) (h : Hp) : ∀ x h1, m_X6_part  o p1 p2 h = some (x, h1) → SR l G 125 M_X6_part [.ref o, .int p1, .int p2] h (some (.int x)) h1 := fun x h1 e => SR.of K_X6_part hs rfl (Nat.le_of_ble_eq_true rfl) (ss_X6_part hs o p1 p2 h) e rfl
end
section
variable {l : Launch} {G : Gx}
set_option maxRecDepth 20000 in
set_option maxHeartbeats 4000000 in
theorem ss_X6_longest (hs : l.stackTraces = false) (o : Nat) (h : Hp) : Sim l G 125 M_X6_longest (fun p : Int32 × Hp => ((.inl (some (.int p.1)) : Oc), p.2)) 0 [(0, .ref o)] [] h (m_X6_longest  o h) := by
  rw [m_X6_longest]
  refine S_aload_n 0 dX6_longest_0 rfl rfl ?_
  refine S_iconst 0 dX6_longest_1 (by decide) ?_
  refine S_put kc6 (k := 7) (by decide) rfl kw_1047 rfl rfl dX6_longest_2 (fun h1 _ => ?_)
  refine S_aload_n 0 dX6_longest_5 rfl rfl ?_
  refine S_callV_VW (lev' := 0) (My := M_X6_forgets) [] [] kc6 K_X6_forgets kw_1324 kw_1326 kw_68 dX6_longest_6 (by decide) rfl (Nat.le_of_ble_eq_true rfl) (fun xx ee => sm_X6_forgets hs o h1 xx ee) (fun h2 _ => ?_)
  refine S_aload_n 0 dX6_longest_9 rfl rfl ?_
  refine S_callV_IW (lev' := 124) (My := M_X6_board) [] [] kc6 K_X6_board kw_1348 kw_1350 kw_73 dX6_longest_10 (by decide) rfl (Nat.le_of_ble_eq_true rfl) (fun xx yy ee => sm_X6_board hs o h2 xx yy ee) (fun x3 h4 _ => ?_)
  refine S_iconst 5 dX6_longest_13 (by decide) ?_
  refine S_ishr dX6_longest_14 ?_
  refine S_bipush 31 dX6_longest_15 (by decide) ?_
  refine S_iand dX6_longest_17 ?_
  refine S_aload_n 0 dX6_longest_18 rfl rfl ?_
  refine S_getR kc6 (k := 0) (by decide) kw_1040 dX6_longest_19 (fun a5 _ => ?_)
  refine S_iconst 2 dX6_longest_22 (by decide) ?_
  refine S_iaload dX6_longest_23 (fun x6 _ => ?_)
  refine S_iadd dX6_longest_24 ?_
  exact S_ireturn rfl rfl dX6_longest_25
theorem sm_X6_longest (hs : l.stackTraces = false) (o : Nat) (h : Hp) : ∀ x h1, m_X6_longest  o h = some (x, h1) → SR l G 125 M_X6_longest [.ref o] h (some (.int x)) h1 := fun x h1 e => SR.of K_X6_longest hs rfl (Nat.le_of_ble_eq_true rfl) (ss_X6_longest hs o h) e rfl
end
section
variable {l : Launch} {G : Gx}
set_option maxRecDepth 20000 in
set_option maxHeartbeats 4000000 in
theorem ss_X6_shortest (hs : l.stackTraces = false) (o : Nat) (h : Hp) : Sim l G 125 M_X6_shortest (fun p : Int32 × Hp => ((.inl (some (.int p.1)) : Oc), p.2)) 0 [(0, .ref o)] [] h (m_X6_shortest  o h) := by
  rw [m_X6_shortest]
  refine S_aload_n 0 dX6_shortest_0 rfl rfl ?_
  refine S_iconst 0 dX6_shortest_1 (by decide) ?_
  refine S_put kc6 (k := 7) (by decide) rfl kw_1047 rfl rfl dX6_shortest_2 (fun h1 _ => ?_)
  refine S_aload_n 0 dX6_shortest_5 rfl rfl ?_
  refine S_callV_VW (lev' := 0) (My := M_X6_forgets) [] [] kc6 K_X6_forgets kw_1324 kw_1326 kw_68 dX6_shortest_6 (by decide) rfl (Nat.le_of_ble_eq_true rfl) (fun xx ee => sm_X6_forgets hs o h1 xx ee) (fun h2 _ => ?_)
  refine S_aload_n 0 dX6_shortest_9 rfl rfl ?_
  refine S_callV_IW (lev' := 124) (My := M_X6_board) [] [] kc6 K_X6_board kw_1348 kw_1350 kw_73 dX6_shortest_10 (by decide) rfl (Nat.le_of_ble_eq_true rfl) (fun xx yy ee => sm_X6_board hs o h2 xx yy ee) (fun x3 h4 _ => ?_)
  refine S_bipush 10 dX6_shortest_13 (by decide) ?_
  refine S_ishr dX6_shortest_15 ?_
  refine S_aload_n 0 dX6_shortest_16 rfl rfl ?_
  refine S_getR kc6 (k := 0) (by decide) kw_1040 dX6_shortest_17 (fun a5 _ => ?_)
  refine S_iconst 2 dX6_shortest_20 (by decide) ?_
  refine S_iaload dX6_shortest_21 (fun x6 _ => ?_)
  refine S_iadd dX6_shortest_22 ?_
  exact S_ireturn rfl rfl dX6_shortest_23
theorem sm_X6_shortest (hs : l.stackTraces = false) (o : Nat) (h : Hp) : ∀ x h1, m_X6_shortest  o h = some (x, h1) → SR l G 125 M_X6_shortest [.ref o] h (some (.int x)) h1 := fun x h1 e => SR.of K_X6_shortest hs rfl (Nat.le_of_ble_eq_true rfl) (ss_X6_shortest hs o h) e rfl
end
section
variable {l : Launch} {G : Gx}
set_option maxRecDepth 20000 in
set_option maxHeartbeats 4000000 in
theorem sl_X6_winningOn_L11 (hs : l.stackTraces = false) (u2 : Nat) (u3 : Int32) (u4 : Int32) (k11_67 : Int32 → Hp → Option (Int32 × Hp)) (hk11_67 : ∀ (v7 : Int32) (h8 : Hp), Sim l G 126 M_X6_winningOn (fun p : Int32 × Hp => ((.inl (some (.int p.1)) : Oc), p.2)) 67 [(3, .int v7)] [] h8 (k11_67 v7 h8)) : ∀ (f : Nat) (w5 : Int32) (w6 : Int32) (h : Hp), Sim l G 126 M_X6_winningOn (fun p : Int32 × Hp => ((.inl (some (.int p.1)) : Oc), p.2)) 11 [(0, .ref u2), (1, .int u3), (2, .int u4), (3, .int w5), (4, .int w6)] [] h (m_X6_winningOn_L11 u2 u3 u4 k11_67 f w5 w6 h) := by
  intro f
  induction f with
  | zero => intro w5 w6 h; exact S_none rfl
  | succ f ih =>
    intro w5 w6 h
    rw [m_X6_winningOn_L11]
    refine S_iload 4 dX6_winningOn_11 rfl ?_
    refine S_aload_n 0 dX6_winningOn_13 rfl rfl ?_
    refine S_getR kc6 (k := 0) (by decide) kw_1040 dX6_winningOn_14 (fun a9 _ => ?_)
    refine S_iconst 1 dX6_winningOn_17 (by decide) ?_
    refine S_iaload dX6_winningOn_18 (fun x10 _ => ?_)
    refine S_icmp_ge 67 dX6_winningOn_19 (by decide) (fun c22 => ?_) (fun c22 => ?_)
    · exact Sim.sub [3] rfl (hk11_67 w5 h)
    · refine S_iload_n 2 dX6_winningOn_22 rfl rfl ?_
      refine S_iload 4 dX6_winningOn_23 rfl ?_
      refine S_ishr dX6_winningOn_25 ?_
      refine S_iconst 1 dX6_winningOn_26 (by decide) ?_
      refine S_iand dX6_winningOn_27 ?_
      refine S_iconst 1 dX6_winningOn_28 (by decide) ?_
      refine S_jK (fun (k13 : Int32 → Hp → Option (Int32 × Hp)) => ∀ (v11 : Int32) (h12 : Hp), Sim l G 126 M_X6_winningOn (fun p : Int32 × Hp => ((.inl (some (.int p.1)) : Oc), p.2)) 61 [(0, .ref u2), (1, .int u3), (2, .int u4), (3, .int v11), (4, .int w6)] [] h12 (k13 v11 h12)) ?_ (fun k13 hk13 => ?_)
      · intro v11 h12
        refine S_iincN (c := 1) 4 (fun x14 => [(4, .int x14), (0, .ref u2), (1, .int u3), (2, .int u4), (3, .int v11)]) dX6_winningOn_61 rfl (by decide) (Nat.le_of_ble_eq_true rfl) (fun _ => rfl) (fun x14 => ?_)
        refine S_goto 11 dX6_winningOn_64 (by decide) ?_
        exact Sim.sub [1, 2, 3, 4, 0] rfl (ih v11 x14 h12)
      refine S_icmp_ne 61 dX6_winningOn_29 (by decide) (fun c21 => ?_) (fun c21 => ?_)
      · exact Sim.sub [0, 1, 2, 3, 4] rfl (hk13 w5 h)
      · refine S_aload_n 0 dX6_winningOn_32 rfl rfl ?_
        refine S_iload_n 1 dX6_winningOn_33 rfl rfl ?_
        refine S_iload 4 dX6_winningOn_34 rfl ?_
        refine S_callV_IW (lev' := 125) (My := M_X6_boardIf) [.int u3, .int w6] [] kc6 K_X6_boardIf kw_1356 kw_1358 kw_74 dX6_winningOn_36 (by decide) rfl (Nat.le_of_ble_eq_true rfl) (fun xx yy ee => sm_X6_boardIf hs u2 u3 w6 h xx yy ee) (fun x15 h16 _ => ?_)
        refine S_bipush 31 dX6_winningOn_39 (by decide) ?_
        refine S_iand dX6_winningOn_41 ?_
        refine S_aload_n 0 dX6_winningOn_42 rfl rfl ?_
        refine S_getR kc6 (k := 0) (by decide) kw_1040 dX6_winningOn_43 (fun a17 _ => ?_)
        refine S_iconst 2 dX6_winningOn_46 (by decide) ?_
        refine S_iaload dX6_winningOn_47 (fun x18 _ => ?_)
        refine S_iconst 2 dX6_winningOn_48 (by decide) ?_
        refine S_iremC dX6_winningOn_49 (by decide) ?_
        refine S_ixor dX6_winningOn_50 ?_
        refine S_if_ne 61 dX6_winningOn_51 (by decide) (fun c20 => ?_) (fun c20 => ?_)
        · exact Sim.sub [0, 1, 2, 3, 4] rfl (hk13 w5 h16)
        · refine S_iload_n 3 dX6_winningOn_54 rfl rfl ?_
          refine S_iconst 1 dX6_winningOn_55 (by decide) ?_
          refine S_iload 4 dX6_winningOn_56 rfl ?_
          refine S_ishl dX6_winningOn_58 ?_
          refine S_ior dX6_winningOn_59 ?_
          refine S_nmI (fun x19 => ?_)
          refine S_istore_n [(3, .int x19), (0, .ref u2), (1, .int u3), (2, .int u4), (4, .int w6)] dX6_winningOn_60 rfl (Nat.le_of_ble_eq_true rfl) rfl ?_
          exact Sim.sub [1, 2, 3, 0, 4] rfl (hk13 x19 h16)
set_option maxRecDepth 20000 in
set_option maxHeartbeats 4000000 in
theorem ss_X6_winningOn (hs : l.stackTraces = false) (o : Nat) (p1 : Int32) (h : Hp) : Sim l G 126 M_X6_winningOn (fun p : Int32 × Hp => ((.inl (some (.int p.1)) : Oc), p.2)) 0 [(0, .ref o), (1, .int p1)] [] h (m_X6_winningOn  o p1 h) := by
  rw [m_X6_winningOn]
  refine S_aload_n 0 dX6_winningOn_0 rfl rfl ?_
  refine S_iload_n 1 dX6_winningOn_1 rfl rfl ?_
  refine S_callV_IR (lev' := 3) (My := M_X6_colours) [.int p1] [] kc6 K_X6_colours kw_1210 kw_1212 kw_46 dX6_winningOn_2 (by decide) rfl (Nat.le_of_ble_eq_true rfl) (fun xx ee => sm_X6_colours hs o p1 h xx ee) (fun x1 _ => ?_)
  refine S_istore_n [(2, .int x1), (0, .ref o), (1, .int p1)] dX6_winningOn_5 rfl (Nat.le_of_ble_eq_true rfl) rfl ?_
  refine S_iconst 0 dX6_winningOn_6 (by decide) ?_
  refine S_istore_n [(3, .int 0), (2, .int x1), (0, .ref o), (1, .int p1)] dX6_winningOn_7 rfl (Nat.le_of_ble_eq_true rfl) rfl ?_
  refine S_iconst 0 dX6_winningOn_8 (by decide) ?_
  refine S_istore [(4, .int 0), (3, .int 0), (2, .int x1), (0, .ref o), (1, .int p1)] dX6_winningOn_9 (Nat.le_of_ble_eq_true rfl) rfl ?_
  refine Sim.sub [3, 4, 2, 1, 0] rfl (sl_X6_winningOn_L11 hs o p1 x1 _ ?_ LF (0 : Int32) (0 : Int32) h)
  · intro v7 h8
    refine S_iload_n 0 dX6_winningOn_67 rfl rfl ?_
    exact S_ireturn rfl rfl dX6_winningOn_68
theorem sm_X6_winningOn (hs : l.stackTraces = false) (o : Nat) (p1 : Int32) (h : Hp) : ∀ x h1, m_X6_winningOn  o p1 h = some (x, h1) → SR l G 126 M_X6_winningOn [.ref o, .int p1] h (some (.int x)) h1 := fun x h1 e => SR.of K_X6_winningOn hs rfl (Nat.le_of_ble_eq_true rfl) (ss_X6_winningOn hs o p1 h) e rfl
end
section
variable {l : Launch} {G : Gx}
set_option maxRecDepth 20000 in
set_option maxHeartbeats 4000000 in
theorem ss_X6_value (hs : l.stackTraces = false) (o : Nat) (h : Hp) : Sim l G 126 M_X6_value (fun p : Int32 × Hp => ((.inl (some (.int p.1)) : Oc), p.2)) 0 [(0, .ref o)] [] h (m_X6_value  o h) := by
  rw [m_X6_value]
  refine S_aload_n 0 dX6_value_0 rfl rfl ?_
  refine S_iconst 0 dX6_value_1 (by decide) ?_
  refine S_put kc6 (k := 7) (by decide) rfl kw_1047 rfl rfl dX6_value_2 (fun h1 _ => ?_)
  refine S_aload_n 0 dX6_value_5 rfl rfl ?_
  refine S_callV_VW (lev' := 0) (My := M_X6_forgets) [] [] kc6 K_X6_forgets kw_1324 kw_1326 kw_68 dX6_value_6 (by decide) rfl (Nat.le_of_ble_eq_true rfl) (fun xx ee => sm_X6_forgets hs o h1 xx ee) (fun h2 _ => ?_)
  refine S_aload_n 0 dX6_value_9 rfl rfl ?_
  refine S_callV_IW (lev' := 125) (My := M_X6_valueNow) [] [] kc6 K_X6_valueNow kw_1344 kw_1346 kw_72 dX6_value_10 (by decide) rfl (Nat.le_of_ble_eq_true rfl) (fun xx yy ee => sm_X6_valueNow hs o h2 xx yy ee) (fun x3 h4 _ => ?_)
  exact S_ireturn rfl rfl dX6_value_13
theorem sm_X6_value (hs : l.stackTraces = false) (o : Nat) (h : Hp) : ∀ x h1, m_X6_value  o h = some (x, h1) → SR l G 126 M_X6_value [.ref o] h (some (.int x)) h1 := fun x h1 e => SR.of K_X6_value hs rfl (Nat.le_of_ble_eq_true rfl) (ss_X6_value hs o h) e rfl
end
section
variable {l : Launch} {G : Gx}
set_option maxRecDepth 20000 in
set_option maxHeartbeats 4000000 in
theorem ss_X6_valueIf (hs : l.stackTraces = false) (o : Nat) (p1 : Int32) (p2 : Int32) (h : Hp) : Sim l G 126 M_X6_valueIf (fun p : Int32 × Hp => ((.inl (some (.int p.1)) : Oc), p.2)) 0 [(0, .ref o), (1, .int p1), (2, .int p2)] [] h (m_X6_valueIf  o p1 p2 h) := by
  rw [m_X6_valueIf]
  refine S_aload_n 0 dX6_valueIf_0 rfl rfl ?_
  refine S_aload_n 0 dX6_valueIf_1 rfl rfl ?_
  refine S_iload_n 1 dX6_valueIf_2 rfl rfl ?_
  refine S_callV_BR (lev' := 1) (My := M_X6_isVertex) [.int p1] [.ref o] kc6 K_X6_isVertex kw_1292 kw_1294 kw_62 dX6_valueIf_3 (by decide) rfl (Nat.le_of_ble_eq_true rfl) (fun xx ee => sm_X6_isVertex hs o p1 h xx ee) (fun bb1 _ => ?_)
  refine S_jK (fun (k3 : Int32 → Option (Int32 × Hp)) => ∀ (v2 : Int32), Sim l G 126 M_X6_valueIf (fun p : Int32 × Hp => ((.inl (some (.int p.1)) : Oc), p.2)) 35 [(0, .ref o), (1, .int p1), (2, .int p2)] [.int v2, .ref o] h (k3 v2)) ?_ (fun k3 hk3 => ?_)
  · intro v2
    refine S_put kc6 (k := 7) (by decide) rfl kw_1047 rfl rfl dX6_valueIf_35 (fun h4 _ => ?_)
    refine S_aload_n 0 dX6_valueIf_38 rfl rfl ?_
    refine S_getI kc6 (k := 7) (by decide) kw_1047 dX6_valueIf_39 (fun x5 _ => ?_)
    refine S_if_le 47 dX6_valueIf_42 (by decide) (fun c11 => ?_) (fun c11 => ?_)
    · refine S_aload_n 0 dX6_valueIf_47 rfl rfl ?_
      refine S_callV_VW (lev' := 0) (My := M_X6_forgets) [] [] kc6 K_X6_forgets kw_1324 kw_1326 kw_68 dX6_valueIf_48 (by decide) rfl (Nat.le_of_ble_eq_true rfl) (fun xx ee => sm_X6_forgets hs o h4 xx ee) (fun h6 _ => ?_)
      refine S_aload_n 0 dX6_valueIf_51 rfl rfl ?_
      refine S_iload_n 1 dX6_valueIf_52 rfl rfl ?_
      refine S_iload_n 2 dX6_valueIf_53 rfl rfl ?_
      refine S_callV_IW (lev' := 125) (My := M_X6_boardIf) [.int p1, .int p2] [] kc6 K_X6_boardIf kw_1356 kw_1358 kw_74 dX6_valueIf_54 (by decide) rfl (Nat.le_of_ble_eq_true rfl) (fun xx yy ee => sm_X6_boardIf hs o p1 p2 h6 xx yy ee) (fun x7 h8 _ => ?_)
      refine S_bipush 31 dX6_valueIf_57 (by decide) ?_
      refine S_iand dX6_valueIf_59 ?_
      refine S_aload_n 0 dX6_valueIf_60 rfl rfl ?_
      refine S_getR kc6 (k := 0) (by decide) kw_1040 dX6_valueIf_61 (fun a9 _ => ?_)
      refine S_iconst 2 dX6_valueIf_64 (by decide) ?_
      refine S_iaload dX6_valueIf_65 (fun x10 _ => ?_)
      refine S_iconst 2 dX6_valueIf_66 (by decide) ?_
      refine S_iremC dX6_valueIf_67 (by decide) ?_
      refine S_ixor dX6_valueIf_68 ?_
      exact S_ireturn rfl rfl dX6_valueIf_69
    · refine S_iconst 0 dX6_valueIf_45 (by decide) ?_
      exact S_ireturn rfl rfl dX6_valueIf_46
  refine S_if_eqB 17 dX6_valueIf_6 (by decide) (fun c16 => ?_) (fun c16 => ?_)
  · refine S_iconst 1 dX6_valueIf_17 (by decide) ?_
    refine S_goto 35 dX6_valueIf_18 (by decide) ?_
    exact Sim.sub [0, 1, 2] rfl (hk3 (1 : Int32))
  · refine S_aload_n 0 dX6_valueIf_9 rfl rfl ?_
    refine S_iload_n 2 dX6_valueIf_10 rfl rfl ?_
    refine S_callV_BR (lev' := 1) (My := M_X6_isColour) [.int p2] [.ref o] kc6 K_X6_isColour kw_1304 kw_1306 kw_64 dX6_valueIf_11 (by decide) rfl (Nat.le_of_ble_eq_true rfl) (fun xx ee => sm_X6_isColour hs o p2 h xx ee) (fun bb12 _ => ?_)
    refine S_if_neB 21 dX6_valueIf_14 (by decide) (fun c15 => ?_) (fun c15 => ?_)
    · refine S_aload_n 0 dX6_valueIf_21 rfl rfl ?_
      refine S_iload_n 1 dX6_valueIf_22 rfl rfl ?_
      refine S_iload_n 2 dX6_valueIf_23 rfl rfl ?_
      refine S_callV_IR (lev' := 4) (My := M_X6_whyNot) [.int p1, .int p2] [.ref o] kc6 K_X6_whyNot kw_1194 kw_1196 kw_42 dX6_valueIf_24 (by decide) rfl (Nat.le_of_ble_eq_true rfl) (fun xx ee => sm_X6_whyNot hs o p1 p2 h xx ee) (fun x13 _ => ?_)
      refine S_if_le 34 dX6_valueIf_27 (by decide) (fun c14 => ?_) (fun c14 => ?_)
      · refine S_iconst 0 dX6_valueIf_34 (by decide) ?_
        exact Sim.sub [0, 1, 2] rfl (hk3 (0 : Int32))
      · refine S_iconst 2 dX6_valueIf_30 (by decide) ?_
        refine S_goto 35 dX6_valueIf_31 (by decide) ?_
        exact Sim.sub [0, 1, 2] rfl (hk3 (2 : Int32))
    · refine S_iconst 1 dX6_valueIf_17 (by decide) ?_
      refine S_goto 35 dX6_valueIf_18 (by decide) ?_
      exact Sim.sub [0, 1, 2] rfl (hk3 (1 : Int32))
theorem sm_X6_valueIf (hs : l.stackTraces = false) (o : Nat) (p1 : Int32) (p2 : Int32) (h : Hp) : ∀ x h1, m_X6_valueIf  o p1 p2 h = some (x, h1) → SR l G 126 M_X6_valueIf [.ref o, .int p1, .int p2] h (some (.int x)) h1 := fun x h1 e => SR.of K_X6_valueIf hs rfl (Nat.le_of_ble_eq_true rfl) (ss_X6_valueIf hs o p1 p2 h) e rfl
end
section
variable {l : Launch} {G : Gx}
set_option maxRecDepth 20000 in
set_option maxHeartbeats 4000000 in
theorem sl_X6_valueWithout_L96 (hs : l.stackTraces = false) (u18 : Nat) (u19 : Int32) (u20 : Int32) (u21 : Int32) (u22 : Int32) (u23 : Int32) (k96_131 : Hp → Option (Int32 × Hp)) (hk96_131 : ∀ (h25 : Hp), Sim l G 126 M_X6_valueWithout (fun p : Int32 × Hp => ((.inl (some (.int p.1)) : Oc), p.2)) 131 [(0, .ref u18), (1, .int u19), (2, .int u20), (3, .int u21), (4, .int u22), (5, .int u23)] [] h25 (k96_131 h25)) : ∀ (f : Nat) (w24 : Int32) (h : Hp), Sim l G 126 M_X6_valueWithout (fun p : Int32 × Hp => ((.inl (some (.int p.1)) : Oc), p.2)) 96 [(0, .ref u18), (1, .int u19), (2, .int u20), (3, .int u21), (4, .int u22), (5, .int u23), (6, .int w24)] [] h (m_X6_valueWithout_L96 u18 u19 u20 u21 u22 u23 k96_131 f w24 h) := by
  intro f
  induction f with
  | zero => intro w24 h; exact S_none rfl
  | succ f ih =>
    intro w24 h
    rw [m_X6_valueWithout_L96]
    refine S_iload 6 dX6_valueWithout_96 rfl ?_
    refine S_aload_n 0 dX6_valueWithout_98 rfl rfl ?_
    refine S_getR kc6 (k := 0) (by decide) kw_1040 dX6_valueWithout_99 (fun a26 _ => ?_)
    refine S_iconst 0 dX6_valueWithout_102 (by decide) ?_
    refine S_iaload dX6_valueWithout_103 (fun x27 _ => ?_)
    refine S_icmp_ge 131 dX6_valueWithout_104 (by decide) (fun c32 => ?_) (fun c32 => ?_)
    · exact Sim.sub [0, 1, 2, 3, 4, 5] rfl (hk96_131 h)
    · refine S_aload_n 0 dX6_valueWithout_107 rfl rfl ?_
      refine S_getR kc6 (k := 0) (by decide) kw_1040 dX6_valueWithout_108 (fun a28 _ => ?_)
      refine S_bipush 13 dX6_valueWithout_111 (by decide) ?_
      refine S_iload 6 dX6_valueWithout_113 rfl ?_
      refine S_iadd dX6_valueWithout_115 ?_
      refine S_dup2 dX6_valueWithout_116 rfl rfl ?_
      refine S_iaload dX6_valueWithout_117 (fun x29 _ => ?_)
      refine S_iconst 1 dX6_valueWithout_118 (by decide) ?_
      refine S_iload_n 1 dX6_valueWithout_119 rfl rfl ?_
      refine S_ishl dX6_valueWithout_120 ?_
      refine S_iconst (-1) dX6_valueWithout_121 (by decide) ?_
      refine S_ixor dX6_valueWithout_122 ?_
      refine S_iand dX6_valueWithout_123 ?_
      refine S_iastore dX6_valueWithout_124 (fun h30 _ => ?_)
      refine S_iincN (c := 1) 6 (fun x31 => [(6, .int x31), (0, .ref u18), (1, .int u19), (2, .int u20), (3, .int u21), (4, .int u22), (5, .int u23)]) dX6_valueWithout_125 rfl (by decide) (Nat.le_of_ble_eq_true rfl) (fun _ => rfl) (fun x31 => ?_)
      refine S_goto 96 dX6_valueWithout_128 (by decide) ?_
      exact Sim.sub [1, 2, 3, 4, 5, 6, 0] rfl (ih x31 h30)
set_option maxRecDepth 20000 in
set_option maxHeartbeats 4000000 in
theorem sl_X6_valueWithout_L174 (hs : l.stackTraces = false) (u40 : Nat) (u41 : Int32) (u42 : Int32) (u43 : Int32) (k174_212 : Hp → Option (Int32 × Hp)) (hk174_212 : ∀ (h45 : Hp), Sim l G 126 M_X6_valueWithout (fun p : Int32 × Hp => ((.inl (some (.int p.1)) : Oc), p.2)) 212 [(3, .int u43)] [] h45 (k174_212 h45)) : ∀ (f : Nat) (w44 : Int32) (h : Hp), Sim l G 126 M_X6_valueWithout (fun p : Int32 × Hp => ((.inl (some (.int p.1)) : Oc), p.2)) 174 [(0, .ref u40), (1, .int u41), (2, .int u42), (3, .int u43), (6, .int w44)] [] h (m_X6_valueWithout_L174 u40 u41 u42 u43 k174_212 f w44 h) := by
  intro f
  induction f with
  | zero => intro w44 h; exact S_none rfl
  | succ f ih =>
    intro w44 h
    rw [m_X6_valueWithout_L174]
    refine S_iload 4 dX6_valueWithout_174 rfl ?_
    refine S_aload_n 0 dX6_valueWithout_176 rfl rfl ?_
    refine S_getR kc6 (k := 0) (by decide) kw_1040 dX6_valueWithout_177 (fun a46 _ => ?_)
    refine S_iconst 0 dX6_valueWithout_180 (by decide) ?_
    refine S_iaload dX6_valueWithout_181 (fun x47 _ => ?_)
    refine S_icmp_ge 212 dX6_valueWithout_182 (by decide) (fun c52 => ?_) (fun c52 => ?_)
    · exact Sim.sub [3] rfl (hk174_212 h)
    · refine S_aload_n 0 dX6_valueWithout_185 rfl rfl ?_
      refine S_getR kc6 (k := 0) (by decide) kw_1040 dX6_valueWithout_186 (fun a48 _ => ?_)
      refine S_bipush 13 dX6_valueWithout_189 (by decide) ?_
      refine S_iload 4 dX6_valueWithout_191 rfl ?_
      refine S_iadd dX6_valueWithout_193 ?_
      refine S_dup2 dX6_valueWithout_194 rfl rfl ?_
      refine S_iaload dX6_valueWithout_195 (fun x49 _ => ?_)
      refine S_iload_n 2 dX6_valueWithout_196 rfl rfl ?_
      refine S_iload 4 dX6_valueWithout_197 rfl ?_
      refine S_ishr dX6_valueWithout_199 ?_
      refine S_iconst 1 dX6_valueWithout_200 (by decide) ?_
      refine S_iand dX6_valueWithout_201 ?_
      refine S_iload_n 1 dX6_valueWithout_202 rfl rfl ?_
      refine S_ishl dX6_valueWithout_203 ?_
      refine S_ior dX6_valueWithout_204 ?_
      refine S_iastore dX6_valueWithout_205 (fun h50 _ => ?_)
      refine S_iincN (c := 1) 4 (fun x51 => [(6, .int x51), (0, .ref u40), (1, .int u41), (2, .int u42), (3, .int u43)]) dX6_valueWithout_206 rfl (by decide) (Nat.le_of_ble_eq_true rfl) (fun _ => rfl) (fun x51 => ?_)
      refine S_goto 174 dX6_valueWithout_209 (by decide) ?_
      exact Sim.sub [1, 2, 3, 4, 0] rfl (ih x51 h50)
set_option maxRecDepth 20000 in
set_option maxHeartbeats 4000000 in
theorem ss_X6_valueWithout (hs : l.stackTraces = false) (o : Nat) (p1 : Int32) (h : Hp) : Sim l G 126 M_X6_valueWithout (fun p : Int32 × Hp => ((.inl (some (.int p.1)) : Oc), p.2)) 0 [(0, .ref o), (1, .int p1)] [] h (m_X6_valueWithout  o p1 h) := by
  rw [m_X6_valueWithout]
  refine S_aload_n 0 dX6_valueWithout_0 rfl rfl ?_
  refine S_aload_n 0 dX6_valueWithout_1 rfl rfl ?_
  refine S_iload_n 1 dX6_valueWithout_2 rfl rfl ?_
  refine S_callV_BR (lev' := 1) (My := M_X6_isVertex) [.int p1] [.ref o] kc6 K_X6_isVertex kw_1292 kw_1294 kw_62 dX6_valueWithout_3 (by decide) rfl (Nat.le_of_ble_eq_true rfl) (fun xx ee => sm_X6_isVertex hs o p1 h xx ee) (fun bb1 _ => ?_)
  refine S_jK (fun (k3 : Int32 → Option (Int32 × Hp)) => ∀ (v2 : Int32), Sim l G 126 M_X6_valueWithout (fun p : Int32 × Hp => ((.inl (some (.int p.1)) : Oc), p.2)) 26 [(0, .ref o), (1, .int p1)] [.int v2, .ref o] h (k3 v2)) ?_ (fun k3 hk3 => ?_)
  · intro v2
    refine S_put kc6 (k := 7) (by decide) rfl kw_1047 rfl rfl dX6_valueWithout_26 (fun h4 _ => ?_)
    refine S_aload_n 0 dX6_valueWithout_29 rfl rfl ?_
    refine S_getI kc6 (k := 7) (by decide) kw_1047 dX6_valueWithout_30 (fun x5 _ => ?_)
    refine S_if_le 38 dX6_valueWithout_33 (by decide) (fun c53 => ?_) (fun c53 => ?_)
    · refine S_aload_n 0 dX6_valueWithout_38 rfl rfl ?_
      refine S_callV_VW (lev' := 0) (My := M_X6_forgets) [] [] kc6 K_X6_forgets kw_1324 kw_1326 kw_68 dX6_valueWithout_39 (by decide) rfl (Nat.le_of_ble_eq_true rfl) (fun xx ee => sm_X6_forgets hs o h4 xx ee) (fun h6 _ => ?_)
      refine S_aload_n 0 dX6_valueWithout_42 rfl rfl ?_
      refine S_getR kc6 (k := 0) (by decide) kw_1040 dX6_valueWithout_43 (fun a7 _ => ?_)
      refine S_bipush 13 dX6_valueWithout_46 (by decide) ?_
      refine S_iload_n 1 dX6_valueWithout_48 rfl rfl ?_
      refine S_iadd dX6_valueWithout_49 ?_
      refine S_iaload dX6_valueWithout_50 (fun x8 _ => ?_)
      refine S_istore_n [(2, .int x8), (0, .ref o), (1, .int p1)] dX6_valueWithout_51 rfl (Nat.le_of_ble_eq_true rfl) rfl ?_
      refine S_aload_n 1 dX6_valueWithout_52 rfl rfl ?_
      refine S_callV_IW (lev' := 125) (My := M_X6_valueNow) [] [] kc6 K_X6_valueNow kw_1344 kw_1346 kw_72 dX6_valueWithout_53 (by decide) rfl (Nat.le_of_ble_eq_true rfl) (fun xx yy ee => sm_X6_valueNow hs o h6 xx yy ee) (fun x9 h10 _ => ?_)
      refine S_istore_n [(3, .int x9), (2, .int x8), (0, .ref o), (1, .int p1)] dX6_valueWithout_56 rfl (Nat.le_of_ble_eq_true rfl) rfl ?_
      refine S_aload_n 2 dX6_valueWithout_57 rfl rfl ?_
      refine S_iload_n 3 dX6_valueWithout_58 rfl rfl ?_
      refine S_callV_IR (lev' := 0) (My := M_X6_banOf) [.int p1] [] kc6 K_X6_banOf kw_1222 kw_1224 kw_49 dX6_valueWithout_59 (by decide) rfl (Nat.le_of_ble_eq_true rfl) (fun xx ee => sm_X6_banOf hs o p1 h10 xx ee) (fun x11 _ => ?_)
      refine S_istore [(4, .int x11), (3, .int x9), (2, .int x8), (0, .ref o), (1, .int p1)] dX6_valueWithout_62 (Nat.le_of_ble_eq_true rfl) rfl ?_
      refine S_aload_n 3 dX6_valueWithout_64 rfl rfl ?_
      refine S_iload_n 4 dX6_valueWithout_65 rfl rfl ?_
      refine S_aload_n 3 dX6_valueWithout_66 rfl rfl ?_
      refine S_callV_IR (lev' := 1) (My := M_X6_freeSet) [] [.int p1, .ref o] kc6 K_X6_freeSet kw_1214 kw_1216 kw_47 dX6_valueWithout_67 (by decide) rfl (Nat.le_of_ble_eq_true rfl) (fun xx ee => sm_X6_freeSet hs o h10 xx ee) (fun x12 _ => ?_)
      refine S_callV_IR (lev' := 0) (My := M_X6_reached) [.int p1, .int x12] [] kc6 K_X6_reached kw_1218 kw_1220 kw_48 dX6_valueWithout_70 (by decide) rfl (Nat.le_of_ble_eq_true rfl) (fun xx ee => sm_X6_reached hs o p1 x12 h10 xx ee) (fun x13 _ => ?_)
      refine S_istore [(5, .int x13), (4, .int x11), (3, .int x9), (2, .int x8), (0, .ref o), (1, .int p1)] dX6_valueWithout_73 (Nat.le_of_ble_eq_true rfl) rfl ?_
      refine S_iload_n 2 dX6_valueWithout_75 rfl rfl ?_
      refine S_aload_n 4 dX6_valueWithout_76 rfl rfl ?_
      refine S_iload 0 dX6_valueWithout_77 rfl ?_
      refine S_iload 1 dX6_valueWithout_79 rfl ?_
      refine S_callV_IW (lev' := 123) (My := M_X6_knownOf) [.int x13, .int x11] [.int x9] kc6 K_X6_knownOf kw_1328 kw_1330 kw_69 dX6_valueWithout_81 (by decide) rfl (Nat.le_of_ble_eq_true rfl) (fun xx yy ee => sm_X6_knownOf hs RD o x13 x11 h10 xx yy ee) (fun x14 h15 _ => ?_)
      refine S_bipush 31 dX6_valueWithout_84 (by decide) ?_
      refine S_iand dX6_valueWithout_86 ?_
      refine S_ixor dX6_valueWithout_87 ?_
      refine S_nmI (fun x16 => ?_)
      refine S_istore_n [(3, .int x16), (5, .int x13), (4, .int x11), (2, .int x8), (0, .ref o), (1, .int p1)] dX6_valueWithout_88 rfl (Nat.le_of_ble_eq_true rfl) rfl ?_
      refine S_aload_n 4 dX6_valueWithout_89 rfl rfl ?_
      refine S_callV_VW (lev' := 0) (My := M_X6_forgets) [] [] kc6 K_X6_forgets kw_1324 kw_1326 kw_68 dX6_valueWithout_90 (by decide) rfl (Nat.le_of_ble_eq_true rfl) (fun xx ee => sm_X6_forgets hs o h15 xx ee) (fun h17 _ => ?_)
      refine S_iconst 0 dX6_valueWithout_93 (by decide) ?_
      refine S_istore [(6, .int 0), (3, .int x16), (5, .int x13), (4, .int x11), (2, .int x8), (0, .ref o), (1, .int p1)] dX6_valueWithout_94 (Nat.le_of_ble_eq_true rfl) rfl ?_
      refine Sim.sub [5, 6, 4, 1, 3, 2, 0] rfl (sl_X6_valueWithout_L96 hs o p1 x8 x16 x11 x13 _ ?_ LF (0 : Int32) h17)
      · intro h25
        refine S_aload_n 0 dX6_valueWithout_131 rfl rfl ?_
        refine S_getR kc6 (k := 0) (by decide) kw_1040 dX6_valueWithout_132 (fun a33 _ => ?_)
        refine S_bipush 13 dX6_valueWithout_135 (by decide) ?_
        refine S_iload_n 1 dX6_valueWithout_137 rfl rfl ?_
        refine S_iadd dX6_valueWithout_138 ?_
        refine S_iconst 0 dX6_valueWithout_139 (by decide) ?_
        refine S_iastore dX6_valueWithout_140 (fun h34 _ => ?_)
        refine S_iload_n 3 dX6_valueWithout_141 rfl rfl ?_
        refine S_aload_n 0 dX6_valueWithout_142 rfl rfl ?_
        refine S_iload 5 dX6_valueWithout_143 rfl ?_
        refine S_iconst 1 dX6_valueWithout_145 (by decide) ?_
        refine S_iload_n 1 dX6_valueWithout_146 rfl rfl ?_
        refine S_ishl dX6_valueWithout_147 ?_
        refine S_iconst (-1) dX6_valueWithout_148 (by decide) ?_
        refine S_ixor dX6_valueWithout_149 ?_
        refine S_iand dX6_valueWithout_150 ?_
        refine S_iload 4 dX6_valueWithout_151 rfl ?_
        refine S_callV_IW (lev' := 124) (My := M_X6_together) [.int (x13 &&& (((1 : Int32) <<< (p1 &&& 31)) ^^^ (-1 : Int32))), .int x11] [.int x16] kc6 K_X6_together kw_1336 kw_1338 kw_71 dX6_valueWithout_153 (by decide) rfl (Nat.le_of_ble_eq_true rfl) (fun xx yy ee => sm_X6_together hs (by decide) (m_X6_knownOf RD) (fun z0 z1 z2 z3 => sm_X6_knownOf hs RD z0 z1 z2 z3) o (x13 &&& (((1 : Int32) <<< (p1 &&& 31)) ^^^ (-1 : Int32))) x11 h34 xx yy ee) (fun x35 h36 _ => ?_)
        refine S_bipush 31 dX6_valueWithout_156 (by decide) ?_
        refine S_iand dX6_valueWithout_158 ?_
        refine S_ixor dX6_valueWithout_159 ?_
        refine S_nmI (fun x37 => ?_)
        refine S_istore_n [(3, .int x37), (0, .ref o), (1, .int p1), (2, .int x8), (4, .int x11), (5, .int x13)] dX6_valueWithout_160 rfl (Nat.le_of_ble_eq_true rfl) rfl ?_
        refine S_aload_n 1 dX6_valueWithout_161 rfl rfl ?_
        refine S_getR kc6 (k := 0) (by decide) kw_1040 dX6_valueWithout_162 (fun a38 _ => ?_)
        refine S_bipush 13 dX6_valueWithout_165 (by decide) ?_
        refine S_iload_n 2 dX6_valueWithout_167 rfl rfl ?_
        refine S_iadd dX6_valueWithout_168 ?_
        refine S_iload_n 3 dX6_valueWithout_169 rfl rfl ?_
        refine S_iastore dX6_valueWithout_170 (fun h39 _ => ?_)
        refine S_iconst 0 dX6_valueWithout_171 (by decide) ?_
        refine S_istore [(6, .int 0), (3, .int x37), (0, .ref o), (1, .int p1), (2, .int x8), (4, .int x11), (5, .int x13)] dX6_valueWithout_172 (Nat.le_of_ble_eq_true rfl) rfl ?_
        refine Sim.sub [2, 3, 4, 1, 0] rfl (sl_X6_valueWithout_L174 hs o p1 x8 x37 _ ?_ LF (0 : Int32) h39)
        · intro h45
          refine S_iload_n 0 dX6_valueWithout_212 rfl rfl ?_
          exact S_ireturn rfl rfl dX6_valueWithout_213
    · refine S_iconst 0 dX6_valueWithout_36 (by decide) ?_
      exact S_ireturn rfl rfl dX6_valueWithout_37
  refine S_if_neB 13 dX6_valueWithout_6 (by decide) (fun c56 => ?_) (fun c56 => ?_)
  · refine S_aload_n 0 dX6_valueWithout_13 rfl rfl ?_
    refine S_iload_n 1 dX6_valueWithout_14 rfl rfl ?_
    refine S_callV_BR (lev' := 0) (My := M_X6_isFree) [.int p1] [.ref o] kc6 K_X6_isFree kw_1198 kw_1200 kw_43 dX6_valueWithout_15 (by decide) rfl (Nat.le_of_ble_eq_true rfl) (fun xx ee => sm_X6_isFree hs o p1 h xx ee) (fun bb54 _ => ?_)
    refine S_if_eqB 25 dX6_valueWithout_18 (by decide) (fun c55 => ?_) (fun c55 => ?_)
    · refine S_iconst 2 dX6_valueWithout_25 (by decide) ?_
      exact Sim.sub [0, 1] rfl (hk3 (2 : Int32))
    · refine S_iconst 0 dX6_valueWithout_21 (by decide) ?_
      refine S_goto 26 dX6_valueWithout_22 (by decide) ?_
      exact Sim.sub [0, 1] rfl (hk3 (0 : Int32))
  · refine S_iconst 1 dX6_valueWithout_9 (by decide) ?_
    refine S_goto 26 dX6_valueWithout_10 (by decide) ?_
    exact Sim.sub [0, 1] rfl (hk3 (1 : Int32))
theorem sm_X6_valueWithout (hs : l.stackTraces = false) (o : Nat) (p1 : Int32) (h : Hp) : ∀ x h1, m_X6_valueWithout  o p1 h = some (x, h1) → SR l G 126 M_X6_valueWithout [.ref o, .int p1] h (some (.int x)) h1 := fun x h1 e => SR.of K_X6_valueWithout hs rfl (Nat.le_of_ble_eq_true rfl) (ss_X6_valueWithout hs o p1 h) e rfl
end
