/-! printed by wip/whole/emit.py: walks -/
section
variable {l : Launch} {G : Gx}
set_option maxRecDepth 20000 in
set_option maxHeartbeats 4000000 in
theorem ss_J6_bitCount (hs : l.stackTraces = false) (p0 : Int32) (h : Hp) : Sim l G 0 M_J6_bitCount (fun v : Int32 => ((.inl (some (.int v)) : Oc), h)) 0 [(0, .int p0)] [] h (m_J6_bitCount  p0) := by
  rw [m_J6_bitCount]
  refine S_iload_n 0 dJ6_bitCount_0f7a4_0 rfl rfl ?_
  refine S_iload_n 0 dJ6_bitCount_0f7a4_1 rfl rfl ?_
  refine S_iconst 1 dJ6_bitCount_0f7a4_2 (by decide) ?_
  refine S_iushr dJ6_bitCount_0f7a4_3 ?_
  refine S_ldcw 1431655765 kw_287 dJ6_bitCount_0f7a4_4 ?_
  refine S_iand dJ6_bitCount_0f7a4_7 ?_
  refine S_isub dJ6_bitCount_0f7a4_8 ?_
  refine S_nmI (fun x1 => ?_)
  refine S_istore_n [(0, .int x1)] dJ6_bitCount_0f7a4_9 rfl (Nat.le_of_ble_eq_true rfl) rfl ?_
  refine S_iload_n 0 dJ6_bitCount_0f7a4_10 rfl rfl ?_
  refine S_ldcw 858993459 kw_288 dJ6_bitCount_0f7a4_11 ?_
  refine S_iand dJ6_bitCount_0f7a4_14 ?_
  refine S_iload_n 0 dJ6_bitCount_0f7a4_15 rfl rfl ?_
  refine S_iconst 2 dJ6_bitCount_0f7a4_16 (by decide) ?_
  refine S_iushr dJ6_bitCount_0f7a4_17 ?_
  refine S_ldcw 858993459 kw_288 dJ6_bitCount_0f7a4_18 ?_
  refine S_iand dJ6_bitCount_0f7a4_21 ?_
  refine S_iadd dJ6_bitCount_0f7a4_22 ?_
  refine S_nmI (fun x2 => ?_)
  refine S_istore_n [(0, .int x2)] dJ6_bitCount_0f7a4_23 rfl (Nat.le_of_ble_eq_true rfl) rfl ?_
  refine S_iload_n 0 dJ6_bitCount_0f7a4_24 rfl rfl ?_
  refine S_iload_n 0 dJ6_bitCount_0f7a4_25 rfl rfl ?_
  refine S_iconst 4 dJ6_bitCount_0f7a4_26 (by decide) ?_
  refine S_iushr dJ6_bitCount_0f7a4_27 ?_
  refine S_iadd dJ6_bitCount_0f7a4_28 ?_
  refine S_ldcw 252645135 kw_289 dJ6_bitCount_0f7a4_29 ?_
  refine S_iand dJ6_bitCount_0f7a4_32 ?_
  refine S_nmI (fun x3 => ?_)
  refine S_istore_n [(0, .int x3)] dJ6_bitCount_0f7a4_33 rfl (Nat.le_of_ble_eq_true rfl) rfl ?_
  refine S_iload_n 0 dJ6_bitCount_0f7a4_34 rfl rfl ?_
  refine S_iload_n 0 dJ6_bitCount_0f7a4_35 rfl rfl ?_
  refine S_bipush 8 dJ6_bitCount_0f7a4_36 (by decide) ?_
  refine S_iushr dJ6_bitCount_0f7a4_38 ?_
  refine S_iadd dJ6_bitCount_0f7a4_39 ?_
  refine S_nmI (fun x4 => ?_)
  refine S_istore_n [(0, .int x4)] dJ6_bitCount_0f7a4_40 rfl (Nat.le_of_ble_eq_true rfl) rfl ?_
  refine S_iload_n 0 dJ6_bitCount_0f7a4_41 rfl rfl ?_
  refine S_iload_n 0 dJ6_bitCount_0f7a4_42 rfl rfl ?_
  refine S_bipush 16 dJ6_bitCount_0f7a4_43 (by decide) ?_
  refine S_iushr dJ6_bitCount_0f7a4_45 ?_
  refine S_iadd dJ6_bitCount_0f7a4_46 ?_
  refine S_nmI (fun x5 => ?_)
  refine S_istore_n [(0, .int x5)] dJ6_bitCount_0f7a4_47 rfl (Nat.le_of_ble_eq_true rfl) rfl ?_
  refine S_iload_n 0 dJ6_bitCount_0f7a4_48 rfl rfl ?_
  refine S_bipush 63 dJ6_bitCount_0f7a4_49 (by decide) ?_
  refine S_iand dJ6_bitCount_0f7a4_51 ?_
  exact S_ireturn rfl rfl dJ6_bitCount_0f7a4_52
theorem sm_J6_bitCount (hs : l.stackTraces = false) (p0 : Int32) (h : Hp) : ∀ x, m_J6_bitCount  p0 = some x → SR l G 0 M_J6_bitCount [.int p0] h (some (.int x)) h := fun x e => SR.of K_J6_bitCount hs rfl (Nat.le_of_ble_eq_true rfl) (ss_J6_bitCount hs p0 h) e rfl
end
section
variable {l : Launch} {G : Gx}
set_option maxRecDepth 20000 in
set_option maxHeartbeats 4000000 in
theorem ss_X5_errorPosition (hs : l.stackTraces = false) (o : Nat) (h : Hp) : Sim l G 0 M_X5_errorPosition (fun v : Int32 => ((.inl (some (.int v)) : Oc), h)) 0 [(0, .ref o)] [] h (m_X5_errorPosition  o h) := by
  rw [m_X5_errorPosition]
  refine S_aload_n 0 dX5_errorPosition_0 rfl rfl ?_
  refine S_getR kc5 (k := 2) (by decide) kw_245 dX5_errorPosition_1 (fun a1 _ => ?_)
  refine S_getI kc3 (k := 2) (by decide) kw_193 dX5_errorPosition_4 (fun x2 _ => ?_)
  exact S_ireturn rfl rfl dX5_errorPosition_7
theorem sm_X5_errorPosition (hs : l.stackTraces = false) (o : Nat) (h : Hp) : ∀ x, m_X5_errorPosition  o h = some x → SR l G 0 M_X5_errorPosition [.ref o] h (some (.int x)) h := fun x e => SR.of K_X5_errorPosition hs rfl (Nat.le_of_ble_eq_true rfl) (ss_X5_errorPosition hs o h) e rfl
end
section
variable {l : Launch} {G : Gx}
set_option maxRecDepth 20000 in
set_option maxHeartbeats 4000000 in
theorem ss_X5_writtenByte (hs : l.stackTraces = false) (o : Nat) (p1 : Int32) (h : Hp) : Sim l G 0 M_X5_writtenByte finX 0 [(0, .ref o), (1, .int p1)] [] h (m_X5_writtenByte  o p1 h) := by
  rw [m_X5_writtenByte]
  refine S_iload_n 1 dX5_writtenByte_0 rfl rfl ?_
  refine S_if_lt 21 dX5_writtenByte_1 (by decide) (fun c8 => ?_) (fun c8 => ?_)
  · exact S_throwW2 rfl (by decide +kernel) kw_811 kn_1001 kw_821 dX5_writtenByte_21 dX5_writtenByte_24 dX5_writtenByte_25 dX5_writtenByte_28 dX5_writtenByte_31
  · refine S_iload_n 1 dX5_writtenByte_4 rfl rfl ?_
    refine S_aload_n 0 dX5_writtenByte_5 rfl rfl ?_
    refine S_getI kc5 (k := 6) (by decide) kw_249 dX5_writtenByte_6 (fun x1 _ => ?_)
    refine S_icmp_ge 21 dX5_writtenByte_9 (by decide) (fun c7 => ?_) (fun c7 => ?_)
    · exact S_throwW2 rfl (by decide +kernel) kw_811 kn_1001 kw_821 dX5_writtenByte_21 dX5_writtenByte_24 dX5_writtenByte_25 dX5_writtenByte_28 dX5_writtenByte_31
    · refine S_iload_n 1 dX5_writtenByte_12 rfl rfl ?_
      refine S_aload_n 0 dX5_writtenByte_13 rfl rfl ?_
      refine S_getR kc5 (k := 5) (by decide) kw_248 dX5_writtenByte_14 (fun a2 _ => ?_)
      refine S_alen (t := 2) (ty := .byte) rfl dX5_writtenByte_17 (fun x3 _ => ?_)
      refine S_icmp_lt 32 dX5_writtenByte_18 (by decide) (fun c6 => ?_) (fun c6 => ?_)
      · refine S_aload_n 0 dX5_writtenByte_32 rfl rfl ?_
        refine S_getR kc5 (k := 5) (by decide) kw_248 dX5_writtenByte_33 (fun a4 _ => ?_)
        refine S_iload_n 1 dX5_writtenByte_36 rfl rfl ?_
        refine S_baload dX5_writtenByte_37 (fun x5 _ => ?_)
        exact S_ireturn rfl rfl dX5_writtenByte_38
      · exact S_throwW2 rfl (by decide +kernel) kw_811 kn_1001 kw_821 dX5_writtenByte_21 dX5_writtenByte_24 dX5_writtenByte_25 dX5_writtenByte_28 dX5_writtenByte_31
end
section
variable {l : Launch} {G : Gx}
set_option maxRecDepth 20000 in
set_option maxHeartbeats 4000000 in
theorem ss_X5_write (hs : l.stackTraces = false) (o : Nat) (p1 : Int32) (h : Hp) : Sim l G 0 M_X5_write (fun v : Hp => ((.inl none : Oc), v)) 0 [(0, .ref o), (1, .int p1)] [] h (m_X5_write  o p1 h) := by
  rw [m_X5_write]
  refine S_aload_n 0 dX5_write_0 rfl rfl ?_
  refine S_getI kc5 (k := 6) (by decide) kw_249 dX5_write_1 (fun x1 _ => ?_)
  refine S_if_lt 40 dX5_write_4 (by decide) (fun c11 => ?_) (fun c11 => ?_)
  · exact S_return rfl rfl dX5_write_40
  · refine S_aload_n 0 dX5_write_7 rfl rfl ?_
    refine S_getI kc5 (k := 6) (by decide) kw_249 dX5_write_8 (fun x2 _ => ?_)
    refine S_aload_n 0 dX5_write_11 rfl rfl ?_
    refine S_getR kc5 (k := 5) (by decide) kw_248 dX5_write_12 (fun a3 _ => ?_)
    refine S_alen (t := 2) (ty := .byte) rfl dX5_write_15 (fun x4 _ => ?_)
    refine S_icmp_ge 40 dX5_write_16 (by decide) (fun c10 => ?_) (fun c10 => ?_)
    · exact S_return rfl rfl dX5_write_40
    · refine S_aload_n 0 dX5_write_19 rfl rfl ?_
      refine S_getR kc5 (k := 5) (by decide) kw_248 dX5_write_20 (fun a5 _ => ?_)
      refine S_aload_n 0 dX5_write_23 rfl rfl ?_
      refine S_getI kc5 (k := 6) (by decide) kw_249 dX5_write_24 (fun x6 _ => ?_)
      refine S_iload_n 1 dX5_write_27 rfl rfl ?_
      refine S_i2b dX5_write_28 ?_
      refine S_bastore dX5_write_29 (fun h7 _ => ?_)
      refine S_aload_n 0 dX5_write_30 rfl rfl ?_
      refine S_dup dX5_write_31 rfl ?_
      refine S_getI kc5 (k := 6) (by decide) kw_249 dX5_write_32 (fun x8 _ => ?_)
      refine S_iconst 1 dX5_write_35 (by decide) ?_
      refine S_iadd dX5_write_36 ?_
      refine S_put kc5 (k := 6) (by decide) rfl kw_249 rfl rfl dX5_write_37 (fun h9 _ => ?_)
      exact S_return rfl rfl dX5_write_40
theorem sm_X5_write (hs : l.stackTraces = false) (o : Nat) (p1 : Int32) (h : Hp) : ∀ h1, m_X5_write  o p1 h = some h1 → SR l G 0 M_X5_write [.ref o, .int p1] h none h1 := fun h1 e => SR.of K_X5_write hs rfl (Nat.le_of_ble_eq_true rfl) (ss_X5_write hs o p1 h) e rfl
end
section
variable {l : Launch} {G : Gx}
set_option maxRecDepth 20000 in
set_option maxHeartbeats 4000000 in
theorem ss_X5_has (hs : l.stackTraces = false) (p0 : Int32) (p1 : Int32) (h : Hp) : Sim l G 0 M_X5_has (fun v : Bool => ((.inl (some (.int (bI v))) : Oc), h)) 0 [(0, .int p0), (1, .int p1)] [] h (m_X5_has  p0 p1) := by
  rw [m_X5_has]
  refine S_iload_n 1 dX5_has_0 rfl rfl ?_
  refine S_if_lt 22 dX5_has_1 (by decide) (fun c3 => ?_) (fun c3 => ?_)
  · refine S_iconst 0 dX5_has_22 (by decide) ?_
    exact S_zreturn (b := false) rfl rfl dX5_has_23
  · refine S_iload_n 1 dX5_has_4 rfl rfl ?_
    refine S_bipush 32 dX5_has_5 (by decide) ?_
    refine S_icmp_ge 22 dX5_has_7 (by decide) (fun c2 => ?_) (fun c2 => ?_)
    · refine S_iconst 0 dX5_has_22 (by decide) ?_
      exact S_zreturn (b := false) rfl rfl dX5_has_23
    · refine S_iload_n 0 dX5_has_10 rfl rfl ?_
      refine S_iconst 1 dX5_has_11 (by decide) ?_
      refine S_iload_n 1 dX5_has_12 rfl rfl ?_
      refine S_ishl dX5_has_13 ?_
      refine S_iand dX5_has_14 ?_
      refine S_if_eq 22 dX5_has_15 (by decide) (fun c1 => ?_) (fun c1 => ?_)
      · refine S_iconst 0 dX5_has_22 (by decide) ?_
        exact S_zreturn (b := false) rfl rfl dX5_has_23
      · refine S_iconst 1 dX5_has_18 (by decide) ?_
        refine S_goto 23 dX5_has_19 (by decide) ?_
        exact S_zreturn (b := true) rfl rfl dX5_has_23
theorem sm_X5_has (hs : l.stackTraces = false) (p0 : Int32) (p1 : Int32) (h : Hp) : ∀ x, m_X5_has  p0 p1 = some x → SR l G 0 M_X5_has [.int p0, .int p1] h (some (.int (bI x))) h := fun x e => SR.of K_X5_has hs rfl (Nat.le_of_ble_eq_true rfl) (ss_X5_has hs p0 p1 h) e rfl
end
section
variable {l : Launch} {G : Gx}
set_option maxRecDepth 20000 in
set_option maxHeartbeats 4000000 in
theorem ss_X5_at (hs : l.stackTraces = false) (p0 : Nat) (p1 : Int32) (h : Hp) : Sim l G 0 M_X5_at (fun v : Int32 => ((.inl (some (.int v)) : Oc), h)) 0 [(0, .ref p0), (1, .int p1)] [] h (m_X5_at  p0 p1 h) := by
  rw [m_X5_at]
  refine S_iload_n 1 dX5_at_0 rfl rfl ?_
  refine S_if_lt 16 dX5_at_1 (by decide) (fun c4 => ?_) (fun c4 => ?_)
  · refine S_iconst 0 dX5_at_16 (by decide) ?_
    exact S_ireturn rfl rfl dX5_at_17
  · refine S_iload_n 1 dX5_at_4 rfl rfl ?_
    refine S_aload_n 0 dX5_at_5 rfl rfl ?_
    refine S_alen (t := 0) (ty := .int) rfl dX5_at_6 (fun x1 _ => ?_)
    refine S_icmp_ge 16 dX5_at_7 (by decide) (fun c3 => ?_) (fun c3 => ?_)
    · refine S_iconst 0 dX5_at_16 (by decide) ?_
      exact S_ireturn rfl rfl dX5_at_17
    · refine S_aload_n 0 dX5_at_10 rfl rfl ?_
      refine S_iload_n 1 dX5_at_11 rfl rfl ?_
      refine S_iaload dX5_at_12 (fun x2 _ => ?_)
      refine S_goto 17 dX5_at_13 (by decide) ?_
      exact S_ireturn rfl rfl dX5_at_17
theorem sm_X5_at (hs : l.stackTraces = false) (p0 : Nat) (p1 : Int32) (h : Hp) : ∀ x, m_X5_at  p0 p1 h = some x → SR l G 0 M_X5_at [.ref p0, .int p1] h (some (.int x)) h := fun x e => SR.of K_X5_at hs rfl (Nat.le_of_ble_eq_true rfl) (ss_X5_at hs p0 p1 h) e rfl
end
section
variable {l : Launch} {G : Gx}
set_option maxRecDepth 20000 in
set_option maxHeartbeats 4000000 in
theorem ss_X5_add (hs : l.stackTraces = false) (p0 : Nat) (p1 : Int32) (p2 : Int32) (h : Hp) : Sim l G 0 M_X5_add (fun v : Hp => ((.inl none : Oc), v)) 0 [(0, .ref p0), (1, .int p1), (2, .int p2)] [] h (m_X5_add  p0 p1 p2 h) := by
  rw [m_X5_add]
  refine S_iload_n 1 dX5_add_0 rfl rfl ?_
  refine S_if_lt 17 dX5_add_1 (by decide) (fun c5 => ?_) (fun c5 => ?_)
  · exact S_return rfl rfl dX5_add_17
  · refine S_iload_n 1 dX5_add_4 rfl rfl ?_
    refine S_aload_n 0 dX5_add_5 rfl rfl ?_
    refine S_alen (t := 0) (ty := .int) rfl dX5_add_6 (fun x1 _ => ?_)
    refine S_icmp_ge 17 dX5_add_7 (by decide) (fun c4 => ?_) (fun c4 => ?_)
    · exact S_return rfl rfl dX5_add_17
    · refine S_aload_n 0 dX5_add_10 rfl rfl ?_
      refine S_iload_n 1 dX5_add_11 rfl rfl ?_
      refine S_dup2 dX5_add_12 rfl rfl ?_
      refine S_iaload dX5_add_13 (fun x2 _ => ?_)
      refine S_iload_n 2 dX5_add_14 rfl rfl ?_
      refine S_ior dX5_add_15 ?_
      refine S_iastore dX5_add_16 (fun h3 _ => ?_)
      exact S_return rfl rfl dX5_add_17
theorem sm_X5_add (hs : l.stackTraces = false) (p0 : Nat) (p1 : Int32) (p2 : Int32) (h : Hp) : ∀ h1, m_X5_add  p0 p1 p2 h = some h1 → SR l G 0 M_X5_add [.ref p0, .int p1, .int p2] h none h1 := fun h1 e => SR.of K_X5_add hs rfl (Nat.le_of_ble_eq_true rfl) (ss_X5_add hs p0 p1 p2 h) e rfl
end
section
variable {l : Launch} {G : Gx}
set_option maxRecDepth 20000 in
set_option maxHeartbeats 4000000 in
theorem sl_X5_copyRow_L2 (hs : l.stackTraces = false) (u1 : Nat) (u2 : Nat) (k2_26 : Hp → Option Hp) (hk2_26 : ∀ (h4 : Hp), Sim l G 0 M_X5_copyRow (fun v : Hp => ((.inl none : Oc), v)) 26 [] [] h4 (k2_26 h4)) : ∀ (f : Nat) (w3 : Int32) (h : Hp), Sim l G 0 M_X5_copyRow (fun v : Hp => ((.inl none : Oc), v)) 2 [(0, .ref u1), (1, .ref u2), (2, .int w3)] [] h (m_X5_copyRow_L2 u1 u2 k2_26 f w3 h) := by
  intro f
  induction f with
  | zero => intro w3 h; exact S_none rfl
  | succ f ih =>
    intro w3 h
    rw [m_X5_copyRow_L2]
    refine S_iload_n 2 dX5_copyRow_2 rfl rfl ?_
    refine S_aload_n 1 dX5_copyRow_3 rfl rfl ?_
    refine S_alen (t := 0) (ty := .int) rfl dX5_copyRow_4 (fun x5 _ => ?_)
    refine S_icmp_ge 26 dX5_copyRow_5 (by decide) (fun c11 => ?_) (fun c11 => ?_)
    · exact Sim.sub [] rfl (hk2_26 h)
    · refine S_iload_n 2 dX5_copyRow_8 rfl rfl ?_
      refine S_aload_n 0 dX5_copyRow_9 rfl rfl ?_
      refine S_alen (t := 0) (ty := .int) rfl dX5_copyRow_10 (fun x6 _ => ?_)
      refine S_icmp_ge 26 dX5_copyRow_11 (by decide) (fun c10 => ?_) (fun c10 => ?_)
      · exact Sim.sub [] rfl (hk2_26 h)
      · refine S_aload_n 1 dX5_copyRow_14 rfl rfl ?_
        refine S_iload_n 2 dX5_copyRow_15 rfl rfl ?_
        refine S_aload_n 0 dX5_copyRow_16 rfl rfl ?_
        refine S_iload_n 2 dX5_copyRow_17 rfl rfl ?_
        refine S_iaload dX5_copyRow_18 (fun x7 _ => ?_)
        refine S_iastore dX5_copyRow_19 (fun h8 _ => ?_)
        refine S_iincN (c := 1) 2 (fun x9 => [(2, .int x9), (0, .ref u1), (1, .ref u2)]) dX5_copyRow_20 rfl (by decide) (Nat.le_of_ble_eq_true rfl) (fun _ => rfl) (fun x9 => ?_)
        refine S_goto 2 dX5_copyRow_23 (by decide) ?_
        exact Sim.sub [1, 2, 0] rfl (ih x9 h8)
set_option maxRecDepth 20000 in
set_option maxHeartbeats 4000000 in
theorem ss_X5_copyRow (hs : l.stackTraces = false) (p0 : Nat) (p1 : Nat) (h : Hp) : Sim l G 0 M_X5_copyRow (fun v : Hp => ((.inl none : Oc), v)) 0 [(0, .ref p0), (1, .ref p1)] [] h (m_X5_copyRow  p0 p1 h) := by
  rw [m_X5_copyRow]
  refine S_iconst 0 dX5_copyRow_0 (by decide) ?_
  refine S_istore_n [(2, .int 0), (0, .ref p0), (1, .ref p1)] dX5_copyRow_1 rfl (Nat.le_of_ble_eq_true rfl) rfl ?_
  refine Sim.sub [1, 2, 0] rfl (sl_X5_copyRow_L2 hs p0 p1 _ ?_ LF (0 : Int32) h)
  · intro h4
    exact S_return rfl rfl dX5_copyRow_26
theorem sm_X5_copyRow (hs : l.stackTraces = false) (p0 : Nat) (p1 : Nat) (h : Hp) : ∀ h1, m_X5_copyRow  p0 p1 h = some h1 → SR l G 0 M_X5_copyRow [.ref p0, .ref p1] h none h1 := fun h1 e => SR.of K_X5_copyRow hs rfl (Nat.le_of_ble_eq_true rfl) (ss_X5_copyRow hs p0 p1 h) e rfl
end
section
variable {l : Launch} {G : Gx}
set_option maxRecDepth 20000 in
set_option maxHeartbeats 4000000 in
theorem sl_X5_clearRow_L2 (hs : l.stackTraces = false) (u1 : Nat) (k2_18 : Hp → Option Hp) (hk2_18 : ∀ (h3 : Hp), Sim l G 0 M_X5_clearRow (fun v : Hp => ((.inl none : Oc), v)) 18 [] [] h3 (k2_18 h3)) : ∀ (f : Nat) (w2 : Int32) (h : Hp), Sim l G 0 M_X5_clearRow (fun v : Hp => ((.inl none : Oc), v)) 2 [(0, .ref u1), (1, .int w2)] [] h (m_X5_clearRow_L2 u1 k2_18 f w2 h) := by
  intro f
  induction f with
  | zero => intro w2 h; exact S_none rfl
  | succ f ih =>
    intro w2 h
    rw [m_X5_clearRow_L2]
    refine S_iload_n 1 dX5_clearRow_2 rfl rfl ?_
    refine S_aload_n 0 dX5_clearRow_3 rfl rfl ?_
    refine S_alen (t := 0) (ty := .int) rfl dX5_clearRow_4 (fun x4 _ => ?_)
    refine S_icmp_ge 18 dX5_clearRow_5 (by decide) (fun c7 => ?_) (fun c7 => ?_)
    · exact Sim.sub [] rfl (hk2_18 h)
    · refine S_aload_n 0 dX5_clearRow_8 rfl rfl ?_
      refine S_iload_n 1 dX5_clearRow_9 rfl rfl ?_
      refine S_iconst 0 dX5_clearRow_10 (by decide) ?_
      refine S_iastore dX5_clearRow_11 (fun h5 _ => ?_)
      refine S_iincN (c := 1) 1 (fun x6 => [(1, .int x6), (0, .ref u1)]) dX5_clearRow_12 rfl (by decide) (Nat.le_of_ble_eq_true rfl) (fun _ => rfl) (fun x6 => ?_)
      refine S_goto 2 dX5_clearRow_15 (by decide) ?_
      exact Sim.sub [1, 0] rfl (ih x6 h5)
set_option maxRecDepth 20000 in
set_option maxHeartbeats 4000000 in
theorem ss_X5_clearRow (hs : l.stackTraces = false) (p0 : Nat) (h : Hp) : Sim l G 0 M_X5_clearRow (fun v : Hp => ((.inl none : Oc), v)) 0 [(0, .ref p0)] [] h (m_X5_clearRow  p0 h) := by
  rw [m_X5_clearRow]
  refine S_iconst 0 dX5_clearRow_0 (by decide) ?_
  refine S_istore_n [(1, .int 0), (0, .ref p0)] dX5_clearRow_1 rfl (Nat.le_of_ble_eq_true rfl) rfl ?_
  refine Sim.sub [1, 0] rfl (sl_X5_clearRow_L2 hs p0 _ ?_ LF (0 : Int32) h)
  · intro h3
    exact S_return rfl rfl dX5_clearRow_18
theorem sm_X5_clearRow (hs : l.stackTraces = false) (p0 : Nat) (h : Hp) : ∀ h1, m_X5_clearRow  p0 h = some h1 → SR l G 0 M_X5_clearRow [.ref p0] h none h1 := fun h1 e => SR.of K_X5_clearRow hs rfl (Nat.le_of_ble_eq_true rfl) (ss_X5_clearRow hs p0 h) e rfl
end
section
variable {l : Launch} {G : Gx}
set_option maxRecDepth 20000 in
set_option maxHeartbeats 4000000 in
theorem ss_X5_answerOf (hs : l.stackTraces = false) (p0 : Int32) (p1 : Int32) (p2 : Int32) (h : Hp) : Sim l G 0 M_X5_answerOf (fun v : Int32 => ((.inl (some (.int v)) : Oc), h)) 0 [(0, .int p0), (1, .int p1), (2, .int p2)] [] h (m_X5_answerOf  p0 p1 p2) := by
  rw [m_X5_answerOf]
  refine S_iload_n 0 dX5_answerOf_0 rfl rfl ?_
  refine S_iload_n 1 dX5_answerOf_1 rfl rfl ?_
  refine S_bipush 8 dX5_answerOf_2 (by decide) ?_
  refine S_ishl dX5_answerOf_4 ?_
  refine S_ior dX5_answerOf_5 ?_
  refine S_iload_n 2 dX5_answerOf_6 rfl rfl ?_
  refine S_bipush 16 dX5_answerOf_7 (by decide) ?_
  refine S_ishl dX5_answerOf_9 ?_
  refine S_ior dX5_answerOf_10 ?_
  exact S_ireturn rfl rfl dX5_answerOf_11
theorem sm_X5_answerOf (hs : l.stackTraces = false) (p0 : Int32) (p1 : Int32) (p2 : Int32) (h : Hp) : ∀ x, m_X5_answerOf  p0 p1 p2 = some x → SR l G 0 M_X5_answerOf [.int p0, .int p1, .int p2] h (some (.int x)) h := fun x e => SR.of K_X5_answerOf hs rfl (Nat.le_of_ble_eq_true rfl) (ss_X5_answerOf hs p0 p1 p2 h) e rfl
end
section
variable {l : Launch} {G : Gx}
set_option maxRecDepth 20000 in
set_option maxHeartbeats 4000000 in
theorem ss_X5_valueIn (hs : l.stackTraces = false) (p0 : Int32) (h : Hp) : Sim l G 0 M_X5_valueIn (fun v : Int32 => ((.inl (some (.int v)) : Oc), h)) 0 [(0, .int p0)] [] h (m_X5_valueIn  p0) := by
  rw [m_X5_valueIn]
  refine S_iload_n 0 dX5_valueIn_0 rfl rfl ?_
  refine S_sipush 255 dX5_valueIn_1 (by decide) ?_
  refine S_iand dX5_valueIn_4 ?_
  exact S_ireturn rfl rfl dX5_valueIn_5
theorem sm_X5_valueIn (hs : l.stackTraces = false) (p0 : Int32) (h : Hp) : ∀ x, m_X5_valueIn  p0 = some x → SR l G 0 M_X5_valueIn [.int p0] h (some (.int x)) h := fun x e => SR.of K_X5_valueIn hs rfl (Nat.le_of_ble_eq_true rfl) (ss_X5_valueIn hs p0 h) e rfl
end
section
variable {l : Launch} {G : Gx}
set_option maxRecDepth 20000 in
set_option maxHeartbeats 4000000 in
theorem ss_X5_longestIn (hs : l.stackTraces = false) (p0 : Int32) (h : Hp) : Sim l G 0 M_X5_longestIn (fun v : Int32 => ((.inl (some (.int v)) : Oc), h)) 0 [(0, .int p0)] [] h (m_X5_longestIn  p0) := by
  rw [m_X5_longestIn]
  refine S_iload_n 0 dX5_longestIn_0 rfl rfl ?_
  refine S_bipush 8 dX5_longestIn_1 (by decide) ?_
  refine S_ishr dX5_longestIn_3 ?_
  refine S_sipush 255 dX5_longestIn_4 (by decide) ?_
  refine S_iand dX5_longestIn_7 ?_
  exact S_ireturn rfl rfl dX5_longestIn_8
theorem sm_X5_longestIn (hs : l.stackTraces = false) (p0 : Int32) (h : Hp) : ∀ x, m_X5_longestIn  p0 = some x → SR l G 0 M_X5_longestIn [.int p0] h (some (.int x)) h := fun x e => SR.of K_X5_longestIn hs rfl (Nat.le_of_ble_eq_true rfl) (ss_X5_longestIn hs p0 h) e rfl
end
section
variable {l : Launch} {G : Gx}
set_option maxRecDepth 20000 in
set_option maxHeartbeats 4000000 in
theorem ss_X5_shortestIn (hs : l.stackTraces = false) (p0 : Int32) (h : Hp) : Sim l G 0 M_X5_shortestIn (fun v : Int32 => ((.inl (some (.int v)) : Oc), h)) 0 [(0, .int p0)] [] h (m_X5_shortestIn  p0) := by
  rw [m_X5_shortestIn]
  refine S_iload_n 0 dX5_shortestIn_0 rfl rfl ?_
  refine S_bipush 16 dX5_shortestIn_1 (by decide) ?_
  refine S_ishr dX5_shortestIn_3 ?_
  refine S_sipush 255 dX5_shortestIn_4 (by decide) ?_
  refine S_iand dX5_shortestIn_7 ?_
  exact S_ireturn rfl rfl dX5_shortestIn_8
theorem sm_X5_shortestIn (hs : l.stackTraces = false) (p0 : Int32) (h : Hp) : ∀ x, m_X5_shortestIn  p0 = some x → SR l G 0 M_X5_shortestIn [.int p0] h (some (.int x)) h := fun x e => SR.of K_X5_shortestIn hs rfl (Nat.le_of_ble_eq_true rfl) (ss_X5_shortestIn hs p0 h) e rfl
end
section
variable {l : Launch} {G : Gx}
set_option maxRecDepth 20000 in
set_option maxHeartbeats 4000000 in
theorem ss_X5_together (hs : l.stackTraces = false) (p0 : Int32) (p1 : Int32) (h : Hp) : Sim l G 0 M_X5_together (fun v : Int32 => ((.inl (some (.int v)) : Oc), h)) 0 [(0, .int p0), (1, .int p1)] [] h (m_X5_together  p0 p1) := by
  rw [m_X5_together]
  refine S_iload_n 0 dX5_together_0 rfl rfl ?_
  refine S_sipush (-256) dX5_together_1 (by decide) ?_
  refine S_iand dX5_together_4 ?_
  refine S_iload_n 1 dX5_together_5 rfl rfl ?_
  refine S_sipush (-256) dX5_together_6 (by decide) ?_
  refine S_iand dX5_together_9 ?_
  refine S_iadd dX5_together_10 ?_
  refine S_nmI (fun x1 => ?_)
  refine S_istore_n [(2, .int x1), (0, .int p0), (1, .int p1)] dX5_together_11 rfl (Nat.le_of_ble_eq_true rfl) rfl ?_
  refine S_iload_n 1 dX5_together_12 rfl rfl ?_
  refine S_iload_n 2 dX5_together_13 rfl rfl ?_
  refine S_ixor dX5_together_14 ?_
  refine S_sipush 255 dX5_together_15 (by decide) ?_
  refine S_iand dX5_together_18 ?_
  refine S_iload_n 0 dX5_together_19 rfl rfl ?_
  refine S_ior dX5_together_20 ?_
  exact S_ireturn rfl rfl dX5_together_21
theorem sm_X5_together (hs : l.stackTraces = false) (p0 : Int32) (p1 : Int32) (h : Hp) : ∀ x, m_X5_together  p0 p1 = some x → SR l G 0 M_X5_together [.int p0, .int p1] h (some (.int x)) h := fun x e => SR.of K_X5_together hs rfl (Nat.le_of_ble_eq_true rfl) (ss_X5_together hs p0 p1 h) e rfl
end
section
variable {l : Launch} {G : Gx}
set_option maxRecDepth 20000 in
set_option maxHeartbeats 4000000 in
theorem ss_X6_init (hs : l.stackTraces = false) (o : Nat) (h : Hp) : Sim l G 0 M_X6_init (fun v : Hp => ((.inl none : Oc), v)) 0 [(0, .ref o)] [] h (m_X6_init  o h) := by
  rw [m_X6_init]
  refine S_aload_n 0 dX6_init_0 rfl rfl ?_
  refine S_obj kw_1037 k_oi k_oc (Nat.le_of_ble_eq_true rfl) dX6_init_1 ?_
  refine S_aload_n 0 dX6_init_4 rfl rfl ?_
  refine S_sipush 4136 dX6_init_5 (by decide) ?_
  refine S_newarr0 (N := 4136) (by decide) (by decide) (by decide) kw_166 dX6_init_8 (fun a1 h2 => ?_)
  refine S_putF kc6 (k := 0) (by decide) rfl rfl rfl kw_1040 rfl rfl dX6_init_10 (fun h3 _ => ?_)
  refine S_aload_n 0 dX6_init_13 rfl rfl ?_
  refine S_sipush 4136 dX6_init_14 (by decide) ?_
  refine S_newarr0 (N := 4136) (by decide) (by decide) (by decide) kw_166 dX6_init_17 (fun a4 h5 => ?_)
  refine S_putF kc6 (k := 1) (by decide) rfl rfl rfl kw_1041 rfl rfl dX6_init_19 (fun h6 _ => ?_)
  refine S_aload_n 0 dX6_init_22 rfl rfl ?_
  refine S_sipush 4136 dX6_init_23 (by decide) ?_
  refine S_newarr0 (N := 4136) (by decide) (by decide) (by decide) kw_166 dX6_init_26 (fun a7 h8 => ?_)
  refine S_putF kc6 (k := 2) (by decide) rfl rfl rfl kw_1042 rfl rfl dX6_init_28 (fun h9 _ => ?_)
  refine S_aload_n 0 dX6_init_31 rfl rfl ?_
  refine S_ldc 33088 kw_1038 dX6_init_32 ?_
  refine S_newarr0 (N := 33088) (by decide) (by decide) (by decide) kw_166 dX6_init_34 (fun a10 h11 => ?_)
  refine S_putF kc6 (k := 3) (by decide) rfl rfl rfl kw_1043 rfl rfl dX6_init_36 (fun h12 _ => ?_)
  refine S_aload_n 0 dX6_init_39 rfl rfl ?_
  refine S_sipush 8272 dX6_init_40 (by decide) ?_
  refine S_newarr0 (N := 8272) (by decide) (by decide) (by decide) kw_166 dX6_init_43 (fun a13 h14 => ?_)
  refine S_putF kc6 (k := 4) (by decide) rfl rfl rfl kw_1044 rfl rfl dX6_init_45 (fun h15 _ => ?_)
  refine S_aload_n 0 dX6_init_48 rfl rfl ?_
  refine S_iconst 2 dX6_init_49 (by decide) ?_
  refine S_newarr3 (N := 2) (by decide) (by decide) (by decide) kw_1107 dX6_init_50 (fun a16 h17 => ?_)
  refine S_putF kc6 (k := 5) (by decide) rfl rfl rfl kw_1045 rfl rfl dX6_init_52 (fun h18 _ => ?_)
  refine S_aload_n 0 dX6_init_55 rfl rfl ?_
  refine S_sipush 500 dX6_init_56 (by decide) ?_
  refine S_newarr0 (N := 500) (by decide) (by decide) (by decide) kw_166 dX6_init_59 (fun a19 h20 => ?_)
  refine S_putF kc6 (k := 8) (by decide) rfl rfl rfl kw_1048 rfl rfl dX6_init_61 (fun h21 _ => ?_)
  refine S_aload_n 0 dX6_init_64 rfl rfl ?_
  refine S_iconst (-1) dX6_init_65 (by decide) ?_
  refine S_put kc6 (k := 17) (by decide) rfl kw_1057 rfl rfl dX6_init_66 (fun h22 _ => ?_)
  refine S_aload_n 0 dX6_init_69 rfl rfl ?_
  refine S_ldc 80000 kw_1039 dX6_init_70 ?_
  refine S_newarr0 (N := 80000) (by decide) (by decide) (by decide) kw_166 dX6_init_72 (fun a23 h24 => ?_)
  refine S_putF kc6 (k := 18) (by decide) rfl rfl rfl kw_1058 rfl rfl dX6_init_74 (fun h25 _ => ?_)
  refine S_aload_n 0 dX6_init_77 rfl rfl ?_
  refine S_bipush 9 dX6_init_78 (by decide) ?_
  refine S_newarr0 (N := 9) (by decide) (by decide) (by decide) kw_166 dX6_init_80 (fun a26 h27 => ?_)
  refine S_putF kc6 (k := 19) (by decide) rfl rfl rfl kw_1059 rfl rfl dX6_init_82 (fun h28 _ => ?_)
  refine S_aload_n 0 dX6_init_85 rfl rfl ?_
  refine S_bipush 14 dX6_init_86 (by decide) ?_
  refine S_newarr0 (N := 14) (by decide) (by decide) (by decide) kw_166 dX6_init_88 (fun a29 h30 => ?_)
  refine S_putF kc6 (k := 20) (by decide) rfl rfl rfl kw_1060 rfl rfl dX6_init_90 (fun h31 _ => ?_)
  refine S_aload_n 0 dX6_init_93 rfl rfl ?_
  refine S_getR kc6 (k := 0) (by decide) kw_1040 dX6_init_94 (fun a32 _ => ?_)
  refine S_iconst 0 dX6_init_97 (by decide) ?_
  refine S_iconst 1 dX6_init_98 (by decide) ?_
  refine S_iastore dX6_init_99 (fun h33 _ => ?_)
  refine S_aload_n 0 dX6_init_100 rfl rfl ?_
  refine S_getR kc6 (k := 0) (by decide) kw_1040 dX6_init_101 (fun a34 _ => ?_)
  refine S_iconst 1 dX6_init_104 (by decide) ?_
  refine S_iconst 1 dX6_init_105 (by decide) ?_
  refine S_iastore dX6_init_106 (fun h35 _ => ?_)
  refine S_aload_n 0 dX6_init_107 rfl rfl ?_
  refine S_getR kc6 (k := 0) (by decide) kw_1040 dX6_init_108 (fun a36 _ => ?_)
  refine S_iconst 4 dX6_init_111 (by decide) ?_
  refine S_iconst 1 dX6_init_112 (by decide) ?_
  refine S_iastore dX6_init_113 (fun h37 _ => ?_)
  exact S_return rfl rfl dX6_init_114
theorem sm_X6_init (hs : l.stackTraces = false) (o : Nat) (h : Hp) : ∀ h1, m_X6_init  o h = some h1 → SR l G 0 M_X6_init [.ref o] h none h1 := fun h1 e => SR.of K_X6_init hs rfl (Nat.le_of_ble_eq_true rfl) (ss_X6_init hs o h) e rfl
end
section
variable {l : Launch} {G : Gx}
set_option maxRecDepth 20000 in
set_option maxHeartbeats 4000000 in
theorem ss_X6_thrown (hs : l.stackTraces = false) (o : Nat) (h : Hp) : Sim l G 0 M_X6_thrown (fun v : Int32 => ((.inl (some (.int v)) : Oc), h)) 0 [(0, .ref o)] [] h (m_X6_thrown  o h) := by
  rw [m_X6_thrown]
  refine S_aload_n 0 dX6_thrown_0 rfl rfl ?_
  refine S_getI kc6 (k := 7) (by decide) kw_1047 dX6_thrown_1 (fun x1 _ => ?_)
  exact S_ireturn rfl rfl dX6_thrown_4
theorem sm_X6_thrown (hs : l.stackTraces = false) (o : Nat) (h : Hp) : ∀ x, m_X6_thrown  o h = some x → SR l G 0 M_X6_thrown [.ref o] h (some (.int x)) h := fun x e => SR.of K_X6_thrown hs rfl (Nat.le_of_ble_eq_true rfl) (ss_X6_thrown hs o h) e rfl
end
section
variable {l : Launch} {G : Gx}
set_option maxRecDepth 20000 in
set_option maxHeartbeats 4000000 in
theorem ss_X6_isIn (hs : l.stackTraces = false) (p0 : Int32) (p1 : Int32) (p2 : Int32) (h : Hp) : Sim l G 0 M_X6_isIn (fun v : Bool => ((.inl (some (.int (bI v))) : Oc), h)) 0 [(0, .int p0), (1, .int p1), (2, .int p2)] [] h (m_X6_isIn  p0 p1 p2) := by
  rw [m_X6_isIn]
  refine S_iload_n 0 dX6_isIn_0 rfl rfl ?_
  refine S_iload_n 1 dX6_isIn_1 rfl rfl ?_
  refine S_icmp_lt 14 dX6_isIn_2 (by decide) (fun c2 => ?_) (fun c2 => ?_)
  · refine S_iconst 0 dX6_isIn_14 (by decide) ?_
    exact S_zreturn (b := false) rfl rfl dX6_isIn_15
  · refine S_iload_n 0 dX6_isIn_5 rfl rfl ?_
    refine S_iload_n 2 dX6_isIn_6 rfl rfl ?_
    refine S_icmp_gt 14 dX6_isIn_7 (by decide) (fun c1 => ?_) (fun c1 => ?_)
    · refine S_iconst 0 dX6_isIn_14 (by decide) ?_
      exact S_zreturn (b := false) rfl rfl dX6_isIn_15
    · refine S_iconst 1 dX6_isIn_10 (by decide) ?_
      refine S_goto 15 dX6_isIn_11 (by decide) ?_
      exact S_zreturn (b := true) rfl rfl dX6_isIn_15
theorem sm_X6_isIn (hs : l.stackTraces = false) (p0 : Int32) (p1 : Int32) (p2 : Int32) (h : Hp) : ∀ x, m_X6_isIn  p0 p1 p2 = some x → SR l G 0 M_X6_isIn [.int p0, .int p1, .int p2] h (some (.int (bI x))) h := fun x e => SR.of K_X6_isIn hs rfl (Nat.le_of_ble_eq_true rfl) (ss_X6_isIn hs p0 p1 p2 h) e rfl
end
section
variable {l : Launch} {G : Gx}
set_option maxRecDepth 20000 in
set_option maxHeartbeats 4000000 in
theorem sl_X6_sets_L3 (hs : l.stackTraces = false) (u1 : Nat) (u2 : Int32) (u3 : Nat) (u4 : Int32) (k3_29 : Hp → Option Hp) (hk3_29 : ∀ (h6 : Hp), Sim l G 0 M_X6_sets (fun v : Hp => ((.inl none : Oc), v)) 29 [] [] h6 (k3_29 h6)) : ∀ (f : Nat) (w5 : Int32) (h : Hp), Sim l G 0 M_X6_sets (fun v : Hp => ((.inl none : Oc), v)) 3 [(0, .ref u1), (1, .int u2), (2, .ref u3), (3, .int u4), (4, .int w5)] [] h (m_X6_sets_L3 u1 u2 u3 u4 k3_29 f w5 h) := by
  intro f
  induction f with
  | zero => intro w5 h; exact S_none rfl
  | succ f ih =>
    intro w5 h
    rw [m_X6_sets_L3]
    refine S_iload 4 dX6_sets_3 rfl ?_
    refine S_sipush 4136 dX6_sets_5 (by decide) ?_
    refine S_icmp_ge 29 dX6_sets_8 (by decide) (fun c10 => ?_) (fun c10 => ?_)
    · exact Sim.sub [] rfl (hk3_29 h)
    · refine S_aload_n 0 dX6_sets_11 rfl rfl ?_
      refine S_iload_n 1 dX6_sets_12 rfl rfl ?_
      refine S_iload 4 dX6_sets_13 rfl ?_
      refine S_iadd dX6_sets_15 ?_
      refine S_aload_n 2 dX6_sets_16 rfl rfl ?_
      refine S_iload_n 3 dX6_sets_17 rfl rfl ?_
      refine S_iload 4 dX6_sets_18 rfl ?_
      refine S_iadd dX6_sets_20 ?_
      refine S_iaload dX6_sets_21 (fun x7 _ => ?_)
      refine S_iastore dX6_sets_22 (fun h8 _ => ?_)
      refine S_iincN (c := 1) 4 (fun x9 => [(4, .int x9), (0, .ref u1), (1, .int u2), (2, .ref u3), (3, .int u4)]) dX6_sets_23 rfl (by decide) (Nat.le_of_ble_eq_true rfl) (fun _ => rfl) (fun x9 => ?_)
      refine S_goto 3 dX6_sets_26 (by decide) ?_
      exact Sim.sub [1, 2, 3, 4, 0] rfl (ih x9 h8)
set_option maxRecDepth 20000 in
set_option maxHeartbeats 4000000 in
theorem ss_X6_sets (hs : l.stackTraces = false) (p0 : Nat) (p1 : Int32) (p2 : Nat) (p3 : Int32) (h : Hp) : Sim l G 0 M_X6_sets (fun v : Hp => ((.inl none : Oc), v)) 0 [(0, .ref p0), (1, .int p1), (2, .ref p2), (3, .int p3)] [] h (m_X6_sets  p0 p1 p2 p3 h) := by
  rw [m_X6_sets]
  refine S_iconst 0 dX6_sets_0 (by decide) ?_
  refine S_istore [(4, .int 0), (0, .ref p0), (1, .int p1), (2, .ref p2), (3, .int p3)] dX6_sets_1 (Nat.le_of_ble_eq_true rfl) rfl ?_
  refine Sim.sub [1, 2, 3, 4, 0] rfl (sl_X6_sets_L3 hs p0 p1 p2 p3 _ ?_ LF (0 : Int32) h)
  · intro h6
    exact S_return rfl rfl dX6_sets_29
theorem sm_X6_sets (hs : l.stackTraces = false) (p0 : Nat) (p1 : Int32) (p2 : Nat) (p3 : Int32) (h : Hp) : ∀ h1, m_X6_sets  p0 p1 p2 p3 h = some h1 → SR l G 0 M_X6_sets [.ref p0, .int p1, .ref p2, .int p3] h none h1 := fun h1 e => SR.of K_X6_sets hs rfl (Nat.le_of_ble_eq_true rfl) (ss_X6_sets hs p0 p1 p2 p3 h) e rfl
end
section
variable {l : Launch} {G : Gx}
set_option maxRecDepth 20000 in
set_option maxHeartbeats 4000000 in
theorem sl_X6_append_L34 (hs : l.stackTraces = false) (u6 : Nat) (u7 : Int32) (u8 : Int32) (u9 : Int32) (u10 : Int32) (u11 : Int32) (k34_131 : Hp → Option (Int32 × Hp)) (hk34_131 : ∀ (h13 : Hp), Sim l G 0 M_X6_append (fun p : Int32 × Hp => ((.inl (some (.int p.1)) : Oc), p.2)) 131 [(0, .ref u6)] [] h13 (k34_131 h13)) : ∀ (f : Nat) (w12 : Int32) (h : Hp), Sim l G 0 M_X6_append (fun p : Int32 × Hp => ((.inl (some (.int p.1)) : Oc), p.2)) 34 [(0, .ref u6), (1, .int u7), (2, .int u8), (3, .int u9), (4, .int u10), (5, .int u11), (6, .int w12)] [] h (m_X6_append_L34 u6 u7 u8 u9 u10 u11 k34_131 f w12 h) := by
  intro f
  induction f with
  | zero => intro w12 h; exact S_none rfl
  | succ f ih =>
    intro w12 h
    rw [m_X6_append_L34]
    refine S_iload 6 dX6_append_34 rfl ?_
    refine S_bipush 20 dX6_append_36 (by decide) ?_
    refine S_icmp_ge 131 dX6_append_38 (by decide) (fun c26 => ?_) (fun c26 => ?_)
    · exact Sim.sub [0] rfl (hk34_131 h)
    · refine S_iload 6 dX6_append_41 rfl ?_
      refine S_iconst 4 dX6_append_43 (by decide) ?_
      refine S_jK (fun (k15 : Int32 → Option (Int32 × Hp)) => ∀ (v14 : Int32), Sim l G 0 M_X6_append (fun p : Int32 × Hp => ((.inl (some (.int p.1)) : Oc), p.2)) 87 [(0, .ref u6), (1, .int u7), (2, .int u8), (3, .int u9), (4, .int u10), (5, .int u11), (6, .int w12)] [.int v14] h (k15 v14)) ?_ (fun k15 hk15 => ?_)
      · intro v14
        refine S_istore [(7, .int v14), (0, .ref u6), (1, .int u7), (2, .int u8), (3, .int u9), (4, .int u10), (5, .int u11), (6, .int w12)] dX6_append_87 (Nat.le_of_ble_eq_true rfl) rfl ?_
        refine S_aload_n 1 dX6_append_89 rfl rfl ?_
        refine S_getR kc6 (k := 8) (by decide) kw_1048 dX6_append_90 (fun a16 _ => ?_)
        refine S_aload_n 1 dX6_append_93 rfl rfl ?_
        refine S_getI kc6 (k := 9) (by decide) kw_1049 dX6_append_94 (fun x17 _ => ?_)
        refine S_iload 0 dX6_append_97 rfl ?_
        refine S_bipush 24 dX6_append_99 (by decide) ?_
        refine S_bipush 8 dX6_append_101 (by decide) ?_
        refine S_iload 7 dX6_append_103 rfl ?_
        refine S_iconst 4 dX6_append_105 (by decide) ?_
        refine S_iremC dX6_append_106 (by decide) ?_
        refine S_imul dX6_append_107 ?_
        refine S_isub dX6_append_108 ?_
        refine S_ishr dX6_append_109 ?_
        refine S_sipush 255 dX6_append_110 (by decide) ?_
        refine S_iand dX6_append_113 ?_
        refine S_iastore dX6_append_114 (fun h18 _ => ?_)
        refine S_aload_n 1 dX6_append_115 rfl rfl ?_
        refine S_dup dX6_append_116 rfl ?_
        refine S_getI kc6 (k := 9) (by decide) kw_1049 dX6_append_117 (fun x19 _ => ?_)
        refine S_iconst 1 dX6_append_120 (by decide) ?_
        refine S_iadd dX6_append_121 ?_
        refine S_put kc6 (k := 9) (by decide) rfl kw_1049 rfl rfl dX6_append_122 (fun h20 _ => ?_)
        refine S_iincN (c := 1) 7 (fun x21 => [(6, .int x21), (7, .int v14), (0, .ref u6), (1, .int u7), (2, .int u8), (3, .int u9), (4, .int u10), (5, .int u11)]) dX6_append_125 rfl (by decide) (Nat.le_of_ble_eq_true rfl) (fun _ => rfl) (fun x21 => ?_)
        refine S_goto 34 dX6_append_128 (by decide) ?_
        exact Sim.sub [2, 3, 4, 5, 6, 7, 0] rfl (ih x21 h20)
      refine S_icmp_ge 51 dX6_append_44 (by decide) (fun c25 => ?_) (fun c25 => ?_)
      · refine S_iload 6 dX6_append_51 rfl ?_
        refine S_bipush 8 dX6_append_53 (by decide) ?_
        refine S_icmp_ge 62 dX6_append_55 (by decide) (fun c24 => ?_) (fun c24 => ?_)
        · refine S_iload 6 dX6_append_62 rfl ?_
          refine S_bipush 12 dX6_append_64 (by decide) ?_
          refine S_icmp_ge 73 dX6_append_66 (by decide) (fun c23 => ?_) (fun c23 => ?_)
          · refine S_iload 6 dX6_append_73 rfl ?_
            refine S_bipush 16 dX6_append_75 (by decide) ?_
            refine S_icmp_ge 85 dX6_append_77 (by decide) (fun c22 => ?_) (fun c22 => ?_)
            · refine S_iload 5 dX6_append_85 rfl ?_
              exact Sim.sub [0, 1, 2, 3, 4, 5, 6] rfl (hk15 u11)
            · refine S_iload 4 dX6_append_80 rfl ?_
              refine S_goto 87 dX6_append_82 (by decide) ?_
              exact Sim.sub [0, 1, 2, 3, 4, 5, 6] rfl (hk15 u10)
          · refine S_iload_n 3 dX6_append_69 rfl rfl ?_
            refine S_goto 87 dX6_append_70 (by decide) ?_
            exact Sim.sub [0, 1, 2, 3, 4, 5, 6] rfl (hk15 u9)
        · refine S_iload_n 2 dX6_append_58 rfl rfl ?_
          refine S_goto 87 dX6_append_59 (by decide) ?_
          exact Sim.sub [0, 1, 2, 3, 4, 5, 6] rfl (hk15 u8)
      · refine S_iload_n 1 dX6_append_47 rfl rfl ?_
        refine S_goto 87 dX6_append_48 (by decide) ?_
        exact Sim.sub [0, 1, 2, 3, 4, 5, 6] rfl (hk15 u7)
set_option maxRecDepth 20000 in
set_option maxHeartbeats 4000000 in
theorem ss_X6_append (hs : l.stackTraces = false) (o : Nat) (p1 : Int32) (p2 : Int32) (p3 : Int32) (p4 : Int32) (p5 : Int32) (h : Hp) : Sim l G 0 M_X6_append (fun p : Int32 × Hp => ((.inl (some (.int p.1)) : Oc), p.2)) 0 [(0, .ref o), (1, .int p1), (2, .int p2), (3, .int p3), (4, .int p4), (5, .int p5)] [] h (m_X6_append  o p1 p2 p3 p4 p5 h) := by
  rw [m_X6_append]
  refine S_aload_n 0 dX6_append_0 rfl rfl ?_
  refine S_aload_n 0 dX6_append_1 rfl rfl ?_
  refine S_getI kc6 (k := 9) (by decide) kw_1049 dX6_append_2 (fun x1 _ => ?_)
  refine S_bipush 20 dX6_append_5 (by decide) ?_
  refine S_iadd dX6_append_7 ?_
  refine S_sipush 500 dX6_append_8 (by decide) ?_
  refine S_jK (fun (k3 : Bool → Option (Int32 × Hp)) => ∀ (v2 : Bool), Sim l G 0 M_X6_append (fun p : Int32 × Hp => ((.inl (some (.int p.1)) : Oc), p.2)) 19 [(0, .ref o), (1, .int p1), (2, .int p2), (3, .int p3), (4, .int p4), (5, .int p5)] [.int (bI v2), .ref o] h (k3 v2)) ?_ (fun k3 hk3 => ?_)
  · intro v2
    refine S_put kc6 (k := 7) (by decide) rfl kw_1047 rfl rfl dX6_append_19 (fun h4 _ => ?_)
    refine S_aload_n 0 dX6_append_22 rfl rfl ?_
    refine S_getI kc6 (k := 7) (by decide) kw_1047 dX6_append_23 (fun x5 _ => ?_)
    refine S_if_le 31 dX6_append_26 (by decide) (fun c28 => ?_) (fun c28 => ?_)
    · refine S_iconst 0 dX6_append_31 (by decide) ?_
      refine S_istore [(6, .int 0), (0, .ref o), (1, .int p1), (2, .int p2), (3, .int p3), (4, .int p4), (5, .int p5)] dX6_append_32 (Nat.le_of_ble_eq_true rfl) rfl ?_
      refine Sim.sub [1, 2, 3, 4, 5, 6, 0] rfl (sl_X6_append_L34 hs o p1 p2 p3 p4 p5 _ ?_ LF (0 : Int32) h4)
      · intro h13
        refine S_aload_n 0 dX6_append_131 rfl rfl ?_
        refine S_getI kc6 (k := 9) (by decide) kw_1049 dX6_append_132 (fun x27 _ => ?_)
        exact S_ireturn rfl rfl dX6_append_135
    · refine S_iconst 0 dX6_append_29 (by decide) ?_
      exact S_ireturn rfl rfl dX6_append_30
  refine S_icmp_le 18 dX6_append_11 (by decide) (fun c29 => ?_) (fun c29 => ?_)
  · refine S_iconst 0 dX6_append_18 (by decide) ?_
    exact Sim.sub [0, 1, 2, 3, 4, 5] rfl (hk3 false)
  · refine S_iconst 1 dX6_append_14 (by decide) ?_
    refine S_goto 19 dX6_append_15 (by decide) ?_
    exact Sim.sub [0, 1, 2, 3, 4, 5] rfl (hk3 true)
theorem sm_X6_append (hs : l.stackTraces = false) (o : Nat) (p1 : Int32) (p2 : Int32) (p3 : Int32) (p4 : Int32) (p5 : Int32) (h : Hp) : ∀ x h1, m_X6_append  o p1 p2 p3 p4 p5 h = some (x, h1) → SR l G 0 M_X6_append [.ref o, .int p1, .int p2, .int p3, .int p4, .int p5] h (some (.int x)) h1 := fun x h1 e => SR.of K_X6_append hs rfl (Nat.le_of_ble_eq_true rfl) (ss_X6_append hs o p1 p2 p3 p4 p5 h) e rfl
end
section
variable {l : Launch} {G : Gx}
set_option maxRecDepth 20000 in
set_option maxHeartbeats 4000000 in
theorem ss_X6_see (hs : l.stackTraces = false) (o : Nat) (p1 : Int32) (h : Hp) : Sim l G 0 M_X6_see (fun v : Int32 => ((.inl (some (.int v)) : Oc), h)) 0 [(0, .ref o), (1, .int p1)] [] h (m_X6_see  o p1 h) := by
  rw [m_X6_see]
  refine S_iload_n 1 dX6_see_0 rfl rfl ?_
  refine S_aload_n 0 dX6_see_1 rfl rfl ?_
  refine S_getI kc6 (k := 10) (by decide) kw_1050 dX6_see_2 (fun x1 _ => ?_)
  refine S_icmp_ge 17 dX6_see_5 (by decide) (fun c4 => ?_) (fun c4 => ?_)
  · refine S_iconst (-1) dX6_see_17 (by decide) ?_
    exact S_ireturn rfl rfl dX6_see_18
  · refine S_aload_n 0 dX6_see_8 rfl rfl ?_
    refine S_getR kc6 (k := 8) (by decide) kw_1048 dX6_see_9 (fun a2 _ => ?_)
    refine S_iload_n 1 dX6_see_12 rfl rfl ?_
    refine S_iaload dX6_see_13 (fun x3 _ => ?_)
    refine S_goto 18 dX6_see_14 (by decide) ?_
    exact S_ireturn rfl rfl dX6_see_18
theorem sm_X6_see (hs : l.stackTraces = false) (o : Nat) (p1 : Int32) (h : Hp) : ∀ x, m_X6_see  o p1 h = some x → SR l G 0 M_X6_see [.ref o, .int p1] h (some (.int x)) h := fun x e => SR.of K_X6_see hs rfl (Nat.le_of_ble_eq_true rfl) (ss_X6_see hs o p1 h) e rfl
end
section
variable {l : Launch} {G : Gx}
set_option maxRecDepth 20000 in
set_option maxHeartbeats 4000000 in
theorem ss_X6_fails (hs : l.stackTraces = false) (o : Nat) (p1 : Int32) (h : Hp) : Sim l G 0 M_X6_fails (fun v : Hp => ((.inl none : Oc), v)) 0 [(0, .ref o), (1, .int p1)] [] h (m_X6_fails  o p1 h) := by
  rw [m_X6_fails]
  refine S_aload_n 0 dX6_fails_0 rfl rfl ?_
  refine S_getI kc6 (k := 15) (by decide) kw_1055 dX6_fails_1 (fun x1 _ => ?_)
  refine S_if_eq 8 dX6_fails_4 (by decide) (fun c5 => ?_) (fun c5 => ?_)
  · refine S_aload_n 0 dX6_fails_8 rfl rfl ?_
    refine S_iload_n 1 dX6_fails_9 rfl rfl ?_
    refine S_put kc6 (k := 15) (by decide) rfl kw_1055 rfl rfl dX6_fails_10 (fun h2 _ => ?_)
    refine S_aload_n 0 dX6_fails_13 rfl rfl ?_
    refine S_aload_n 0 dX6_fails_14 rfl rfl ?_
    refine S_getI kc6 (k := 11) (by decide) kw_1051 dX6_fails_15 (fun x3 _ => ?_)
    refine S_put kc6 (k := 16) (by decide) rfl kw_1056 rfl rfl dX6_fails_18 (fun h4 _ => ?_)
    exact S_return rfl rfl dX6_fails_21
  · exact S_return rfl rfl dX6_fails_7
theorem sm_X6_fails (hs : l.stackTraces = false) (o : Nat) (p1 : Int32) (h : Hp) : ∀ h1, m_X6_fails  o p1 h = some h1 → SR l G 0 M_X6_fails [.ref o, .int p1] h none h1 := fun h1 e => SR.of K_X6_fails hs rfl (Nat.le_of_ble_eq_true rfl) (ss_X6_fails hs o p1 h) e rfl
end
section
variable {l : Launch} {G : Gx}
set_option maxRecDepth 20000 in
set_option maxHeartbeats 4000000 in
theorem sl_X6_lettersHere_L7 (hs : l.stackTraces = false) (u2 : Nat) (h : Hp) (k7_58 : Int32 → Option Int32) (k7_44 : Option Int32) (hk7_58 : ∀ (v5 : Int32), Sim l G 0 M_X6_lettersHere (fun v : Int32 => ((.inl (some (.int v)) : Oc), h)) 58 [(1, .int v5)] [] h (k7_58 v5)) (hk7_44 : Sim l G 0 M_X6_lettersHere (fun v : Int32 => ((.inl (some (.int v)) : Oc), h)) 44 [] [] h (k7_44)) : ∀ (f : Nat) (w3 : Int32) (w4 : Int32), Sim l G 0 M_X6_lettersHere (fun v : Int32 => ((.inl (some (.int v)) : Oc), h)) 7 [(0, .ref u2), (1, .int w3), (2, .int w4)] [] h (m_X6_lettersHere_L7 u2 h k7_58 k7_44 f w3 w4) := by
  intro f
  induction f with
  | zero => intro w3 w4; exact S_none rfl
  | succ f ih =>
    intro w3 w4
    rw [m_X6_lettersHere_L7]
    refine S_iload_n 2 dX6_lettersHere_7 rfl rfl ?_
    refine S_aload_n 0 dX6_lettersHere_8 rfl rfl ?_
    refine S_getI kc6 (k := 12) (by decide) kw_1052 dX6_lettersHere_9 (fun x6 _ => ?_)
    refine S_icmp_ge 58 dX6_lettersHere_12 (by decide) (fun c16 => ?_) (fun c16 => ?_)
    · exact Sim.sub [1] rfl (hk7_58 w3)
    · refine S_aload_n 0 dX6_lettersHere_15 rfl rfl ?_
      refine S_getR kc6 (k := 8) (by decide) kw_1048 dX6_lettersHere_16 (fun a7 _ => ?_)
      refine S_iload_n 2 dX6_lettersHere_19 rfl rfl ?_
      refine S_iaload dX6_lettersHere_20 (fun x8 _ => ?_)
      refine S_bipush 97 dX6_lettersHere_21 (by decide) ?_
      refine S_isub dX6_lettersHere_23 ?_
      refine S_nmI (fun x9 => ?_)
      refine S_istore_n [(3, .int x9), (0, .ref u2), (1, .int w3), (2, .int w4)] dX6_lettersHere_24 rfl (Nat.le_of_ble_eq_true rfl) rfl ?_
      refine S_iload_n 0 dX6_lettersHere_25 rfl rfl ?_
      refine S_aload_n 1 dX6_lettersHere_26 rfl rfl ?_
      refine S_getR kc6 (k := 0) (by decide) kw_1040 dX6_lettersHere_27 (fun a10 _ => ?_)
      refine S_iconst 1 dX6_lettersHere_30 (by decide) ?_
      refine S_iaload dX6_lettersHere_31 (fun x11 _ => ?_)
      refine S_icmp_ge 44 dX6_lettersHere_32 (by decide) (fun c15 => ?_) (fun c15 => ?_)
      · exact Sim.sub [] rfl (hk7_44)
      · refine S_iload_n 2 dX6_lettersHere_35 rfl rfl ?_
        refine S_iload_n 0 dX6_lettersHere_36 rfl rfl ?_
        refine S_ishr dX6_lettersHere_37 ?_
        refine S_iconst 1 dX6_lettersHere_38 (by decide) ?_
        refine S_iand dX6_lettersHere_39 ?_
        refine S_iconst 1 dX6_lettersHere_40 (by decide) ?_
        refine S_icmp_ne 46 dX6_lettersHere_41 (by decide) (fun c14 => ?_) (fun c14 => ?_)
        · refine S_iload_n 2 dX6_lettersHere_46 rfl rfl ?_
          refine S_iconst 1 dX6_lettersHere_47 (by decide) ?_
          refine S_iload_n 0 dX6_lettersHere_48 rfl rfl ?_
          refine S_ishl dX6_lettersHere_49 ?_
          refine S_ior dX6_lettersHere_50 ?_
          refine S_nmI (fun x12 => ?_)
          refine S_istore_n [(1, .int x12), (3, .int x9), (0, .ref u2), (2, .int w4)] dX6_lettersHere_51 rfl (Nat.le_of_ble_eq_true rfl) rfl ?_
          refine S_iincN (c := 1) 3 (fun x13 => [(2, .int x13), (1, .int x12), (3, .int x9), (0, .ref u2)]) dX6_lettersHere_52 rfl (by decide) (Nat.le_of_ble_eq_true rfl) (fun _ => rfl) (fun x13 => ?_)
          refine S_goto 7 dX6_lettersHere_55 (by decide) ?_
          exact Sim.sub [3, 1, 0] rfl (ih x12 x13)
        · exact Sim.sub [] rfl (hk7_44)
set_option maxRecDepth 20000 in
set_option maxHeartbeats 4000000 in
theorem ss_X6_lettersHere (hs : l.stackTraces = false) (o : Nat) (h : Hp) : Sim l G 0 M_X6_lettersHere (fun v : Int32 => ((.inl (some (.int v)) : Oc), h)) 0 [(0, .ref o)] [] h (m_X6_lettersHere  o h) := by
  rw [m_X6_lettersHere]
  refine S_iconst 0 dX6_lettersHere_0 (by decide) ?_
  refine S_istore_n [(1, .int 0), (0, .ref o)] dX6_lettersHere_1 rfl (Nat.le_of_ble_eq_true rfl) rfl ?_
  refine S_aload_n 1 dX6_lettersHere_2 rfl rfl ?_
  refine S_getI kc6 (k := 11) (by decide) kw_1051 dX6_lettersHere_3 (fun x1 _ => ?_)
  refine S_istore_n [(2, .int x1), (1, .int 0), (0, .ref o)] dX6_lettersHere_6 rfl (Nat.le_of_ble_eq_true rfl) rfl ?_
  refine Sim.sub [2, 1, 0] rfl (sl_X6_lettersHere_L7 hs o h _ _ ?_ ?_ LF (0 : Int32) x1)
  · intro v5
    refine S_iload_n 0 dX6_lettersHere_58 rfl rfl ?_
    exact S_ireturn rfl rfl dX6_lettersHere_59
  · refine S_iconst 0 dX6_lettersHere_44 (by decide) ?_
    exact S_ireturn rfl rfl dX6_lettersHere_45
theorem sm_X6_lettersHere (hs : l.stackTraces = false) (o : Nat) (h : Hp) : ∀ x, m_X6_lettersHere  o h = some x → SR l G 0 M_X6_lettersHere [.ref o] h (some (.int x)) h := fun x e => SR.of K_X6_lettersHere hs rfl (Nat.le_of_ble_eq_true rfl) (ss_X6_lettersHere hs o h) e rfl
end
section
variable {l : Launch} {G : Gx}
set_option maxRecDepth 20000 in
set_option maxHeartbeats 4000000 in
theorem sl_X6_colouringsNext_L4 (hs : l.stackTraces = false) (u1 : Nat) (h : Hp) (k4_31 : Int32 → Option Int32) (hk4_31 : ∀ (v4 : Int32), Sim l G 0 M_X6_colouringsNext (fun v : Int32 => ((.inl (some (.int v)) : Oc), h)) 31 [(1, .int v4)] [] h (k4_31 v4)) : ∀ (f : Nat) (w2 : Int32) (w3 : Int32), Sim l G 0 M_X6_colouringsNext (fun v : Int32 => ((.inl (some (.int v)) : Oc), h)) 4 [(0, .ref u1), (1, .int w2), (2, .int w3)] [] h (m_X6_colouringsNext_L4 u1 h k4_31 f w2 w3) := by
  intro f
  induction f with
  | zero => intro w2 w3; exact S_none rfl
  | succ f ih =>
    intro w2 w3
    rw [m_X6_colouringsNext_L4]
    refine S_iload_n 2 dX6_colouringsNext_4 rfl rfl ?_
    refine S_aload_n 0 dX6_colouringsNext_5 rfl rfl ?_
    refine S_getR kc6 (k := 0) (by decide) kw_1040 dX6_colouringsNext_6 (fun a5 _ => ?_)
    refine S_iconst 0 dX6_colouringsNext_9 (by decide) ?_
    refine S_iaload dX6_colouringsNext_10 (fun x6 _ => ?_)
    refine S_icmp_gt 31 dX6_colouringsNext_11 (by decide) (fun c11 => ?_) (fun c11 => ?_)
    · exact Sim.sub [1] rfl (hk4_31 w2)
    · refine S_iload_n 1 dX6_colouringsNext_14 rfl rfl ?_
      refine S_aload_n 0 dX6_colouringsNext_15 rfl rfl ?_
      refine S_getR kc6 (k := 0) (by decide) kw_1040 dX6_colouringsNext_16 (fun a7 _ => ?_)
      refine S_iconst 1 dX6_colouringsNext_19 (by decide) ?_
      refine S_iaload dX6_colouringsNext_20 (fun x8 _ => ?_)
      refine S_iconst 1 dX6_colouringsNext_21 (by decide) ?_
      refine S_iadd dX6_colouringsNext_22 ?_
      refine S_imul dX6_colouringsNext_23 ?_
      refine S_nmI (fun x9 => ?_)
      refine S_istore_n [(1, .int x9), (0, .ref u1), (2, .int w3)] dX6_colouringsNext_24 rfl (Nat.le_of_ble_eq_true rfl) rfl ?_
      refine S_iincN (c := 1) 2 (fun x10 => [(2, .int x10), (1, .int x9), (0, .ref u1)]) dX6_colouringsNext_25 rfl (by decide) (Nat.le_of_ble_eq_true rfl) (fun _ => rfl) (fun x10 => ?_)
      refine S_goto 4 dX6_colouringsNext_28 (by decide) ?_
      exact Sim.sub [2, 1, 0] rfl (ih x9 x10)
set_option maxRecDepth 20000 in
set_option maxHeartbeats 4000000 in
theorem ss_X6_colouringsNext (hs : l.stackTraces = false) (o : Nat) (h : Hp) : Sim l G 0 M_X6_colouringsNext (fun v : Int32 => ((.inl (some (.int v)) : Oc), h)) 0 [(0, .ref o)] [] h (m_X6_colouringsNext  o h) := by
  rw [m_X6_colouringsNext]
  refine S_iconst 1 dX6_colouringsNext_0 (by decide) ?_
  refine S_istore_n [(1, .int 1), (0, .ref o)] dX6_colouringsNext_1 rfl (Nat.le_of_ble_eq_true rfl) rfl ?_
  refine S_iconst 0 dX6_colouringsNext_2 (by decide) ?_
  refine S_istore_n [(2, .int 0), (1, .int 1), (0, .ref o)] dX6_colouringsNext_3 rfl (Nat.le_of_ble_eq_true rfl) rfl ?_
  refine Sim.sub [2, 1, 0] rfl (sl_X6_colouringsNext_L4 hs o h _ ?_ LF (1 : Int32) (0 : Int32))
  · intro v4
    refine S_iload_n 0 dX6_colouringsNext_31 rfl rfl ?_
    exact S_ireturn rfl rfl dX6_colouringsNext_32
theorem sm_X6_colouringsNext (hs : l.stackTraces = false) (o : Nat) (h : Hp) : ∀ x, m_X6_colouringsNext  o h = some x → SR l G 0 M_X6_colouringsNext [.ref o] h (some (.int x)) h := fun x e => SR.of K_X6_colouringsNext hs rfl (Nat.le_of_ble_eq_true rfl) (ss_X6_colouringsNext hs o h) e rfl
end
