/-! printed by wip/whole/emit.py: walks -/
section
variable {l : Launch} {G : Gx}
set_option maxRecDepth 20000 in
set_option maxHeartbeats 4000000 in
theorem ss_X1_init (hs : l.stackTraces = false) (o : Nat) (h : Hp) : Sim l G 0 M_X1_init (fun v : Hp => ((.inl none : Oc), v)) 0 [(0, .ref o)] [] h (m_X1_init  o h) := by
  rw [m_X1_init]
  refine S_aload_n 0 dX1_init_0 rfl rfl ?_
  refine S_obj kw_228 k_oi k_oc (Nat.le_of_ble_eq_true rfl) dX1_init_1 ?_
  refine S_aload_n 0 dX1_init_4 rfl rfl ?_
  refine S_bipush 8 dX1_init_5 (by decide) ?_
  refine S_anewN (N := 8) (by decide) (by decide) (by decide) kw_229 dX1_init_7 (fun a1 h2 => ?_)
  refine S_putF kc1 (k := 2) (by decide) rfl rfl rfl kw_234 rfl rfl dX1_init_10 (fun h3 _ => ?_)
  exact S_return rfl rfl dX1_init_13
theorem sm_X1_init (hs : l.stackTraces = false) (o : Nat) (h : Hp) : ∀ h1, m_X1_init  o h = some h1 → SR l G 0 M_X1_init [.ref o] h none h1 := fun h1 e => SR.of K_X1_init hs rfl (Nat.le_of_ble_eq_true rfl) (ss_X1_init hs o h) e rfl
end
section
variable {l : Launch} {G : Gx}
set_option maxRecDepth 20000 in
set_option maxHeartbeats 4000000 in
theorem ss_X2_init (hs : l.stackTraces = false) (o : Nat) (p1 : (Option Nat)) (p2 : Int32) (p3 : Int32) (p4 : Int32) (p5 : Int32) (h : Hp) : Sim l G 0 M_X2_init (fun v : Hp => ((.inl none : Oc), v)) 0 [(0, .ref o), (1, va_rf p1), (2, .int p2), (3, .int p3), (4, .int p4), (5, .int p5)] [] h (m_X2_init  o p1 p2 p3 p4 p5 h) := by
  rw [m_X2_init]
  refine S_aload_n 0 dX2_init_0 rfl rfl ?_
  refine S_obj kw_719 k_oi k_oc (Nat.le_of_ble_eq_true rfl) dX2_init_1 ?_
  refine S_aload_n 0 dX2_init_4 rfl rfl ?_
  refine S_qload_n 1 dX2_init_5 rfl rfl ?_
  refine S_putF kc2 (k := 0) (by decide) rfl rfl rfl kw_720 (nQ _ _) (fQ _ _) dX2_init_6 (fun h1 _ => ?_)
  refine S_aload_n 0 dX2_init_9 rfl rfl ?_
  refine S_iload_n 2 dX2_init_10 rfl rfl ?_
  refine S_putF kc2 (k := 1) (by decide) rfl rfl rfl kw_722 rfl rfl dX2_init_11 (fun h2 _ => ?_)
  refine S_aload_n 0 dX2_init_14 rfl rfl ?_
  refine S_iload_n 3 dX2_init_15 rfl rfl ?_
  refine S_putF kc2 (k := 2) (by decide) rfl rfl rfl kw_724 rfl rfl dX2_init_16 (fun h3 _ => ?_)
  refine S_aload_n 0 dX2_init_19 rfl rfl ?_
  refine S_iload 4 dX2_init_20 rfl ?_
  refine S_putF kc2 (k := 3) (by decide) rfl rfl rfl kw_727 rfl rfl dX2_init_22 (fun h4 _ => ?_)
  refine S_aload_n 0 dX2_init_25 rfl rfl ?_
  refine S_iload 5 dX2_init_26 rfl ?_
  refine S_putF kc2 (k := 4) (by decide) rfl rfl rfl kw_729 rfl rfl dX2_init_28 (fun h5 _ => ?_)
  exact S_return rfl rfl dX2_init_31
theorem sm_X2_init (hs : l.stackTraces = false) (o : Nat) (p1 : (Option Nat)) (p2 : Int32) (p3 : Int32) (p4 : Int32) (p5 : Int32) (h : Hp) : ∀ h1, m_X2_init  o p1 p2 p3 p4 p5 h = some h1 → SR l G 0 M_X2_init [.ref o, va_rf p1, .int p2, .int p3, .int p4, .int p5] h none h1 := fun h1 e => SR.of K_X2_init hs (by cases p1 <;> rfl) (by cases p1 <;> exact Nat.le_of_ble_eq_true rfl) (ss_X2_init hs o p1 p2 p3 p4 p5 h) e rfl
end
section
variable {l : Launch} {G : Gx}
set_option maxRecDepth 20000 in
set_option maxHeartbeats 4000000 in
theorem ss_X2_countsAs (hs : l.stackTraces = false) (o : Nat) (p1 : Int32) (h : Hp) : Sim l G 0 M_X2_countsAs (fun v : Bool => ((.inl (some (.int (bI v))) : Oc), h)) 0 [(0, .ref o), (1, .int p1)] [] h (m_X2_countsAs  o p1 h) := by
  rw [m_X2_countsAs]
  refine S_iload_n 1 dX2_countsAs_0 rfl rfl ?_
  refine S_sw 103 [32, 46, 60, 82] dX2_countsAs_1 (by decide) (by decide) rfl (by decide) ?_ ⟨?_, ?_, ?_, ?_, trivial⟩
  · refine S_iconst 0 dX2_countsAs_103 (by decide) ?_
    exact S_zreturn (b := false) rfl rfl dX2_countsAs_104
  · refine S_aload_n 0 dX2_countsAs_32 rfl rfl ?_
    refine S_getI kc2 (k := 1) (by decide) kw_722 dX2_countsAs_33 (fun x1 _ => ?_)
    refine S_iconst (-1) dX2_countsAs_36 (by decide) ?_
    refine S_icmp_eq 44 dX2_countsAs_37 (by decide) (fun c2 => ?_) (fun c2 => ?_)
    · refine S_iconst 0 dX2_countsAs_44 (by decide) ?_
      exact S_zreturn (b := false) rfl rfl dX2_countsAs_45
    · refine S_iconst 1 dX2_countsAs_40 (by decide) ?_
      refine S_goto 45 dX2_countsAs_41 (by decide) ?_
      exact S_zreturn (b := true) rfl rfl dX2_countsAs_45
  · refine S_aload_n 0 dX2_countsAs_46 rfl rfl ?_
    refine S_getI kc2 (k := 1) (by decide) kw_722 dX2_countsAs_47 (fun x3 _ => ?_)
    refine S_iconst (-1) dX2_countsAs_50 (by decide) ?_
    refine S_icmp_ne 58 dX2_countsAs_51 (by decide) (fun c4 => ?_) (fun c4 => ?_)
    · refine S_iconst 0 dX2_countsAs_58 (by decide) ?_
      exact S_zreturn (b := false) rfl rfl dX2_countsAs_59
    · refine S_iconst 1 dX2_countsAs_54 (by decide) ?_
      refine S_goto 59 dX2_countsAs_55 (by decide) ?_
      exact S_zreturn (b := true) rfl rfl dX2_countsAs_59
  · refine S_aload_n 0 dX2_countsAs_60 rfl rfl ?_
    refine S_getI kc2 (k := 1) (by decide) kw_722 dX2_countsAs_61 (fun x5 _ => ?_)
    refine S_iconst (-1) dX2_countsAs_64 (by decide) ?_
    refine S_icmp_eq 80 dX2_countsAs_65 (by decide) (fun c8 => ?_) (fun c8 => ?_)
    · refine S_iconst 0 dX2_countsAs_80 (by decide) ?_
      exact S_zreturn (b := false) rfl rfl dX2_countsAs_81
    · refine S_aload_n 0 dX2_countsAs_68 rfl rfl ?_
      refine S_getI kc2 (k := 4) (by decide) kw_729 dX2_countsAs_69 (fun x6 _ => ?_)
      refine S_iconst 2 dX2_countsAs_72 (by decide) ?_
      refine S_icmp_lt 80 dX2_countsAs_73 (by decide) (fun c7 => ?_) (fun c7 => ?_)
      · refine S_iconst 0 dX2_countsAs_80 (by decide) ?_
        exact S_zreturn (b := false) rfl rfl dX2_countsAs_81
      · refine S_iconst 1 dX2_countsAs_76 (by decide) ?_
        refine S_goto 81 dX2_countsAs_77 (by decide) ?_
        exact S_zreturn (b := true) rfl rfl dX2_countsAs_81
  · refine S_aload_n 0 dX2_countsAs_82 rfl rfl ?_
    refine S_getI kc2 (k := 1) (by decide) kw_722 dX2_countsAs_83 (fun x9 _ => ?_)
    refine S_iconst (-1) dX2_countsAs_86 (by decide) ?_
    refine S_icmp_eq 101 dX2_countsAs_87 (by decide) (fun c12 => ?_) (fun c12 => ?_)
    · refine S_iconst 0 dX2_countsAs_101 (by decide) ?_
      exact S_zreturn (b := false) rfl rfl dX2_countsAs_102
    · refine S_aload_n 0 dX2_countsAs_90 rfl rfl ?_
      refine S_getI kc2 (k := 4) (by decide) kw_729 dX2_countsAs_91 (fun x10 _ => ?_)
      refine S_if_ne 101 dX2_countsAs_94 (by decide) (fun c11 => ?_) (fun c11 => ?_)
      · refine S_iconst 0 dX2_countsAs_101 (by decide) ?_
        exact S_zreturn (b := false) rfl rfl dX2_countsAs_102
      · refine S_iconst 1 dX2_countsAs_97 (by decide) ?_
        refine S_goto 102 dX2_countsAs_98 (by decide) ?_
        exact S_zreturn (b := true) rfl rfl dX2_countsAs_102
theorem sm_X2_countsAs (hs : l.stackTraces = false) (o : Nat) (p1 : Int32) (h : Hp) : ∀ x, m_X2_countsAs  o p1 h = some x → SR l G 0 M_X2_countsAs [.ref o, .int p1] h (some (.int (bI x))) h := fun x e => SR.of K_X2_countsAs hs rfl (Nat.le_of_ble_eq_true rfl) (ss_X2_countsAs hs o p1 h) e rfl
end
section
variable {l : Launch} {G : Gx}
set_option maxRecDepth 20000 in
set_option maxHeartbeats 4000000 in
theorem sl_X3_addFour_L3 (hs : l.stackTraces = false) (u1 : Nat) (u2 : Int32) (k3_55 : Hp → Option Hp) (hk3_55 : ∀ (h4 : Hp), Sim l G 0 M_X3_addFour (fun v : Hp => ((.inl none : Oc), v)) 55 [] [] h4 (k3_55 h4)) : ∀ (f : Nat) (w3 : Int32) (h : Hp), Sim l G 0 M_X3_addFour (fun v : Hp => ((.inl none : Oc), v)) 3 [(0, .ref u1), (1, .int u2), (2, .int w3)] [] h (m_X3_addFour_L3 u1 u2 k3_55 f w3 h) := by
  intro f
  induction f with
  | zero => intro w3 h; exact S_none rfl
  | succ f ih =>
    intro w3 h
    rw [m_X3_addFour_L3]
    refine S_iload_n 2 dX3_addFour_3 rfl rfl ?_
    refine S_if_lt 55 dX3_addFour_4 (by decide) (fun c19 => ?_) (fun c19 => ?_)
    · exact Sim.sub [] rfl (hk3_55 h)
    · refine S_aload_n 0 dX3_addFour_7 rfl rfl ?_
      refine S_getI kc3 (k := 1) (by decide) kw_191 dX3_addFour_8 (fun x5 _ => ?_)
      refine S_jK (fun (k7 : Hp → Option Hp) => ∀ (h6 : Hp), Sim l G 0 M_X3_addFour (fun v : Hp => ((.inl none : Oc), v)) 49 [(0, .ref u1), (1, .int u2), (2, .int w3)] [] h6 (k7 h6)) ?_ (fun k7 hk7 => ?_)
      · intro h6
        refine S_iincN (c := (-8)) 2 (fun x8 => [(2, .int x8), (0, .ref u1), (1, .int u2)]) dX3_addFour_49 rfl (by decide) (Nat.le_of_ble_eq_true rfl) (fun _ => rfl) (fun x8 => ?_)
        refine S_goto 3 dX3_addFour_52 (by decide) ?_
        exact Sim.sub [1, 2, 0] rfl (ih x8 h6)
      refine S_if_lt 49 dX3_addFour_11 (by decide) (fun c18 => ?_) (fun c18 => ?_)
      · exact Sim.sub [0, 1, 2] rfl (hk7 h)
      · refine S_aload_n 0 dX3_addFour_14 rfl rfl ?_
        refine S_getI kc3 (k := 1) (by decide) kw_191 dX3_addFour_15 (fun x9 _ => ?_)
        refine S_aload_n 0 dX3_addFour_18 rfl rfl ?_
        refine S_getR kc3 (k := 3) (by decide) kw_194 dX3_addFour_19 (fun a10 _ => ?_)
        refine S_alen (t := 2) (ty := .byte) rfl dX3_addFour_22 (fun x11 _ => ?_)
        refine S_icmp_ge 49 dX3_addFour_23 (by decide) (fun c17 => ?_) (fun c17 => ?_)
        · exact Sim.sub [0, 1, 2] rfl (hk7 h)
        · refine S_aload_n 0 dX3_addFour_26 rfl rfl ?_
          refine S_getR kc3 (k := 3) (by decide) kw_194 dX3_addFour_27 (fun a12 _ => ?_)
          refine S_aload_n 0 dX3_addFour_30 rfl rfl ?_
          refine S_getI kc3 (k := 1) (by decide) kw_191 dX3_addFour_31 (fun x13 _ => ?_)
          refine S_iload_n 1 dX3_addFour_34 rfl rfl ?_
          refine S_iload_n 2 dX3_addFour_35 rfl rfl ?_
          refine S_iushr dX3_addFour_36 ?_
          refine S_i2b dX3_addFour_37 ?_
          refine S_bastore dX3_addFour_38 (fun h14 _ => ?_)
          refine S_aload_n 0 dX3_addFour_39 rfl rfl ?_
          refine S_dup dX3_addFour_40 rfl ?_
          refine S_getI kc3 (k := 1) (by decide) kw_191 dX3_addFour_41 (fun x15 _ => ?_)
          refine S_iconst 1 dX3_addFour_44 (by decide) ?_
          refine S_iadd dX3_addFour_45 ?_
          refine S_put kc3 (k := 1) (by decide) rfl kw_191 rfl rfl dX3_addFour_46 (fun h16 _ => ?_)
          exact Sim.sub [0, 1, 2] rfl (hk7 h16)
set_option maxRecDepth 20000 in
set_option maxHeartbeats 4000000 in
theorem ss_X3_addFour (hs : l.stackTraces = false) (o : Nat) (p1 : Int32) (h : Hp) : Sim l G 0 M_X3_addFour (fun v : Hp => ((.inl none : Oc), v)) 0 [(0, .ref o), (1, .int p1)] [] h (m_X3_addFour  o p1 h) := by
  rw [m_X3_addFour]
  refine S_bipush 24 dX3_addFour_0 (by decide) ?_
  refine S_istore_n [(2, .int 24), (0, .ref o), (1, .int p1)] dX3_addFour_2 rfl (Nat.le_of_ble_eq_true rfl) rfl ?_
  refine Sim.sub [1, 2, 0] rfl (sl_X3_addFour_L3 hs o p1 _ ?_ LF (24 : Int32) h)
  · intro h4
    exact S_return rfl rfl dX3_addFour_55
theorem sm_X3_addFour (hs : l.stackTraces = false) (o : Nat) (p1 : Int32) (h : Hp) : ∀ h1, m_X3_addFour  o p1 h = some h1 → SR l G 0 M_X3_addFour [.ref o, .int p1] h none h1 := fun h1 e => SR.of K_X3_addFour hs rfl (Nat.le_of_ble_eq_true rfl) (ss_X3_addFour hs o p1 h) e rfl
end
section
variable {l : Launch} {G : Gx}
set_option maxRecDepth 20000 in
set_option maxHeartbeats 4000000 in
theorem ss_X3_byteAt (hs : l.stackTraces = false) (o : Nat) (p1 : Int32) (h : Hp) : Sim l G 0 M_X3_byteAt (fun v : Int32 => ((.inl (some (.int v)) : Oc), h)) 0 [(0, .ref o), (1, .int p1)] [] h (m_X3_byteAt  o p1 h) := by
  rw [m_X3_byteAt]
  refine S_iload_n 1 dX3_byteAt_0 rfl rfl ?_
  refine S_jK (fun (k2 : Bool → Option Int32) => ∀ (v1 : Bool), Sim l G 0 M_X3_byteAt (fun v : Int32 => ((.inl (some (.int v)) : Oc), h)) 26 [(0, .ref o), (1, .int p1)] [.int (bI v1)] h (k2 v1)) ?_ (fun k2 hk2 => ?_)
  · intro v1
    refine S_istore_n [(2, .int (bI v1)), (0, .ref o), (1, .int p1)] dX3_byteAt_26 rfl (Nat.le_of_ble_eq_true rfl) rfl ?_
    refine S_iload_n 0 dX3_byteAt_27 rfl rfl ?_
    refine S_if_eqB 44 dX3_byteAt_28 (by decide) (fun c5 => ?_) (fun c5 => ?_)
    · refine S_iconst (-1) dX3_byteAt_44 (by decide) ?_
      exact S_ireturn rfl rfl dX3_byteAt_45
    · refine S_aload_n 1 dX3_byteAt_31 rfl rfl ?_
      refine S_getR kc3 (k := 3) (by decide) kw_194 dX3_byteAt_32 (fun a3 _ => ?_)
      refine S_iload_n 2 dX3_byteAt_35 rfl rfl ?_
      refine S_baload dX3_byteAt_36 (fun x4 _ => ?_)
      refine S_sipush 255 dX3_byteAt_37 (by decide) ?_
      refine S_iand dX3_byteAt_40 ?_
      refine S_goto 45 dX3_byteAt_41 (by decide) ?_
      exact S_ireturn rfl rfl dX3_byteAt_45
  refine S_if_lt 25 dX3_byteAt_1 (by decide) (fun c11 => ?_) (fun c11 => ?_)
  · refine S_iconst 0 dX3_byteAt_25 (by decide) ?_
    exact Sim.sub [0, 1] rfl (hk2 false)
  · refine S_iload_n 1 dX3_byteAt_4 rfl rfl ?_
    refine S_aload_n 0 dX3_byteAt_5 rfl rfl ?_
    refine S_getI kc3 (k := 4) (by decide) kw_195 dX3_byteAt_6 (fun x6 _ => ?_)
    refine S_icmp_ge 25 dX3_byteAt_9 (by decide) (fun c10 => ?_) (fun c10 => ?_)
    · refine S_iconst 0 dX3_byteAt_25 (by decide) ?_
      exact Sim.sub [0, 1] rfl (hk2 false)
    · refine S_iload_n 1 dX3_byteAt_12 rfl rfl ?_
      refine S_aload_n 0 dX3_byteAt_13 rfl rfl ?_
      refine S_getR kc3 (k := 3) (by decide) kw_194 dX3_byteAt_14 (fun a7 _ => ?_)
      refine S_alen (t := 2) (ty := .byte) rfl dX3_byteAt_17 (fun x8 _ => ?_)
      refine S_icmp_ge 25 dX3_byteAt_18 (by decide) (fun c9 => ?_) (fun c9 => ?_)
      · refine S_iconst 0 dX3_byteAt_25 (by decide) ?_
        exact Sim.sub [0, 1] rfl (hk2 false)
      · refine S_iconst 1 dX3_byteAt_21 (by decide) ?_
        refine S_goto 26 dX3_byteAt_22 (by decide) ?_
        exact Sim.sub [0, 1] rfl (hk2 true)
theorem sm_X3_byteAt (hs : l.stackTraces = false) (o : Nat) (p1 : Int32) (h : Hp) : ∀ x, m_X3_byteAt  o p1 h = some x → SR l G 0 M_X3_byteAt [.ref o, .int p1] h (some (.int x)) h := fun x e => SR.of K_X3_byteAt hs rfl (Nat.le_of_ble_eq_true rfl) (ss_X3_byteAt hs o p1 h) e rfl
end
section
variable {l : Launch} {G : Gx}
set_option maxRecDepth 20000 in
set_option maxHeartbeats 4000000 in
theorem ss_X3_isLetter (hs : l.stackTraces = false) (p0 : Int32) (h : Hp) : Sim l G 0 M_X3_isLetter (fun v : Bool => ((.inl (some (.int (bI v))) : Oc), h)) 0 [(0, .int p0)] [] h (m_X3_isLetter  p0) := by
  rw [m_X3_isLetter]
  refine S_iload_n 0 dX3_isLetter_0 rfl rfl ?_
  refine S_bipush 97 dX3_isLetter_1 (by decide) ?_
  refine S_icmp_lt 16 dX3_isLetter_3 (by decide) (fun c2 => ?_) (fun c2 => ?_)
  · refine S_iconst 0 dX3_isLetter_16 (by decide) ?_
    exact S_zreturn (b := false) rfl rfl dX3_isLetter_17
  · refine S_iload_n 0 dX3_isLetter_6 rfl rfl ?_
    refine S_bipush 122 dX3_isLetter_7 (by decide) ?_
    refine S_icmp_gt 16 dX3_isLetter_9 (by decide) (fun c1 => ?_) (fun c1 => ?_)
    · refine S_iconst 0 dX3_isLetter_16 (by decide) ?_
      exact S_zreturn (b := false) rfl rfl dX3_isLetter_17
    · refine S_iconst 1 dX3_isLetter_12 (by decide) ?_
      refine S_goto 17 dX3_isLetter_13 (by decide) ?_
      exact S_zreturn (b := true) rfl rfl dX3_isLetter_17
theorem sm_X3_isLetter (hs : l.stackTraces = false) (p0 : Int32) (h : Hp) : ∀ x, m_X3_isLetter  p0 = some x → SR l G 0 M_X3_isLetter [.int p0] h (some (.int (bI x))) h := fun x e => SR.of K_X3_isLetter hs rfl (Nat.le_of_ble_eq_true rfl) (ss_X3_isLetter hs p0 h) e rfl
end
section
variable {l : Launch} {G : Gx}
set_option maxRecDepth 20000 in
set_option maxHeartbeats 4000000 in
theorem ss_X3_isDigit (hs : l.stackTraces = false) (p0 : Int32) (h : Hp) : Sim l G 0 M_X3_isDigit (fun v : Bool => ((.inl (some (.int (bI v))) : Oc), h)) 0 [(0, .int p0)] [] h (m_X3_isDigit  p0) := by
  rw [m_X3_isDigit]
  refine S_iload_n 0 dX3_isDigit_0 rfl rfl ?_
  refine S_bipush 48 dX3_isDigit_1 (by decide) ?_
  refine S_icmp_lt 16 dX3_isDigit_3 (by decide) (fun c2 => ?_) (fun c2 => ?_)
  · refine S_iconst 0 dX3_isDigit_16 (by decide) ?_
    exact S_zreturn (b := false) rfl rfl dX3_isDigit_17
  · refine S_iload_n 0 dX3_isDigit_6 rfl rfl ?_
    refine S_bipush 57 dX3_isDigit_7 (by decide) ?_
    refine S_icmp_gt 16 dX3_isDigit_9 (by decide) (fun c1 => ?_) (fun c1 => ?_)
    · refine S_iconst 0 dX3_isDigit_16 (by decide) ?_
      exact S_zreturn (b := false) rfl rfl dX3_isDigit_17
    · refine S_iconst 1 dX3_isDigit_12 (by decide) ?_
      refine S_goto 17 dX3_isDigit_13 (by decide) ?_
      exact S_zreturn (b := true) rfl rfl dX3_isDigit_17
theorem sm_X3_isDigit (hs : l.stackTraces = false) (p0 : Int32) (h : Hp) : ∀ x, m_X3_isDigit  p0 = some x → SR l G 0 M_X3_isDigit [.int p0] h (some (.int (bI x))) h := fun x e => SR.of K_X3_isDigit hs rfl (Nat.le_of_ble_eq_true rfl) (ss_X3_isDigit hs p0 h) e rfl
end
section
variable {l : Launch} {G : Gx}
set_option maxRecDepth 20000 in
set_option maxHeartbeats 4000000 in
theorem ss_X3_fail (hs : l.stackTraces = false) (o : Nat) (p1 : Int32) (h : Hp) : Sim l G 0 M_X3_fail (fun p : Bool × Hp => ((.inl (some (.int (bI p.1))) : Oc), p.2)) 0 [(0, .ref o), (1, .int p1)] [] h (m_X3_fail  o p1 h) := by
  rw [m_X3_fail]
  refine S_aload_n 0 dX3_fail_0 rfl rfl ?_
  refine S_iload_n 1 dX3_fail_1 rfl rfl ?_
  refine S_put kc3 (k := 5) (by decide) rfl kw_196 rfl rfl dX3_fail_2 (fun h1 _ => ?_)
  refine S_aload_n 0 dX3_fail_5 rfl rfl ?_
  refine S_aload_n 0 dX3_fail_6 rfl rfl ?_
  refine S_getI kc3 (k := 7) (by decide) kw_198 dX3_fail_7 (fun x2 _ => ?_)
  refine S_put kc3 (k := 2) (by decide) rfl kw_192 rfl rfl dX3_fail_10 (fun h3 _ => ?_)
  refine S_iconst 0 dX3_fail_13 (by decide) ?_
  exact S_zreturn (b := false) rfl rfl dX3_fail_14
theorem sm_X3_fail (hs : l.stackTraces = false) (o : Nat) (p1 : Int32) (h : Hp) : ∀ x h1, m_X3_fail  o p1 h = some (x, h1) → SR l G 0 M_X3_fail [.ref o, .int p1] h (some (.int (bI x))) h1 := fun x h1 e => SR.of K_X3_fail hs rfl (Nat.le_of_ble_eq_true rfl) (ss_X3_fail hs o p1 h) e rfl
end
section
variable {l : Launch} {G : Gx}
set_option maxRecDepth 20000 in
set_option maxHeartbeats 4000000 in
theorem ss_X4_setShift (hs : l.stackTraces = false) (p0 : Int32) (h : Hp) : Sim l G 0 M_X4_setShift (fun v : Int32 => ((.inl (some (.int v)) : Oc), h)) 0 [(0, .int p0)] [] h (m_X4_setShift  p0) := by
  rw [m_X4_setShift]
  refine S_bipush 9 dX4_setShift_0 (by decide) ?_
  refine S_iload_n 0 dX4_setShift_2 rfl rfl ?_
  refine S_iconst 1 dX4_setShift_3 (by decide) ?_
  refine S_iadd dX4_setShift_4 ?_
  refine S_imul dX4_setShift_5 ?_
  exact S_ireturn rfl rfl dX4_setShift_6
theorem sm_X4_setShift (hs : l.stackTraces = false) (p0 : Int32) (h : Hp) : ∀ x, m_X4_setShift  p0 = some x → SR l G 0 M_X4_setShift [.int p0] h (some (.int x)) h := fun x e => SR.of K_X4_setShift hs rfl (Nat.le_of_ble_eq_true rfl) (ss_X4_setShift hs p0 h) e rfl
end
section
variable {l : Launch} {G : Gx}
set_option maxRecDepth 20000 in
set_option maxHeartbeats 4000000 in
theorem ss_X5_append (hs : l.stackTraces = false) (o : Nat) (p1 : Int32) (p2 : Int32) (p3 : Int32) (p4 : Int32) (p5 : Int32) (h : Hp) : Sim l G 1 M_X5_append finX 0 [(0, .ref o), (1, .int p1), (2, .int p2), (3, .int p3), (4, .int p4), (5, .int p5)] [] h (m_X5_append  o p1 p2 p3 p4 p5 h) := by
  rw [m_X5_append]
  refine S_aload_n 0 dX5_append_0 rfl rfl ?_
  refine S_getR kc5 (k := 2) (by decide) kw_245 dX5_append_1 (fun a1 _ => ?_)
  refine S_getI kc3 (k := 1) (by decide) kw_190 dX5_append_4 (fun x2 _ => ?_)
  refine S_bipush 20 dX5_append_7 (by decide) ?_
  refine S_iadd dX5_append_9 ?_
  refine S_sipush 500 dX5_append_10 (by decide) ?_
  refine S_icmp_le 26 dX5_append_13 (by decide) (fun c15 => ?_) (fun c15 => ?_)
  · refine S_aload_n 0 dX5_append_26 rfl rfl ?_
    refine S_getR kc5 (k := 2) (by decide) kw_245 dX5_append_27 (fun a3 _ => ?_)
    refine S_iload_n 1 dX5_append_30 rfl rfl ?_
    refine S_callV_VW (lev' := 0) (My := M_X3_addFour) [.int p1] [] kc3 K_X3_addFour kw_524 kw_525 kw_526 dX5_append_31 (by decide) rfl (Nat.le_of_ble_eq_true rfl) (fun xx ee => sm_X3_addFour hs a3 p1 h xx ee) (fun h4 _ => ?_)
    refine S_aload_n 0 dX5_append_34 rfl rfl ?_
    refine S_getR kc5 (k := 2) (by decide) kw_245 dX5_append_35 (fun a5 _ => ?_)
    refine S_iload_n 2 dX5_append_38 rfl rfl ?_
    refine S_callV_VW (lev' := 0) (My := M_X3_addFour) [.int p2] [] kc3 K_X3_addFour kw_524 kw_525 kw_526 dX5_append_39 (by decide) rfl (Nat.le_of_ble_eq_true rfl) (fun xx ee => sm_X3_addFour hs a5 p2 h4 xx ee) (fun h6 _ => ?_)
    refine S_aload_n 0 dX5_append_42 rfl rfl ?_
    refine S_getR kc5 (k := 2) (by decide) kw_245 dX5_append_43 (fun a7 _ => ?_)
    refine S_iload_n 3 dX5_append_46 rfl rfl ?_
    refine S_callV_VW (lev' := 0) (My := M_X3_addFour) [.int p3] [] kc3 K_X3_addFour kw_524 kw_525 kw_526 dX5_append_47 (by decide) rfl (Nat.le_of_ble_eq_true rfl) (fun xx ee => sm_X3_addFour hs a7 p3 h6 xx ee) (fun h8 _ => ?_)
    refine S_aload_n 0 dX5_append_50 rfl rfl ?_
    refine S_getR kc5 (k := 2) (by decide) kw_245 dX5_append_51 (fun a9 _ => ?_)
    refine S_iload 4 dX5_append_54 rfl ?_
    refine S_callV_VW (lev' := 0) (My := M_X3_addFour) [.int p4] [] kc3 K_X3_addFour kw_524 kw_525 kw_526 dX5_append_56 (by decide) rfl (Nat.le_of_ble_eq_true rfl) (fun xx ee => sm_X3_addFour hs a9 p4 h8 xx ee) (fun h10 _ => ?_)
    refine S_aload_n 0 dX5_append_59 rfl rfl ?_
    refine S_getR kc5 (k := 2) (by decide) kw_245 dX5_append_60 (fun a11 _ => ?_)
    refine S_iload 5 dX5_append_63 rfl ?_
    refine S_callV_VW (lev' := 0) (My := M_X3_addFour) [.int p5] [] kc3 K_X3_addFour kw_524 kw_525 kw_526 dX5_append_65 (by decide) rfl (Nat.le_of_ble_eq_true rfl) (fun xx ee => sm_X3_addFour hs a11 p5 h10 xx ee) (fun h12 _ => ?_)
    refine S_aload_n 0 dX5_append_68 rfl rfl ?_
    refine S_getR kc5 (k := 2) (by decide) kw_245 dX5_append_69 (fun a13 _ => ?_)
    refine S_getI kc3 (k := 1) (by decide) kw_190 dX5_append_72 (fun x14 _ => ?_)
    exact S_ireturn rfl rfl dX5_append_75
  · exact S_throw0 rfl (by decide +kernel) kw_456 kn_498 kw_499 dX5_append_16 dX5_append_19 dX5_append_20 dX5_append_22 dX5_append_25
end
section
variable {l : Launch} {G : Gx}
set_option maxRecDepth 20000 in
set_option maxHeartbeats 4000000 in
theorem ss_X5_move (hs : l.stackTraces = false) (o : Nat) (p1 : Int32) (p2 : Int32) (h : Hp) : Sim l G 1 M_X5_move finX 0 [(0, .ref o), (1, .int p1), (2, .int p2)] [] h (m_X5_move  o p1 p2 h) := by
  rw [m_X5_move]
  refine S_aload_n 0 dX5_move_0 rfl rfl ?_
  refine S_getR kc5 (k := 0) (by decide) kw_243 dX5_move_1 (fun a1 _ => ?_)
  refine S_iload_n 1 dX5_move_4 rfl rfl ?_
  refine S_callV_QR (lev' := 0) (My := M_X0_moveAt) [.int p1] [] kc0 K_X0_moveAt kw_967 kw_968 kw_969 dX5_move_5 (by decide) rfl (Nat.le_of_ble_eq_true rfl) (fun xx ee => sm_X0_moveAt hs a1 p1 h xx ee) (fun q2 _ => ?_)
  refine S_qstore_n [(3, va_rf q2), (0, .ref o), (1, .int p1), (2, .int p2)] dX5_move_8 rfl (Nat.le_of_ble_eq_true rfl) (by cases q2 <;> rfl) ?_
  refine S_qload_n 0 dX5_move_9 rfl rfl ?_
  refine S_ifnonnull 23 dX5_move_10 (by decide) ?_ ?_
  · intro a3 ha3
    subst ha3
    refine S_iload_n 3 dX5_move_23 rfl rfl ?_
    refine S_sw 75 [56, 60, 65, 70] dX5_move_24 (by decide) (by decide) rfl (by decide) ?_ ⟨?_, ?_, ?_, ?_, trivial⟩
    · exact S_throwW1 rfl (by decide +kernel) kw_536 kn_972 kw_546 dX5_move_75 dX5_move_78 dX5_move_79 dX5_move_82 dX5_move_85
    · refine S_iload_n 2 dX5_move_56 rfl rfl ?_
      refine S_iconst 2 dX5_move_57 (by decide) ?_
      refine S_iremC dX5_move_58 (by decide) ?_
      exact S_ireturn rfl rfl dX5_move_59
    · refine S_aload_n 0 dX5_move_60 rfl rfl ?_
      refine S_getI kc2 (k := 1) (by decide) kw_723 dX5_move_61 (fun x4 _ => ?_)
      exact S_ireturn rfl rfl dX5_move_64
    · refine S_aload_n 0 dX5_move_65 rfl rfl ?_
      refine S_getI kc2 (k := 2) (by decide) kw_725 dX5_move_66 (fun x5 _ => ?_)
      exact S_ireturn rfl rfl dX5_move_69
    · refine S_aload_n 0 dX5_move_70 rfl rfl ?_
      refine S_getI kc2 (k := 3) (by decide) kw_728 dX5_move_71 (fun x6 _ => ?_)
      exact S_ireturn rfl rfl dX5_move_74
  · intro _
    exact S_throw2 rfl (by decide +kernel) kw_811 kn_971 kw_821 dX5_move_13 dX5_move_16 dX5_move_17 dX5_move_19 dX5_move_22
end
section
variable {l : Launch} {G : Gx}
set_option maxRecDepth 20000 in
set_option maxHeartbeats 4000000 in
theorem ss_X5_least (hs : l.stackTraces = false) (p0 : Int32) (h : Hp) : Sim l G 1 M_X5_least (fun v : Int32 => ((.inl (some (.int v)) : Oc), h)) 0 [(0, .int p0)] [] h (m_X5_least  p0) := by
  rw [m_X5_least]
  refine S_iload_n 0 dX5_least_0 rfl rfl ?_
  refine S_iload_n 0 dX5_least_1 rfl rfl ?_
  refine S_ineg dX5_least_2 ?_
  refine S_iand dX5_least_3 ?_
  refine S_iconst 1 dX5_least_4 (by decide) ?_
  refine S_isub dX5_least_5 ?_
  refine S_callS_IR (lev' := 0) (My := M_J6_bitCount) [.int ((p0 &&& (-p0)) - (1 : Int32))] [] K_J6_bitCount kw_358 kw_285 dX5_least_6 (by decide) rfl (Nat.le_of_ble_eq_true rfl) (fun xx ee => sm_J6_bitCount hs ((p0 &&& (-p0)) - (1 : Int32)) _ xx ee) (fun x1 _ => ?_)
  exact S_ireturn rfl rfl dX5_least_9
theorem sm_X5_least (hs : l.stackTraces = false) (p0 : Int32) (h : Hp) : ∀ x, m_X5_least  p0 = some x → SR l G 1 M_X5_least [.int p0] h (some (.int x)) h := fun x e => SR.of K_X5_least hs rfl (Nat.le_of_ble_eq_true rfl) (ss_X5_least hs p0 h) e rfl
end
section
variable {l : Launch} {G : Gx}
set_option maxRecDepth 20000 in
set_option maxHeartbeats 4000000 in
theorem sl_X6_keeps_L11 (hs : l.stackTraces = false) (u10 : Nat) (k11_40 : Hp → Option Hp) (hk11_40 : ∀ (h12 : Hp), Sim l G 1 M_X6_keeps (fun v : Hp => ((.inl none : Oc), v)) 40 [(0, .ref u10)] [] h12 (k11_40 h12)) : ∀ (f : Nat) (w11 : Int32) (h : Hp), Sim l G 1 M_X6_keeps (fun v : Hp => ((.inl none : Oc), v)) 11 [(0, .ref u10), (1, .int w11)] [] h (m_X6_keeps_L11 u10 k11_40 f w11 h) := by
  intro f
  induction f with
  | zero => intro w11 h; exact S_none rfl
  | succ f ih =>
    intro w11 h
    rw [m_X6_keeps_L11]
    refine S_iload_n 1 dX6_keeps_11 rfl rfl ?_
    refine S_sipush 28952 dX6_keeps_12 (by decide) ?_
    refine S_icmp_ge 40 dX6_keeps_15 (by decide) (fun c18 => ?_) (fun c18 => ?_)
    · exact Sim.sub [0] rfl (hk11_40 h)
    · refine S_aload_n 0 dX6_keeps_18 rfl rfl ?_
      refine S_getR kc6 (k := 3) (by decide) kw_1043 dX6_keeps_19 (fun a13 _ => ?_)
      refine S_iload_n 1 dX6_keeps_22 rfl rfl ?_
      refine S_aload_n 0 dX6_keeps_23 rfl rfl ?_
      refine S_getR kc6 (k := 3) (by decide) kw_1043 dX6_keeps_24 (fun a14 _ => ?_)
      refine S_iload_n 1 dX6_keeps_27 rfl rfl ?_
      refine S_sipush 4136 dX6_keeps_28 (by decide) ?_
      refine S_iadd dX6_keeps_31 ?_
      refine S_iaload dX6_keeps_32 (fun x15 _ => ?_)
      refine S_iastore dX6_keeps_33 (fun h16 _ => ?_)
      refine S_iincN (c := 1) 1 (fun x17 => [(1, .int x17), (0, .ref u10)]) dX6_keeps_34 rfl (by decide) (Nat.le_of_ble_eq_true rfl) (fun _ => rfl) (fun x17 => ?_)
      refine S_goto 11 dX6_keeps_37 (by decide) ?_
      exact Sim.sub [1, 0] rfl (ih x17 h16)
set_option maxRecDepth 20000 in
set_option maxHeartbeats 4000000 in
theorem ss_X6_keeps (hs : l.stackTraces = false) (o : Nat) (h : Hp) : Sim l G 1 M_X6_keeps (fun v : Hp => ((.inl none : Oc), v)) 0 [(0, .ref o)] [] h (m_X6_keeps  o h) := by
  rw [m_X6_keeps]
  refine S_aload_n 0 dX6_keeps_0 rfl rfl ?_
  refine S_getI kc6 (k := 6) (by decide) kw_1046 dX6_keeps_1 (fun x1 _ => ?_)
  refine S_bipush 8 dX6_keeps_4 (by decide) ?_
  refine S_jK (fun (k3 : Hp → Option Hp) => ∀ (h2 : Hp), Sim l G 1 M_X6_keeps (fun v : Hp => ((.inl none : Oc), v)) 50 [(0, .ref o)] [] h2 (k3 h2)) ?_ (fun k3 hk3 => ?_)
  · intro h2
    refine S_aload_n 0 dX6_keeps_50 rfl rfl ?_
    refine S_getR kc6 (k := 3) (by decide) kw_1043 dX6_keeps_51 (fun a4 _ => ?_)
    refine S_sipush 4136 dX6_keeps_54 (by decide) ?_
    refine S_aload_n 0 dX6_keeps_57 rfl rfl ?_
    refine S_getI kc6 (k := 6) (by decide) kw_1046 dX6_keeps_58 (fun x5 _ => ?_)
    refine S_imul dX6_keeps_61 ?_
    refine S_aload_n 0 dX6_keeps_62 rfl rfl ?_
    refine S_getR kc6 (k := 0) (by decide) kw_1040 dX6_keeps_63 (fun a6 _ => ?_)
    refine S_iconst 0 dX6_keeps_66 (by decide) ?_
    refine S_callS_VW (lev' := 0) (My := M_X6_sets) [.ref a4, .int ((4136 : Int32) * x5), .ref a6, .int 0] [] K_X6_sets kw_1116 kw_1117 dX6_keeps_67 (by decide) rfl (Nat.le_of_ble_eq_true rfl) (fun xx ee => sm_X6_sets hs a4 ((4136 : Int32) * x5) a6 (0 : Int32) h2 xx ee) (fun h7 _ => ?_)
    refine S_aload_n 0 dX6_keeps_70 rfl rfl ?_
    refine S_dup dX6_keeps_71 rfl ?_
    refine S_getI kc6 (k := 6) (by decide) kw_1046 dX6_keeps_72 (fun x8 _ => ?_)
    refine S_iconst 1 dX6_keeps_75 (by decide) ?_
    refine S_iadd dX6_keeps_76 ?_
    refine S_put kc6 (k := 6) (by decide) rfl kw_1046 rfl rfl dX6_keeps_77 (fun h9 _ => ?_)
    exact S_return rfl rfl dX6_keeps_80
  refine S_icmp_ne 50 dX6_keeps_6 (by decide) (fun c21 => ?_) (fun c21 => ?_)
  · exact Sim.sub [0] rfl (hk3 h)
  · refine S_iconst 0 dX6_keeps_9 (by decide) ?_
    refine S_istore_n [(1, .int 0), (0, .ref o)] dX6_keeps_10 rfl (Nat.le_of_ble_eq_true rfl) rfl ?_
    refine Sim.sub [1, 0] rfl (sl_X6_keeps_L11 hs o _ ?_ LF (0 : Int32) h)
    · intro h12
      refine S_aload_n 0 dX6_keeps_40 rfl rfl ?_
      refine S_dup dX6_keeps_41 rfl ?_
      refine S_getI kc6 (k := 6) (by decide) kw_1046 dX6_keeps_42 (fun x19 _ => ?_)
      refine S_iconst 1 dX6_keeps_45 (by decide) ?_
      refine S_isub dX6_keeps_46 ?_
      refine S_put kc6 (k := 6) (by decide) rfl kw_1046 rfl rfl dX6_keeps_47 (fun h20 _ => ?_)
      exact Sim.sub [0] rfl (hk3 h20)
theorem sm_X6_keeps (hs : l.stackTraces = false) (o : Nat) (h : Hp) : ∀ h1, m_X6_keeps  o h = some h1 → SR l G 1 M_X6_keeps [.ref o] h none h1 := fun h1 e => SR.of K_X6_keeps hs rfl (Nat.le_of_ble_eq_true rfl) (ss_X6_keeps hs o h) e rfl
end
section
variable {l : Launch} {G : Gx}
set_option maxRecDepth 20000 in
set_option maxHeartbeats 4000000 in
theorem ss_X6_undo (hs : l.stackTraces = false) (o : Nat) (h : Hp) : Sim l G 1 M_X6_undo (fun p : Int32 × Hp => ((.inl (some (.int p.1)) : Oc), p.2)) 0 [(0, .ref o)] [] h (m_X6_undo  o h) := by
  rw [m_X6_undo]
  refine S_aload_n 0 dX6_undo_0 rfl rfl ?_
  refine S_aload_n 0 dX6_undo_1 rfl rfl ?_
  refine S_getI kc6 (k := 6) (by decide) kw_1046 dX6_undo_2 (fun x1 _ => ?_)
  refine S_jK (fun (k3 : Bool → Option (Int32 × Hp)) => ∀ (v2 : Bool), Sim l G 1 M_X6_undo (fun p : Int32 × Hp => ((.inl (some (.int p.1)) : Oc), p.2)) 13 [(0, .ref o)] [.int (bI v2), .ref o] h (k3 v2)) ?_ (fun k3 hk3 => ?_)
  · intro v2
    refine S_put kc6 (k := 7) (by decide) rfl kw_1047 rfl rfl dX6_undo_13 (fun h4 _ => ?_)
    refine S_aload_n 0 dX6_undo_16 rfl rfl ?_
    refine S_getI kc6 (k := 7) (by decide) kw_1047 dX6_undo_17 (fun x5 _ => ?_)
    refine S_if_le 25 dX6_undo_20 (by decide) (fun c13 => ?_) (fun c13 => ?_)
    · refine S_aload_n 0 dX6_undo_25 rfl rfl ?_
      refine S_dup dX6_undo_26 rfl ?_
      refine S_getI kc6 (k := 6) (by decide) kw_1046 dX6_undo_27 (fun x6 _ => ?_)
      refine S_iconst 1 dX6_undo_30 (by decide) ?_
      refine S_isub dX6_undo_31 ?_
      refine S_put kc6 (k := 6) (by decide) rfl kw_1046 rfl rfl dX6_undo_32 (fun h7 _ => ?_)
      refine S_aload_n 0 dX6_undo_35 rfl rfl ?_
      refine S_getR kc6 (k := 0) (by decide) kw_1040 dX6_undo_36 (fun a8 _ => ?_)
      refine S_iconst 0 dX6_undo_39 (by decide) ?_
      refine S_aload_n 0 dX6_undo_40 rfl rfl ?_
      refine S_getR kc6 (k := 3) (by decide) kw_1043 dX6_undo_41 (fun a9 _ => ?_)
      refine S_sipush 4136 dX6_undo_44 (by decide) ?_
      refine S_aload_n 0 dX6_undo_47 rfl rfl ?_
      refine S_getI kc6 (k := 6) (by decide) kw_1046 dX6_undo_48 (fun x10 _ => ?_)
      refine S_imul dX6_undo_51 ?_
      refine S_callS_VW (lev' := 0) (My := M_X6_sets) [.ref a8, .int 0, .ref a9, .int ((4136 : Int32) * x10)] [] K_X6_sets kw_1116 kw_1117 dX6_undo_52 (by decide) rfl (Nat.le_of_ble_eq_true rfl) (fun xx ee => sm_X6_sets hs a8 (0 : Int32) a9 ((4136 : Int32) * x10) h7 xx ee) (fun h11 _ => ?_)
      refine S_aload_n 0 dX6_undo_55 rfl rfl ?_
      refine S_getI kc6 (k := 6) (by decide) kw_1046 dX6_undo_56 (fun x12 _ => ?_)
      exact S_ireturn rfl rfl dX6_undo_59
    · refine S_iconst 0 dX6_undo_23 (by decide) ?_
      exact S_ireturn rfl rfl dX6_undo_24
  refine S_if_ne 12 dX6_undo_5 (by decide) (fun c14 => ?_) (fun c14 => ?_)
  · refine S_iconst 0 dX6_undo_12 (by decide) ?_
    exact Sim.sub [0] rfl (hk3 false)
  · refine S_iconst 1 dX6_undo_8 (by decide) ?_
    refine S_goto 13 dX6_undo_9 (by decide) ?_
    exact Sim.sub [0] rfl (hk3 true)
theorem sm_X6_undo (hs : l.stackTraces = false) (o : Nat) (h : Hp) : ∀ x h1, m_X6_undo  o h = some (x, h1) → SR l G 1 M_X6_undo [.ref o] h (some (.int x)) h1 := fun x h1 e => SR.of K_X6_undo hs rfl (Nat.le_of_ble_eq_true rfl) (ss_X6_undo hs o h) e rfl
end
section
variable {l : Launch} {G : Gx}
set_option maxRecDepth 20000 in
set_option maxHeartbeats 4000000 in
theorem sl_X6_next_L8 (hs : l.stackTraces = false) (u3 : Nat) (k8_34 : Hp → Option Hp) (hk8_34 : ∀ (h4 : Hp), Sim l G 1 M_X6_next (fun v : Hp => ((.inl none : Oc), v)) 34 [(0, .ref u3)] [] h4 (k8_34 h4)) : ∀ (f : Nat) (h : Hp), Sim l G 1 M_X6_next (fun v : Hp => ((.inl none : Oc), v)) 8 [(0, .ref u3)] [] h (m_X6_next_L8 u3 k8_34 f h) := by
  intro f
  induction f with
  | zero => intro h; exact S_none rfl
  | succ f ih =>
    intro h
    rw [m_X6_next_L8]
    refine S_aload_n 0 dX6_next_8 rfl rfl ?_
    refine S_aload_n 0 dX6_next_9 rfl rfl ?_
    refine S_getI kc6 (k := 11) (by decide) kw_1051 dX6_next_10 (fun x5 _ => ?_)
    refine S_callV_IR (lev' := 0) (My := M_X6_see) [.int x5] [] kc6 K_X6_see kw_1134 kw_1136 kw_29 dX6_next_13 (by decide) rfl (Nat.le_of_ble_eq_true rfl) (fun xx ee => sm_X6_see hs u3 x5 h xx ee) (fun x6 _ => ?_)
    refine S_bipush 32 dX6_next_16 (by decide) ?_
    refine S_icmp_ne 34 dX6_next_18 (by decide) (fun c9 => ?_) (fun c9 => ?_)
    · exact Sim.sub [0] rfl (hk8_34 h)
    · refine S_aload_n 0 dX6_next_21 rfl rfl ?_
      refine S_dup dX6_next_22 rfl ?_
      refine S_getI kc6 (k := 11) (by decide) kw_1051 dX6_next_23 (fun x7 _ => ?_)
      refine S_iconst 1 dX6_next_26 (by decide) ?_
      refine S_iadd dX6_next_27 ?_
      refine S_put kc6 (k := 11) (by decide) rfl kw_1051 rfl rfl dX6_next_28 (fun h8 _ => ?_)
      refine S_goto 8 dX6_next_31 (by decide) ?_
      exact Sim.sub [0] rfl (ih h8)
set_option maxRecDepth 20000 in
set_option maxHeartbeats 4000000 in
theorem sl_X6_next_L141 (hs : l.stackTraces = false) (u24 : Nat) (k141_205 : Hp → Option Hp) (hk141_205 : ∀ (h25 : Hp), Sim l G 1 M_X6_next (fun v : Hp => ((.inl none : Oc), v)) 205 [(0, .ref u24)] [] h25 (k141_205 h25)) : ∀ (f : Nat) (h : Hp), Sim l G 1 M_X6_next (fun v : Hp => ((.inl none : Oc), v)) 141 [(0, .ref u24)] [] h (m_X6_next_L141 u24 k141_205 f h) := by
  intro f
  induction f with
  | zero => intro h; exact S_none rfl
  | succ f ih =>
    intro h
    rw [m_X6_next_L141]
    refine S_aload_n 0 dX6_next_141 rfl rfl ?_
    refine S_aload_n 0 dX6_next_142 rfl rfl ?_
    refine S_getI kc6 (k := 12) (by decide) kw_1052 dX6_next_143 (fun x26 _ => ?_)
    refine S_callV_IR (lev' := 0) (My := M_X6_see) [.int x26] [] kc6 K_X6_see kw_1134 kw_1136 kw_29 dX6_next_146 (by decide) rfl (Nat.le_of_ble_eq_true rfl) (fun xx ee => sm_X6_see hs u24 x26 h xx ee) (fun x27 _ => ?_)
    refine S_bipush 48 dX6_next_149 (by decide) ?_
    refine S_bipush 57 dX6_next_151 (by decide) ?_
    refine S_callS_BR (lev' := 0) (My := M_X6_isIn) [.int x27, .int 48, .int 57] [] K_X6_isIn kw_1127 kw_1128 dX6_next_153 (by decide) rfl (Nat.le_of_ble_eq_true rfl) (fun xx ee => sm_X6_isIn hs x27 (48 : Int32) (57 : Int32) _ xx ee) (fun bb28 _ => ?_)
    refine S_if_eqB 205 dX6_next_156 (by decide) (fun c39 => ?_) (fun c39 => ?_)
    · exact Sim.sub [0] rfl (hk141_205 h)
    · refine S_aload_n 0 dX6_next_159 rfl rfl ?_
      refine S_getI kc6 (k := 14) (by decide) kw_1054 dX6_next_160 (fun x29 _ => ?_)
      refine S_sipush 10000 dX6_next_163 (by decide) ?_
      refine S_jK (fun (k31 : Hp → Option Hp) => ∀ (h30 : Hp), Sim l G 1 M_X6_next (fun v : Hp => ((.inl none : Oc), v)) 192 [(0, .ref u24)] [] h30 (k31 h30)) ?_ (fun k31 hk31 => ?_)
      · intro h30
        refine S_aload_n 0 dX6_next_192 rfl rfl ?_
        refine S_dup dX6_next_193 rfl ?_
        refine S_getI kc6 (k := 12) (by decide) kw_1052 dX6_next_194 (fun x32 _ => ?_)
        refine S_iconst 1 dX6_next_197 (by decide) ?_
        refine S_iadd dX6_next_198 ?_
        refine S_put kc6 (k := 12) (by decide) rfl kw_1052 rfl rfl dX6_next_199 (fun h33 _ => ?_)
        refine S_goto 141 dX6_next_202 (by decide) ?_
        exact Sim.sub [0] rfl (ih h33)
      refine S_icmp_ge 192 dX6_next_166 (by decide) (fun c38 => ?_) (fun c38 => ?_)
      · exact Sim.sub [0] rfl (hk31 h)
      · refine S_aload_n 0 dX6_next_169 rfl rfl ?_
        refine S_bipush 10 dX6_next_170 (by decide) ?_
        refine S_aload_n 0 dX6_next_172 rfl rfl ?_
        refine S_getI kc6 (k := 14) (by decide) kw_1054 dX6_next_173 (fun x34 _ => ?_)
        refine S_imul dX6_next_176 ?_
        refine S_aload_n 0 dX6_next_177 rfl rfl ?_
        refine S_aload_n 0 dX6_next_178 rfl rfl ?_
        refine S_getI kc6 (k := 12) (by decide) kw_1052 dX6_next_179 (fun x35 _ => ?_)
        refine S_callV_IR (lev' := 0) (My := M_X6_see) [.int x35] [.int ((10 : Int32) * x34), .ref u24] kc6 K_X6_see kw_1134 kw_1136 kw_29 dX6_next_182 (by decide) rfl (Nat.le_of_ble_eq_true rfl) (fun xx ee => sm_X6_see hs u24 x35 h xx ee) (fun x36 _ => ?_)
        refine S_iadd dX6_next_185 ?_
        refine S_bipush 48 dX6_next_186 (by decide) ?_
        refine S_isub dX6_next_188 ?_
        refine S_put kc6 (k := 14) (by decide) rfl kw_1054 rfl rfl dX6_next_189 (fun h37 _ => ?_)
        exact Sim.sub [0] rfl (hk31 h37)
set_option maxRecDepth 20000 in
set_option maxHeartbeats 4000000 in
theorem sl_X6_next_L79 (hs : l.stackTraces = false) (u42 : Nat) (k79_110 : Hp → Option Hp) (hk79_110 : ∀ (h43 : Hp), Sim l G 1 M_X6_next (fun v : Hp => ((.inl none : Oc), v)) 110 [(0, .ref u42)] [] h43 (k79_110 h43)) : ∀ (f : Nat) (h : Hp), Sim l G 1 M_X6_next (fun v : Hp => ((.inl none : Oc), v)) 79 [(0, .ref u42)] [] h (m_X6_next_L79 u42 k79_110 f h) := by
  intro f
  induction f with
  | zero => intro h; exact S_none rfl
  | succ f ih =>
    intro h
    rw [m_X6_next_L79]
    refine S_aload_n 0 dX6_next_79 rfl rfl ?_
    refine S_aload_n 0 dX6_next_80 rfl rfl ?_
    refine S_getI kc6 (k := 12) (by decide) kw_1052 dX6_next_81 (fun x44 _ => ?_)
    refine S_callV_IR (lev' := 0) (My := M_X6_see) [.int x44] [] kc6 K_X6_see kw_1134 kw_1136 kw_29 dX6_next_84 (by decide) rfl (Nat.le_of_ble_eq_true rfl) (fun xx ee => sm_X6_see hs u42 x44 h xx ee) (fun x45 _ => ?_)
    refine S_bipush 97 dX6_next_87 (by decide) ?_
    refine S_bipush 122 dX6_next_89 (by decide) ?_
    refine S_callS_BR (lev' := 0) (My := M_X6_isIn) [.int x45, .int 97, .int 122] [] K_X6_isIn kw_1127 kw_1128 dX6_next_91 (by decide) rfl (Nat.le_of_ble_eq_true rfl) (fun xx ee => sm_X6_isIn hs x45 (97 : Int32) (122 : Int32) _ xx ee) (fun bb46 _ => ?_)
    refine S_if_eqB 110 dX6_next_94 (by decide) (fun c49 => ?_) (fun c49 => ?_)
    · exact Sim.sub [0] rfl (hk79_110 h)
    · refine S_aload_n 0 dX6_next_97 rfl rfl ?_
      refine S_dup dX6_next_98 rfl ?_
      refine S_getI kc6 (k := 12) (by decide) kw_1052 dX6_next_99 (fun x47 _ => ?_)
      refine S_iconst 1 dX6_next_102 (by decide) ?_
      refine S_iadd dX6_next_103 ?_
      refine S_put kc6 (k := 12) (by decide) rfl kw_1052 rfl rfl dX6_next_104 (fun h48 _ => ?_)
      refine S_goto 79 dX6_next_107 (by decide) ?_
      exact Sim.sub [0] rfl (ih h48)
set_option maxRecDepth 20000 in
set_option maxHeartbeats 4000000 in
theorem ss_X6_next (hs : l.stackTraces = false) (o : Nat) (h : Hp) : Sim l G 1 M_X6_next (fun v : Hp => ((.inl none : Oc), v)) 0 [(0, .ref o)] [] h (m_X6_next  o h) := by
  rw [m_X6_next]
  refine S_aload_n 0 dX6_next_0 rfl rfl ?_
  refine S_aload_n 0 dX6_next_1 rfl rfl ?_
  refine S_getI kc6 (k := 12) (by decide) kw_1052 dX6_next_2 (fun x1 _ => ?_)
  refine S_put kc6 (k := 11) (by decide) rfl kw_1051 rfl rfl dX6_next_5 (fun h2 _ => ?_)
  refine Sim.sub [0] rfl (sl_X6_next_L8 hs o _ ?_ LF h2)
  · intro h4
    refine S_aload_n 0 dX6_next_34 rfl rfl ?_
    refine S_aload_n 0 dX6_next_35 rfl rfl ?_
    refine S_getI kc6 (k := 11) (by decide) kw_1051 dX6_next_36 (fun x10 _ => ?_)
    refine S_put kc6 (k := 12) (by decide) rfl kw_1052 rfl rfl dX6_next_39 (fun h11 _ => ?_)
    refine S_aload_n 0 dX6_next_42 rfl rfl ?_
    refine S_getI kc6 (k := 11) (by decide) kw_1051 dX6_next_43 (fun x12 _ => ?_)
    refine S_aload_n 0 dX6_next_46 rfl rfl ?_
    refine S_getI kc6 (k := 10) (by decide) kw_1050 dX6_next_47 (fun x13 _ => ?_)
    refine S_icmp_lt 61 dX6_next_50 (by decide) (fun c53 => ?_) (fun c53 => ?_)
    · refine S_aload_n 0 dX6_next_61 rfl rfl ?_
      refine S_aload_n 0 dX6_next_62 rfl rfl ?_
      refine S_getI kc6 (k := 11) (by decide) kw_1051 dX6_next_63 (fun x14 _ => ?_)
      refine S_callV_IR (lev' := 0) (My := M_X6_see) [.int x14] [] kc6 K_X6_see kw_1134 kw_1136 kw_29 dX6_next_66 (by decide) rfl (Nat.le_of_ble_eq_true rfl) (fun xx ee => sm_X6_see hs o x14 h11 xx ee) (fun x15 _ => ?_)
      refine S_bipush 97 dX6_next_69 (by decide) ?_
      refine S_bipush 122 dX6_next_71 (by decide) ?_
      refine S_callS_BR (lev' := 0) (My := M_X6_isIn) [.int x15, .int 97, .int 122] [] K_X6_isIn kw_1127 kw_1128 dX6_next_73 (by decide) rfl (Nat.le_of_ble_eq_true rfl) (fun xx ee => sm_X6_isIn hs x15 (97 : Int32) (122 : Int32) _ xx ee) (fun bb16 _ => ?_)
      refine S_if_eqB 118 dX6_next_76 (by decide) (fun c51 => ?_) (fun c51 => ?_)
      · refine S_aload_n 0 dX6_next_118 rfl rfl ?_
        refine S_aload_n 0 dX6_next_119 rfl rfl ?_
        refine S_getI kc6 (k := 11) (by decide) kw_1051 dX6_next_120 (fun x17 _ => ?_)
        refine S_callV_IR (lev' := 0) (My := M_X6_see) [.int x17] [] kc6 K_X6_see kw_1134 kw_1136 kw_29 dX6_next_123 (by decide) rfl (Nat.le_of_ble_eq_true rfl) (fun xx ee => sm_X6_see hs o x17 h11 xx ee) (fun x18 _ => ?_)
        refine S_bipush 48 dX6_next_126 (by decide) ?_
        refine S_bipush 57 dX6_next_128 (by decide) ?_
        refine S_callS_BR (lev' := 0) (My := M_X6_isIn) [.int x18, .int 48, .int 57] [] K_X6_isIn kw_1127 kw_1128 dX6_next_130 (by decide) rfl (Nat.le_of_ble_eq_true rfl) (fun xx ee => sm_X6_isIn hs x18 (48 : Int32) (57 : Int32) _ xx ee) (fun bb19 _ => ?_)
        refine S_if_eqB 213 dX6_next_133 (by decide) (fun c41 => ?_) (fun c41 => ?_)
        · refine S_aload_n 0 dX6_next_213 rfl rfl ?_
          refine S_dup dX6_next_214 rfl ?_
          refine S_getI kc6 (k := 12) (by decide) kw_1052 dX6_next_215 (fun x20 _ => ?_)
          refine S_iconst 1 dX6_next_218 (by decide) ?_
          refine S_iadd dX6_next_219 ?_
          refine S_put kc6 (k := 12) (by decide) rfl kw_1052 rfl rfl dX6_next_220 (fun h21 _ => ?_)
          refine S_aload_n 0 dX6_next_223 rfl rfl ?_
          refine S_iconst 2 dX6_next_224 (by decide) ?_
          refine S_put kc6 (k := 13) (by decide) rfl kw_1053 rfl rfl dX6_next_225 (fun h22 _ => ?_)
          exact S_return rfl rfl dX6_next_228
        · refine S_aload_n 0 dX6_next_136 rfl rfl ?_
          refine S_iconst 0 dX6_next_137 (by decide) ?_
          refine S_put kc6 (k := 14) (by decide) rfl kw_1054 rfl rfl dX6_next_138 (fun h23 _ => ?_)
          refine Sim.sub [0] rfl (sl_X6_next_L141 hs o _ ?_ LF h23)
          · intro h25
            refine S_aload_n 0 dX6_next_205 rfl rfl ?_
            refine S_iconst 1 dX6_next_206 (by decide) ?_
            refine S_put kc6 (k := 13) (by decide) rfl kw_1053 rfl rfl dX6_next_207 (fun h40 _ => ?_)
            refine S_goto 228 dX6_next_210 (by decide) ?_
            exact S_return rfl rfl dX6_next_228
      · refine Sim.sub [0] rfl (sl_X6_next_L79 hs o _ ?_ LF h11)
        · intro h43
          refine S_aload_n 0 dX6_next_110 rfl rfl ?_
          refine S_iconst 0 dX6_next_111 (by decide) ?_
          refine S_put kc6 (k := 13) (by decide) rfl kw_1053 rfl rfl dX6_next_112 (fun h50 _ => ?_)
          refine S_goto 228 dX6_next_115 (by decide) ?_
          exact S_return rfl rfl dX6_next_228
    · refine S_aload_n 0 dX6_next_53 rfl rfl ?_
      refine S_iconst 3 dX6_next_54 (by decide) ?_
      refine S_put kc6 (k := 13) (by decide) rfl kw_1053 rfl rfl dX6_next_55 (fun h52 _ => ?_)
      refine S_goto 228 dX6_next_58 (by decide) ?_
      exact S_return rfl rfl dX6_next_228
theorem sm_X6_next (hs : l.stackTraces = false) (o : Nat) (h : Hp) : ∀ h1, m_X6_next  o h = some h1 → SR l G 1 M_X6_next [.ref o] h none h1 := fun h1 e => SR.of K_X6_next hs rfl (Nat.le_of_ble_eq_true rfl) (ss_X6_next hs o h) e rfl
end
section
variable {l : Launch} {G : Gx}
set_option maxRecDepth 20000 in
set_option maxHeartbeats 4000000 in
theorem sl_X6_freeSet_L4 (hs : l.stackTraces = false) (u1 : Nat) (h : Hp) (k4_38 : Int32 → Option Int32) (hk4_38 : ∀ (v4 : Int32), Sim l G 1 M_X6_freeSet (fun v : Int32 => ((.inl (some (.int v)) : Oc), h)) 38 [(1, .int v4)] [] h (k4_38 v4)) : ∀ (f : Nat) (w2 : Int32) (w3 : Int32), Sim l G 1 M_X6_freeSet (fun v : Int32 => ((.inl (some (.int v)) : Oc), h)) 4 [(0, .ref u1), (1, .int w2), (2, .int w3)] [] h (m_X6_freeSet_L4 u1 h k4_38 f w2 w3) := by
  intro f
  induction f with
  | zero => intro w2 w3; exact S_none rfl
  | succ f ih =>
    intro w2 w3
    rw [m_X6_freeSet_L4]
    refine S_iload_n 2 dX6_freeSet_4 rfl rfl ?_
    refine S_aload_n 0 dX6_freeSet_5 rfl rfl ?_
    refine S_getR kc6 (k := 0) (by decide) kw_1040 dX6_freeSet_6 (fun a5 _ => ?_)
    refine S_iconst 0 dX6_freeSet_9 (by decide) ?_
    refine S_iaload dX6_freeSet_10 (fun x6 _ => ?_)
    refine S_icmp_ge 38 dX6_freeSet_11 (by decide) (fun c13 => ?_) (fun c13 => ?_)
    · exact Sim.sub [1] rfl (hk4_38 w2)
    · refine S_iload_n 1 dX6_freeSet_14 rfl rfl ?_
      refine S_aload_n 0 dX6_freeSet_15 rfl rfl ?_
      refine S_iload_n 2 dX6_freeSet_16 rfl rfl ?_
      refine S_callV_BR (lev' := 0) (My := M_X6_isFree) [.int w3] [.int w2] kc6 K_X6_isFree kw_1198 kw_1200 kw_43 dX6_freeSet_17 (by decide) rfl (Nat.le_of_ble_eq_true rfl) (fun xx ee => sm_X6_isFree hs u1 w3 h xx ee) (fun bb7 _ => ?_)
      refine S_jK (fun (k9 : Int32 → Option Int32) => ∀ (v8 : Int32), Sim l G 1 M_X6_freeSet (fun v : Int32 => ((.inl (some (.int v)) : Oc), h)) 30 [(0, .ref u1), (2, .int w3)] [.int v8, .int w2] h (k9 v8)) ?_ (fun k9 hk9 => ?_)
      · intro v8
        refine S_ior dX6_freeSet_30 ?_
        refine S_nmI (fun x10 => ?_)
        refine S_istore_n [(1, .int x10), (0, .ref u1), (2, .int w3)] dX6_freeSet_31 rfl (Nat.le_of_ble_eq_true rfl) rfl ?_
        refine S_iincN (c := 1) 2 (fun x11 => [(2, .int x11), (1, .int x10), (0, .ref u1)]) dX6_freeSet_32 rfl (by decide) (Nat.le_of_ble_eq_true rfl) (fun _ => rfl) (fun x11 => ?_)
        refine S_goto 4 dX6_freeSet_35 (by decide) ?_
        exact Sim.sub [2, 1, 0] rfl (ih x10 x11)
      refine S_if_eqB 29 dX6_freeSet_20 (by decide) (fun c12 => ?_) (fun c12 => ?_)
      · refine S_iconst 0 dX6_freeSet_29 (by decide) ?_
        exact Sim.sub [0, 2] rfl (hk9 (0 : Int32))
      · refine S_iconst 1 dX6_freeSet_23 (by decide) ?_
        refine S_iload_n 2 dX6_freeSet_24 rfl rfl ?_
        refine S_ishl dX6_freeSet_25 ?_
        refine S_goto 30 dX6_freeSet_26 (by decide) ?_
        exact Sim.sub [0, 2] rfl (hk9 ((1 : Int32) <<< (w3 &&& 31)))
set_option maxRecDepth 20000 in
set_option maxHeartbeats 4000000 in
theorem ss_X6_freeSet (hs : l.stackTraces = false) (o : Nat) (h : Hp) : Sim l G 1 M_X6_freeSet (fun v : Int32 => ((.inl (some (.int v)) : Oc), h)) 0 [(0, .ref o)] [] h (m_X6_freeSet  o h) := by
  rw [m_X6_freeSet]
  refine S_iconst 0 dX6_freeSet_0 (by decide) ?_
  refine S_istore_n [(1, .int 0), (0, .ref o)] dX6_freeSet_1 rfl (Nat.le_of_ble_eq_true rfl) rfl ?_
  refine S_iconst 0 dX6_freeSet_2 (by decide) ?_
  refine S_istore_n [(2, .int 0), (1, .int 0), (0, .ref o)] dX6_freeSet_3 rfl (Nat.le_of_ble_eq_true rfl) rfl ?_
  refine Sim.sub [2, 1, 0] rfl (sl_X6_freeSet_L4 hs o h _ ?_ LF (0 : Int32) (0 : Int32))
  · intro v4
    refine S_iload_n 0 dX6_freeSet_38 rfl rfl ?_
    exact S_ireturn rfl rfl dX6_freeSet_39
theorem sm_X6_freeSet (hs : l.stackTraces = false) (o : Nat) (h : Hp) : ∀ x, m_X6_freeSet  o h = some x → SR l G 1 M_X6_freeSet [.ref o] h (some (.int x)) h := fun x e => SR.of K_X6_freeSet hs rfl (Nat.le_of_ble_eq_true rfl) (ss_X6_freeSet hs o h) e rfl
end
section
variable {l : Launch} {G : Gx}
set_option maxRecDepth 20000 in
set_option maxHeartbeats 4000000 in
theorem sl_X6_partsIn_L4 (hs : l.stackTraces = false) (u1 : Nat) (u2 : Int32) (h : Hp) (k4_28 : Int32 → Option Int32) (hk4_28 : ∀ (v5 : Int32), Sim l G 1 M_X6_partsIn (fun v : Int32 => ((.inl (some (.int v)) : Oc), h)) 28 [(2, .int v5)] [] h (k4_28 v5)) : ∀ (f : Nat) (w3 : Int32) (w4 : Int32), Sim l G 1 M_X6_partsIn (fun v : Int32 => ((.inl (some (.int v)) : Oc), h)) 4 [(0, .ref u1), (1, .int u2), (2, .int w3), (3, .int w4)] [] h (m_X6_partsIn_L4 u1 u2 h k4_28 f w3 w4) := by
  intro f
  induction f with
  | zero => intro w3 w4; exact S_none rfl
  | succ f ih =>
    intro w3 w4
    rw [m_X6_partsIn_L4]
    refine S_iload_n 3 dX6_partsIn_4 rfl rfl ?_
    refine S_if_le 28 dX6_partsIn_5 (by decide) (fun c10 => ?_) (fun c10 => ?_)
    · exact Sim.sub [2] rfl (hk4_28 w3)
    · refine S_iincN (c := 1) 2 (fun x6 => [(2, .int x6), (0, .ref u1), (1, .int u2), (3, .int w4)]) dX6_partsIn_8 rfl (by decide) (Nat.le_of_ble_eq_true rfl) (fun _ => rfl) (fun x6 => ?_)
      refine S_iload_n 3 dX6_partsIn_11 rfl rfl ?_
      refine S_aload_n 1 dX6_partsIn_12 rfl rfl ?_
      refine S_iload_n 3 dX6_partsIn_13 rfl rfl ?_
      refine S_callS_IR (lev' := 0) (My := M_X6_lowest) [.int w4] [.ref u1, .int w4] K_X6_lowest kw_1241 kw_1242 dX6_partsIn_14 (by decide) rfl (Nat.le_of_ble_eq_true rfl) (fun xx ee => sm_X6_lowest hs w4 _ xx ee) (fun x7 _ => ?_)
      refine S_iload_n 2 dX6_partsIn_17 rfl rfl ?_
      refine S_callV_IR (lev' := 0) (My := M_X6_reached) [.int x7, .int u2] [.int w4] kc6 K_X6_reached kw_1218 kw_1220 kw_48 dX6_partsIn_18 (by decide) rfl (Nat.le_of_ble_eq_true rfl) (fun xx ee => sm_X6_reached hs u1 x7 u2 h xx ee) (fun x8 _ => ?_)
      refine S_iconst (-1) dX6_partsIn_21 (by decide) ?_
      refine S_ixor dX6_partsIn_22 ?_
      refine S_iand dX6_partsIn_23 ?_
      refine S_nmI (fun x9 => ?_)
      refine S_istore_n [(3, .int x9), (2, .int x6), (0, .ref u1), (1, .int u2)] dX6_partsIn_24 rfl (Nat.le_of_ble_eq_true rfl) rfl ?_
      refine S_goto 4 dX6_partsIn_25 (by decide) ?_
      exact Sim.sub [2, 3, 1, 0] rfl (ih x6 x9)
set_option maxRecDepth 20000 in
set_option maxHeartbeats 4000000 in
theorem ss_X6_partsIn (hs : l.stackTraces = false) (o : Nat) (p1 : Int32) (h : Hp) : Sim l G 1 M_X6_partsIn (fun v : Int32 => ((.inl (some (.int v)) : Oc), h)) 0 [(0, .ref o), (1, .int p1)] [] h (m_X6_partsIn  o p1 h) := by
  rw [m_X6_partsIn]
  refine S_iconst 0 dX6_partsIn_0 (by decide) ?_
  refine S_istore_n [(2, .int 0), (0, .ref o), (1, .int p1)] dX6_partsIn_1 rfl (Nat.le_of_ble_eq_true rfl) rfl ?_
  refine S_iload_n 2 dX6_partsIn_2 rfl rfl ?_
  refine S_istore_n [(3, .int p1), (2, .int 0), (0, .ref o), (1, .int p1)] dX6_partsIn_3 rfl (Nat.le_of_ble_eq_true rfl) rfl ?_
  refine Sim.sub [2, 3, 1, 0] rfl (sl_X6_partsIn_L4 hs o p1 h _ ?_ LF (0 : Int32) p1)
  · intro v5
    refine S_iload_n 0 dX6_partsIn_28 rfl rfl ?_
    exact S_ireturn rfl rfl dX6_partsIn_29
theorem sm_X6_partsIn (hs : l.stackTraces = false) (o : Nat) (p1 : Int32) (h : Hp) : ∀ x, m_X6_partsIn  o p1 h = some x → SR l G 1 M_X6_partsIn [.ref o, .int p1] h (some (.int x)) h := fun x e => SR.of K_X6_partsIn hs rfl (Nat.le_of_ble_eq_true rfl) (ss_X6_partsIn hs o p1 h) e rfl
end
