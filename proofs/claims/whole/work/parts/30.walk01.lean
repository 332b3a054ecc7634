/-! printed by wip/whole/emit.py: walks -/
section
variable {l : Launch} {G : Gx}
set_option maxRecDepth 20000 in
set_option maxHeartbeats 4000000 in
theorem ss_X6_errorPosition (hs : l.stackTraces = false) (o : Nat) (h : Hp) : Sim l G 0 M_X6_errorPosition (fun p : Int32 × Hp => ((.inl (some (.int p.1)) : Oc), p.2)) 0 [(0, .ref o)] [] h (m_X6_errorPosition  o h) := by
  rw [m_X6_errorPosition]
  refine S_aload_n 0 dX6_errorPosition_0 rfl rfl ?_
  refine S_iconst 0 dX6_errorPosition_1 (by decide) ?_
  refine S_put kc6 (k := 7) (by decide) rfl kw_1047 rfl rfl dX6_errorPosition_2 (fun h1 _ => ?_)
  refine S_aload_n 0 dX6_errorPosition_5 rfl rfl ?_
  refine S_getI kc6 (k := 17) (by decide) kw_1057 dX6_errorPosition_6 (fun x2 _ => ?_)
  exact S_ireturn rfl rfl dX6_errorPosition_9
theorem sm_X6_errorPosition (hs : l.stackTraces = false) (o : Nat) (h : Hp) : ∀ x h1, m_X6_errorPosition  o h = some (x, h1) → SR l G 0 M_X6_errorPosition [.ref o] h (some (.int x)) h1 := fun x h1 e => SR.of K_X6_errorPosition hs rfl (Nat.le_of_ble_eq_true rfl) (ss_X6_errorPosition hs o h) e rfl
end
section
variable {l : Launch} {G : Gx}
set_option maxRecDepth 20000 in
set_option maxHeartbeats 4000000 in
theorem ss_X6_areNext (hs : l.stackTraces = false) (o : Nat) (p1 : Int32) (p2 : Int32) (h : Hp) : Sim l G 0 M_X6_areNext (fun v : Bool => ((.inl (some (.int (bI v))) : Oc), h)) 0 [(0, .ref o), (1, .int p1), (2, .int p2)] [] h (m_X6_areNext  o p1 p2 h) := by
  rw [m_X6_areNext]
  refine S_aload_n 0 dX6_areNext_0 rfl rfl ?_
  refine S_getR kc6 (k := 0) (by decide) kw_1040 dX6_areNext_1 (fun a1 _ => ?_)
  refine S_bipush 13 dX6_areNext_4 (by decide) ?_
  refine S_iload_n 1 dX6_areNext_6 rfl rfl ?_
  refine S_iadd dX6_areNext_7 ?_
  refine S_iaload dX6_areNext_8 (fun x2 _ => ?_)
  refine S_iload_n 2 dX6_areNext_9 rfl rfl ?_
  refine S_ishr dX6_areNext_10 ?_
  refine S_iconst 1 dX6_areNext_11 (by decide) ?_
  refine S_iand dX6_areNext_12 ?_
  refine S_iconst 1 dX6_areNext_13 (by decide) ?_
  refine S_icmp_ne 21 dX6_areNext_14 (by decide) (fun c3 => ?_) (fun c3 => ?_)
  · refine S_iconst 0 dX6_areNext_21 (by decide) ?_
    exact S_zreturn (b := false) rfl rfl dX6_areNext_22
  · refine S_iconst 1 dX6_areNext_17 (by decide) ?_
    refine S_goto 22 dX6_areNext_18 (by decide) ?_
    exact S_zreturn (b := true) rfl rfl dX6_areNext_22
theorem sm_X6_areNext (hs : l.stackTraces = false) (o : Nat) (p1 : Int32) (p2 : Int32) (h : Hp) : ∀ x, m_X6_areNext  o p1 p2 h = some x → SR l G 0 M_X6_areNext [.ref o, .int p1, .int p2] h (some (.int (bI x))) h := fun x e => SR.of K_X6_areNext hs rfl (Nat.le_of_ble_eq_true rfl) (ss_X6_areNext hs o p1 p2 h) e rfl
end
section
variable {l : Launch} {G : Gx}
set_option maxRecDepth 20000 in
set_option maxHeartbeats 4000000 in
theorem ss_X6_colourOf (hs : l.stackTraces = false) (o : Nat) (p1 : Int32) (h : Hp) : Sim l G 0 M_X6_colourOf (fun v : Int32 => ((.inl (some (.int v)) : Oc), h)) 0 [(0, .ref o), (1, .int p1)] [] h (m_X6_colourOf  o p1 h) := by
  rw [m_X6_colourOf]
  refine S_aload_n 0 dX6_colourOf_0 rfl rfl ?_
  refine S_getR kc6 (k := 0) (by decide) kw_1040 dX6_colourOf_1 (fun a1 _ => ?_)
  refine S_bipush 22 dX6_colourOf_4 (by decide) ?_
  refine S_iload_n 1 dX6_colourOf_6 rfl rfl ?_
  refine S_iadd dX6_colourOf_7 ?_
  refine S_iaload dX6_colourOf_8 (fun x2 _ => ?_)
  refine S_iconst 1 dX6_colourOf_9 (by decide) ?_
  refine S_isub dX6_colourOf_10 ?_
  exact S_ireturn rfl rfl dX6_colourOf_11
theorem sm_X6_colourOf (hs : l.stackTraces = false) (o : Nat) (p1 : Int32) (h : Hp) : ∀ x, m_X6_colourOf  o p1 h = some x → SR l G 0 M_X6_colourOf [.ref o, .int p1] h (some (.int x)) h := fun x e => SR.of K_X6_colourOf hs rfl (Nat.le_of_ble_eq_true rfl) (ss_X6_colourOf hs o p1 h) e rfl
end
section
variable {l : Launch} {G : Gx}
set_option maxRecDepth 20000 in
set_option maxHeartbeats 4000000 in
theorem ss_X6_isFree (hs : l.stackTraces = false) (o : Nat) (p1 : Int32) (h : Hp) : Sim l G 0 M_X6_isFree (fun v : Bool => ((.inl (some (.int (bI v))) : Oc), h)) 0 [(0, .ref o), (1, .int p1)] [] h (m_X6_isFree  o p1 h) := by
  rw [m_X6_isFree]
  refine S_aload_n 0 dX6_isFree_0 rfl rfl ?_
  refine S_getR kc6 (k := 0) (by decide) kw_1040 dX6_isFree_1 (fun a1 _ => ?_)
  refine S_bipush 22 dX6_isFree_4 (by decide) ?_
  refine S_iload_n 1 dX6_isFree_6 rfl rfl ?_
  refine S_iadd dX6_isFree_7 ?_
  refine S_iaload dX6_isFree_8 (fun x2 _ => ?_)
  refine S_if_ne 16 dX6_isFree_9 (by decide) (fun c3 => ?_) (fun c3 => ?_)
  · refine S_iconst 0 dX6_isFree_16 (by decide) ?_
    exact S_zreturn (b := false) rfl rfl dX6_isFree_17
  · refine S_iconst 1 dX6_isFree_12 (by decide) ?_
    refine S_goto 17 dX6_isFree_13 (by decide) ?_
    exact S_zreturn (b := true) rfl rfl dX6_isFree_17
theorem sm_X6_isFree (hs : l.stackTraces = false) (o : Nat) (p1 : Int32) (h : Hp) : ∀ x, m_X6_isFree  o p1 h = some x → SR l G 0 M_X6_isFree [.ref o, .int p1] h (some (.int (bI x))) h := fun x e => SR.of K_X6_isFree hs rfl (Nat.le_of_ble_eq_true rfl) (ss_X6_isFree hs o p1 h) e rfl
end
section
variable {l : Launch} {G : Gx}
set_option maxRecDepth 20000 in
set_option maxHeartbeats 4000000 in
theorem sl_X6_bits_L4 (hs : l.stackTraces = false)  (h : Hp) (k4_20 : Int32 → Option Int32) (hk4_20 : ∀ (v3 : Int32), Sim l G 0 M_X6_bits (fun v : Int32 => ((.inl (some (.int v)) : Oc), h)) 20 [(1, .int v3)] [] h (k4_20 v3)) : ∀ (f : Nat) (w1 : Int32) (w2 : Int32), Sim l G 0 M_X6_bits (fun v : Int32 => ((.inl (some (.int v)) : Oc), h)) 4 [(1, .int w1), (2, .int w2)] [] h (m_X6_bits_L4 k4_20 f w1 w2) := by
  intro f
  induction f with
  | zero => intro w1 w2; exact S_none rfl
  | succ f ih =>
    intro w1 w2
    rw [m_X6_bits_L4]
    refine S_iload_n 1 dX6_bits_4 rfl rfl ?_
    refine S_if_le 20 dX6_bits_5 (by decide) (fun c6 => ?_) (fun c6 => ?_)
    · exact Sim.sub [0] rfl (hk4_20 w1)
    · refine S_iincN (c := 1) 0 (fun x4 => [(1, .int x4), (2, .int w2)]) dX6_bits_8 rfl (by decide) (Nat.le_of_ble_eq_true rfl) (fun _ => rfl) (fun x4 => ?_)
      refine S_iload_n 1 dX6_bits_11 rfl rfl ?_
      refine S_iload_n 1 dX6_bits_12 rfl rfl ?_
      refine S_iconst 1 dX6_bits_13 (by decide) ?_
      refine S_isub dX6_bits_14 ?_
      refine S_iand dX6_bits_15 ?_
      refine S_nmI (fun x5 => ?_)
      refine S_istore_n [(2, .int x5), (1, .int x4)] dX6_bits_16 rfl (Nat.le_of_ble_eq_true rfl) rfl ?_
      refine S_goto 4 dX6_bits_17 (by decide) ?_
      exact Sim.sub [1, 0] rfl (ih x4 x5)
set_option maxRecDepth 20000 in
set_option maxHeartbeats 4000000 in
theorem ss_X6_bits (hs : l.stackTraces = false) (p0 : Int32) (h : Hp) : Sim l G 0 M_X6_bits (fun v : Int32 => ((.inl (some (.int v)) : Oc), h)) 0 [(0, .int p0)] [] h (m_X6_bits  p0) := by
  rw [m_X6_bits]
  refine S_iconst 0 dX6_bits_0 (by decide) ?_
  refine S_istore_n [(1, .int 0), (0, .int p0)] dX6_bits_1 rfl (Nat.le_of_ble_eq_true rfl) rfl ?_
  refine S_iload_n 1 dX6_bits_2 rfl rfl ?_
  refine S_istore_n [(2, .int p0), (1, .int 0), (0, .int p0)] dX6_bits_3 rfl (Nat.le_of_ble_eq_true rfl) rfl ?_
  refine Sim.sub [1, 0] rfl (sl_X6_bits_L4 hs  h _ ?_ LF (0 : Int32) p0)
  · intro v3
    refine S_iload_n 0 dX6_bits_20 rfl rfl ?_
    exact S_ireturn rfl rfl dX6_bits_21
theorem sm_X6_bits (hs : l.stackTraces = false) (p0 : Int32) (h : Hp) : ∀ x, m_X6_bits  p0 = some x → SR l G 0 M_X6_bits [.int p0] h (some (.int x)) h := fun x e => SR.of K_X6_bits hs rfl (Nat.le_of_ble_eq_true rfl) (ss_X6_bits hs p0 h) e rfl
end
section
variable {l : Launch} {G : Gx}
set_option maxRecDepth 20000 in
set_option maxHeartbeats 4000000 in
theorem sl_X6_lowest_L2 (hs : l.stackTraces = false) (u1 : Int32) (h : Hp) (k2_16 : Int32 → Option Int32) (hk2_16 : ∀ (v3 : Int32), Sim l G 0 M_X6_lowest (fun v : Int32 => ((.inl (some (.int v)) : Oc), h)) 16 [(1, .int v3)] [] h (k2_16 v3)) : ∀ (f : Nat) (w2 : Int32), Sim l G 0 M_X6_lowest (fun v : Int32 => ((.inl (some (.int v)) : Oc), h)) 2 [(0, .int u1), (1, .int w2)] [] h (m_X6_lowest_L2 u1 k2_16 f w2) := by
  intro f
  induction f with
  | zero => intro w2; exact S_none rfl
  | succ f ih =>
    intro w2
    rw [m_X6_lowest_L2]
    refine S_iload_n 0 dX6_lowest_2 rfl rfl ?_
    refine S_iload_n 1 dX6_lowest_3 rfl rfl ?_
    refine S_ishr dX6_lowest_4 ?_
    refine S_iconst 1 dX6_lowest_5 (by decide) ?_
    refine S_iand dX6_lowest_6 ?_
    refine S_if_ne 16 dX6_lowest_7 (by decide) (fun c5 => ?_) (fun c5 => ?_)
    · exact Sim.sub [1] rfl (hk2_16 w2)
    · refine S_iincN (c := 1) 1 (fun x4 => [(1, .int x4), (0, .int u1)]) dX6_lowest_10 rfl (by decide) (Nat.le_of_ble_eq_true rfl) (fun _ => rfl) (fun x4 => ?_)
      refine S_goto 2 dX6_lowest_13 (by decide) ?_
      exact Sim.sub [1, 0] rfl (ih x4)
set_option maxRecDepth 20000 in
set_option maxHeartbeats 4000000 in
theorem ss_X6_lowest (hs : l.stackTraces = false) (p0 : Int32) (h : Hp) : Sim l G 0 M_X6_lowest (fun v : Int32 => ((.inl (some (.int v)) : Oc), h)) 0 [(0, .int p0)] [] h (m_X6_lowest  p0) := by
  rw [m_X6_lowest]
  refine S_iconst 0 dX6_lowest_0 (by decide) ?_
  refine S_istore_n [(1, .int 0), (0, .int p0)] dX6_lowest_1 rfl (Nat.le_of_ble_eq_true rfl) rfl ?_
  refine Sim.sub [1, 0] rfl (sl_X6_lowest_L2 hs p0 h _ ?_ LF (0 : Int32))
  · intro v3
    refine S_iload_n 0 dX6_lowest_16 rfl rfl ?_
    exact S_ireturn rfl rfl dX6_lowest_17
theorem sm_X6_lowest (hs : l.stackTraces = false) (p0 : Int32) (h : Hp) : ∀ x, m_X6_lowest  p0 = some x → SR l G 0 M_X6_lowest [.int p0] h (some (.int x)) h := fun x e => SR.of K_X6_lowest hs rfl (Nat.le_of_ble_eq_true rfl) (ss_X6_lowest hs p0 h) e rfl
end
section
variable {l : Launch} {G : Gx}
set_option maxRecDepth 20000 in
set_option maxHeartbeats 4000000 in
theorem sl_X6_reached_L19 (hs : l.stackTraces = false) (u7 : Nat) (u8 : Int32) (u10 : Int32) (h : Hp) (k19_66 : Int32 → Option Int32) (hk19_66 : ∀ (v12 : Int32), Sim l G 0 M_X6_reached (fun v : Int32 => ((.inl (some (.int v)) : Oc), h)) 66 [(0, .ref u7), (2, .int u8), (3, .int v12), (4, .int u10)] [] h (k19_66 v12)) : ∀ (f : Nat) (w9 : Int32) (w11 : Int32), Sim l G 0 M_X6_reached (fun v : Int32 => ((.inl (some (.int v)) : Oc), h)) 19 [(0, .ref u7), (2, .int u8), (3, .int w9), (4, .int u10), (5, .int w11)] [] h (m_X6_reached_L19 u7 u8 u10 h k19_66 f w9 w11) := by
  intro f
  induction f with
  | zero => intro w9 w11; exact S_none rfl
  | succ f ih =>
    intro w9 w11
    rw [m_X6_reached_L19]
    refine S_iload 4 dX6_reached_19 rfl ?_
    refine S_aload_n 0 dX6_reached_21 rfl rfl ?_
    refine S_getR kc6 (k := 0) (by decide) kw_1040 dX6_reached_22 (fun a13 _ => ?_)
    refine S_iconst 0 dX6_reached_25 (by decide) ?_
    refine S_iaload dX6_reached_26 (fun x14 _ => ?_)
    refine S_icmp_ge 66 dX6_reached_27 (by decide) (fun c22 => ?_) (fun c22 => ?_)
    · exact Sim.sub [0, 1, 2, 3] rfl (hk19_66 w9)
    · refine S_iload_n 2 dX6_reached_30 rfl rfl ?_
      refine S_iload 3 dX6_reached_31 rfl ?_
      refine S_iload 4 dX6_reached_33 rfl ?_
      refine S_ishr dX6_reached_35 ?_
      refine S_iconst 1 dX6_reached_36 (by decide) ?_
      refine S_iand dX6_reached_37 ?_
      refine S_iconst 1 dX6_reached_38 (by decide) ?_
      refine S_jK (fun (k16 : Int32 → Option Int32) => ∀ (v15 : Int32), Sim l G 0 M_X6_reached (fun v : Int32 => ((.inl (some (.int v)) : Oc), h)) 58 [(0, .ref u7), (2, .int u8), (4, .int u10), (5, .int w11)] [.int v15, .int w9] h (k16 v15)) ?_ (fun k16 hk16 => ?_)
      · intro v15
        refine S_ior dX6_reached_58 ?_
        refine S_nmI (fun x17 => ?_)
        refine S_istore_n [(3, .int x17), (0, .ref u7), (2, .int u8), (4, .int u10), (5, .int w11)] dX6_reached_59 rfl (Nat.le_of_ble_eq_true rfl) rfl ?_
        refine S_iincN (c := 1) 4 (fun x18 => [(5, .int x18), (3, .int x17), (0, .ref u7), (2, .int u8), (4, .int u10)]) dX6_reached_60 rfl (by decide) (Nat.le_of_ble_eq_true rfl) (fun _ => rfl) (fun x18 => ?_)
        refine S_goto 19 dX6_reached_63 (by decide) ?_
        exact Sim.sub [2, 3, 1, 4, 0] rfl (ih x17 x18)
      refine S_icmp_ne 57 dX6_reached_39 (by decide) (fun c21 => ?_) (fun c21 => ?_)
      · refine S_iconst 0 dX6_reached_57 (by decide) ?_
        exact Sim.sub [0, 1, 3, 4] rfl (hk16 (0 : Int32))
      · refine S_aload_n 0 dX6_reached_42 rfl rfl ?_
        refine S_getR kc6 (k := 0) (by decide) kw_1040 dX6_reached_43 (fun a19 _ => ?_)
        refine S_bipush 13 dX6_reached_46 (by decide) ?_
        refine S_iload 4 dX6_reached_48 rfl ?_
        refine S_iadd dX6_reached_50 ?_
        refine S_iaload dX6_reached_51 (fun x20 _ => ?_)
        refine S_iload_n 1 dX6_reached_52 rfl rfl ?_
        refine S_iand dX6_reached_53 ?_
        refine S_goto 58 dX6_reached_54 (by decide) ?_
        exact Sim.sub [0, 1, 3, 4] rfl (hk16 (x20 &&& u8))
set_option maxRecDepth 20000 in
set_option maxHeartbeats 4000000 in
theorem sl_X6_reached_L7 (hs : l.stackTraces = false) (u2 : Nat) (u3 : Int32) (h : Hp) (k7_69 : Int32 → Option Int32) (hk7_69 : ∀ (v6 : Int32), Sim l G 0 M_X6_reached (fun v : Int32 => ((.inl (some (.int v)) : Oc), h)) 69 [(3, .int v6)] [] h (k7_69 v6)) : ∀ (f : Nat) (w4 : Int32) (w5 : Int32), Sim l G 0 M_X6_reached (fun v : Int32 => ((.inl (some (.int v)) : Oc), h)) 7 [(0, .ref u2), (2, .int u3), (3, .int w4), (4, .int w5)] [] h (m_X6_reached_L7 u2 u3 h k7_69 f w4 w5) := by
  intro f
  induction f with
  | zero => intro w4 w5; exact S_none rfl
  | succ f ih =>
    intro w4 w5
    rw [m_X6_reached_L7]
    refine S_iload_n 2 dX6_reached_7 rfl rfl ?_
    refine S_iload 3 dX6_reached_8 rfl ?_
    refine S_icmp_eq 69 dX6_reached_10 (by decide) (fun c23 => ?_) (fun c23 => ?_)
    · exact Sim.sub [2] rfl (hk7_69 w4)
    · refine S_iload_n 2 dX6_reached_13 rfl rfl ?_
      refine S_istore [(4, .int w4), (0, .ref u2), (2, .int u3), (3, .int w4)] dX6_reached_14 (Nat.le_of_ble_eq_true rfl) rfl ?_
      refine S_iconst 0 dX6_reached_16 (by decide) ?_
      refine S_istore [(5, .int 0), (4, .int w4), (0, .ref u2), (2, .int u3), (3, .int w4)] dX6_reached_17 (Nat.le_of_ble_eq_true rfl) rfl ?_
      refine Sim.sub [2, 3, 4, 1, 0] rfl (sl_X6_reached_L19 hs u2 u3 w4 h _ ?_ LF w4 (0 : Int32))
      · intro v12
        refine S_goto 7 dX6_reached_66 (by decide) ?_
        exact Sim.sub [0, 1, 2, 3] rfl (ih v12 w4)
set_option maxRecDepth 20000 in
set_option maxHeartbeats 4000000 in
theorem ss_X6_reached (hs : l.stackTraces = false) (o : Nat) (p1 : Int32) (p2 : Int32) (h : Hp) : Sim l G 0 M_X6_reached (fun v : Int32 => ((.inl (some (.int v)) : Oc), h)) 0 [(0, .ref o), (1, .int p1), (2, .int p2)] [] h (m_X6_reached  o p1 p2 h) := by
  rw [m_X6_reached]
  refine S_iconst 1 dX6_reached_0 (by decide) ?_
  refine S_iload_n 1 dX6_reached_1 rfl rfl ?_
  refine S_ishl dX6_reached_2 ?_
  refine S_nmI (fun x1 => ?_)
  refine S_istore_n [(3, .int x1), (0, .ref o), (1, .int p1), (2, .int p2)] dX6_reached_3 rfl (Nat.le_of_ble_eq_true rfl) rfl ?_
  refine S_iconst 0 dX6_reached_4 (by decide) ?_
  refine S_istore [(4, .int 0), (3, .int x1), (0, .ref o), (1, .int p1), (2, .int p2)] dX6_reached_5 (Nat.le_of_ble_eq_true rfl) rfl ?_
  refine Sim.sub [2, 4, 1, 0] rfl (sl_X6_reached_L7 hs o p2 h _ ?_ LF x1 (0 : Int32))
  · intro v6
    refine S_iload_n 0 dX6_reached_69 rfl rfl ?_
    exact S_ireturn rfl rfl dX6_reached_70
theorem sm_X6_reached (hs : l.stackTraces = false) (o : Nat) (p1 : Int32) (p2 : Int32) (h : Hp) : ∀ x, m_X6_reached  o p1 p2 h = some x → SR l G 0 M_X6_reached [.ref o, .int p1, .int p2] h (some (.int x)) h := fun x e => SR.of K_X6_reached hs rfl (Nat.le_of_ble_eq_true rfl) (ss_X6_reached hs o p1 p2 h) e rfl
end
section
variable {l : Launch} {G : Gx}
set_option maxRecDepth 20000 in
set_option maxHeartbeats 4000000 in
theorem ss_X6_banOf (hs : l.stackTraces = false) (o : Nat) (p1 : Int32) (h : Hp) : Sim l G 0 M_X6_banOf (fun v : Int32 => ((.inl (some (.int v)) : Oc), h)) 0 [(0, .ref o), (1, .int p1)] [] h (m_X6_banOf  o p1 h) := by
  rw [m_X6_banOf]
  refine S_aload_n 0 dX6_banOf_0 rfl rfl ?_
  refine S_getR kc6 (k := 0) (by decide) kw_1040 dX6_banOf_1 (fun a1 _ => ?_)
  refine S_bipush 31 dX6_banOf_4 (by decide) ?_
  refine S_iload_n 1 dX6_banOf_6 rfl rfl ?_
  refine S_iadd dX6_banOf_7 ?_
  refine S_iaload dX6_banOf_8 (fun x2 _ => ?_)
  refine S_iconst 1 dX6_banOf_9 (by decide) ?_
  refine S_isub dX6_banOf_10 ?_
  exact S_ireturn rfl rfl dX6_banOf_11
theorem sm_X6_banOf (hs : l.stackTraces = false) (o : Nat) (p1 : Int32) (h : Hp) : ∀ x, m_X6_banOf  o p1 h = some x → SR l G 0 M_X6_banOf [.ref o, .int p1] h (some (.int x)) h := fun x e => SR.of K_X6_banOf hs rfl (Nat.le_of_ble_eq_true rfl) (ss_X6_banOf hs o p1 h) e rfl
end
section
variable {l : Launch} {G : Gx}
set_option maxRecDepth 20000 in
set_option maxHeartbeats 4000000 in
theorem ss_X6_turn (hs : l.stackTraces = false) (o : Nat) (h : Hp) : Sim l G 0 M_X6_turn (fun v : Int32 => ((.inl (some (.int v)) : Oc), h)) 0 [(0, .ref o)] [] h (m_X6_turn  o h) := by
  rw [m_X6_turn]
  refine S_aload_n 0 dX6_turn_0 rfl rfl ?_
  refine S_getR kc6 (k := 0) (by decide) kw_1040 dX6_turn_1 (fun a1 _ => ?_)
  refine S_iconst 3 dX6_turn_4 (by decide) ?_
  refine S_iaload dX6_turn_5 (fun x2 _ => ?_)
  refine S_iconst 2 dX6_turn_6 (by decide) ?_
  refine S_iremC dX6_turn_7 (by decide) ?_
  exact S_ireturn rfl rfl dX6_turn_8
theorem sm_X6_turn (hs : l.stackTraces = false) (o : Nat) (h : Hp) : ∀ x, m_X6_turn  o h = some x → SR l G 0 M_X6_turn [.ref o] h (some (.int x)) h := fun x e => SR.of K_X6_turn hs rfl (Nat.le_of_ble_eq_true rfl) (ss_X6_turn hs o h) e rfl
end
section
variable {l : Launch} {G : Gx}
set_option maxRecDepth 20000 in
set_option maxHeartbeats 4000000 in
theorem sl_X6_forgets_L2 (hs : l.stackTraces = false) (u1 : Nat) (k2_21 : Hp → Option Hp) (hk2_21 : ∀ (h3 : Hp), Sim l G 0 M_X6_forgets (fun v : Hp => ((.inl none : Oc), v)) 21 [] [] h3 (k2_21 h3)) : ∀ (f : Nat) (w2 : Int32) (h : Hp), Sim l G 0 M_X6_forgets (fun v : Hp => ((.inl none : Oc), v)) 2 [(0, .ref u1), (1, .int w2)] [] h (m_X6_forgets_L2 u1 k2_21 f w2 h) := by
  intro f
  induction f with
  | zero => intro w2 h; exact S_none rfl
  | succ f ih =>
    intro w2 h
    rw [m_X6_forgets_L2]
    refine S_iload_n 1 dX6_forgets_2 rfl rfl ?_
    refine S_ldc 80000 kw_1039 dX6_forgets_3 ?_
    refine S_icmp_ge 21 dX6_forgets_5 (by decide) (fun c7 => ?_) (fun c7 => ?_)
    · exact Sim.sub [] rfl (hk2_21 h)
    · refine S_aload_n 0 dX6_forgets_8 rfl rfl ?_
      refine S_getR kc6 (k := 18) (by decide) kw_1058 dX6_forgets_9 (fun a4 _ => ?_)
      refine S_iload_n 1 dX6_forgets_12 rfl rfl ?_
      refine S_iconst (-1) dX6_forgets_13 (by decide) ?_
      refine S_iastore dX6_forgets_14 (fun h5 _ => ?_)
      refine S_iincN (c := 1) 1 (fun x6 => [(1, .int x6), (0, .ref u1)]) dX6_forgets_15 rfl (by decide) (Nat.le_of_ble_eq_true rfl) (fun _ => rfl) (fun x6 => ?_)
      refine S_goto 2 dX6_forgets_18 (by decide) ?_
      exact Sim.sub [1, 0] rfl (ih x6 h5)
set_option maxRecDepth 20000 in
set_option maxHeartbeats 4000000 in
theorem ss_X6_forgets (hs : l.stackTraces = false) (o : Nat) (h : Hp) : Sim l G 0 M_X6_forgets (fun v : Hp => ((.inl none : Oc), v)) 0 [(0, .ref o)] [] h (m_X6_forgets  o h) := by
  rw [m_X6_forgets]
  refine S_iconst 0 dX6_forgets_0 (by decide) ?_
  refine S_istore_n [(1, .int 0), (0, .ref o)] dX6_forgets_1 rfl (Nat.le_of_ble_eq_true rfl) rfl ?_
  refine Sim.sub [1, 0] rfl (sl_X6_forgets_L2 hs o _ ?_ LF (0 : Int32) h)
  · intro h3
    exact S_return rfl rfl dX6_forgets_21
theorem sm_X6_forgets (hs : l.stackTraces = false) (o : Nat) (h : Hp) : ∀ h1, m_X6_forgets  o h = some h1 → SR l G 0 M_X6_forgets [.ref o] h none h1 := fun h1 e => SR.of K_X6_forgets hs rfl (Nat.le_of_ble_eq_true rfl) (ss_X6_forgets hs o h) e rfl
end
section
variable {l : Launch} {G : Gx}
set_option maxRecDepth 20000 in
set_option maxHeartbeats 4000000 in
theorem ss_X6_moved (hs : l.stackTraces = false) (o : Nat) (p1 : Int32) (p2 : Int32) (h : Hp) : Sim l G 0 M_X6_moved (fun v : Int32 => ((.inl (some (.int v)) : Oc), h)) 0 [(0, .ref o), (1, .int p1), (2, .int p2)] [] h (m_X6_moved  o p1 p2 h) := by
  rw [m_X6_moved]
  refine S_aload_n 0 dX6_moved_0 rfl rfl ?_
  refine S_getR kc6 (k := 0) (by decide) kw_1040 dX6_moved_1 (fun a1 _ => ?_)
  refine S_bipush 40 dX6_moved_4 (by decide) ?_
  refine S_iload_n 1 dX6_moved_6 rfl rfl ?_
  refine S_iadd dX6_moved_7 ?_
  refine S_iaload dX6_moved_8 (fun x2 _ => ?_)
  refine S_istore_n [(3, .int x2), (0, .ref o), (1, .int p1), (2, .int p2)] dX6_moved_9 rfl (Nat.le_of_ble_eq_true rfl) rfl ?_
  refine S_iload_n 3 dX6_moved_10 rfl rfl ?_
  refine S_if_ne 20 dX6_moved_11 (by decide) (fun c6 => ?_) (fun c6 => ?_)
  · refine S_iload_n 3 dX6_moved_20 rfl rfl ?_
    refine S_iconst 1 dX6_moved_21 (by decide) ?_
    refine S_icmp_ne 36 dX6_moved_22 (by decide) (fun c5 => ?_) (fun c5 => ?_)
    · refine S_iload_n 3 dX6_moved_36 rfl rfl ?_
      refine S_iconst 2 dX6_moved_37 (by decide) ?_
      refine S_icmp_ne 51 dX6_moved_38 (by decide) (fun c4 => ?_) (fun c4 => ?_)
      · refine S_iload_n 3 dX6_moved_51 rfl rfl ?_
        refine S_iconst 3 dX6_moved_52 (by decide) ?_
        refine S_icmp_ne 66 dX6_moved_53 (by decide) (fun c3 => ?_) (fun c3 => ?_)
        · refine S_iload_n 0 dX6_moved_66 rfl rfl ?_
          refine S_bipush 11 dX6_moved_67 (by decide) ?_
          refine S_ishr dX6_moved_69 ?_
          exact S_ireturn rfl rfl dX6_moved_70
        · refine S_iload_n 0 dX6_moved_56 rfl rfl ?_
          refine S_bipush 7 dX6_moved_57 (by decide) ?_
          refine S_ishr dX6_moved_59 ?_
          refine S_bipush 15 dX6_moved_60 (by decide) ?_
          refine S_iand dX6_moved_62 ?_
          refine S_goto 70 dX6_moved_63 (by decide) ?_
          exact S_ireturn rfl rfl dX6_moved_70
      · refine S_iload_n 0 dX6_moved_41 rfl rfl ?_
        refine S_iconst 5 dX6_moved_42 (by decide) ?_
        refine S_ishr dX6_moved_43 ?_
        refine S_iconst 3 dX6_moved_44 (by decide) ?_
        refine S_iand dX6_moved_45 ?_
        refine S_iconst 1 dX6_moved_46 (by decide) ?_
        refine S_isub dX6_moved_47 ?_
        refine S_goto 70 dX6_moved_48 (by decide) ?_
        exact S_ireturn rfl rfl dX6_moved_70
    · refine S_iload_n 0 dX6_moved_25 rfl rfl ?_
      refine S_iconst 1 dX6_moved_26 (by decide) ?_
      refine S_ishr dX6_moved_27 ?_
      refine S_bipush 15 dX6_moved_28 (by decide) ?_
      refine S_iand dX6_moved_30 ?_
      refine S_iconst 1 dX6_moved_31 (by decide) ?_
      refine S_isub dX6_moved_32 ?_
      refine S_goto 70 dX6_moved_33 (by decide) ?_
      exact S_ireturn rfl rfl dX6_moved_70
  · refine S_iload_n 0 dX6_moved_14 rfl rfl ?_
    refine S_iconst 1 dX6_moved_15 (by decide) ?_
    refine S_iand dX6_moved_16 ?_
    refine S_goto 70 dX6_moved_17 (by decide) ?_
    exact S_ireturn rfl rfl dX6_moved_70
theorem sm_X6_moved (hs : l.stackTraces = false) (o : Nat) (p1 : Int32) (p2 : Int32) (h : Hp) : ∀ x, m_X6_moved  o p1 p2 h = some x → SR l G 0 M_X6_moved [.ref o, .int p1, .int p2] h (some (.int x)) h := fun x e => SR.of K_X6_moved hs rfl (Nat.le_of_ble_eq_true rfl) (ss_X6_moved hs o p1 p2 h) e rfl
end
section
variable {l : Launch} {G : Gx}
set_option maxRecDepth 20000 in
set_option maxHeartbeats 4000000 in
theorem ss_X6_says (hs : l.stackTraces = false) (o : Nat) (p1 : Int32) (h : Hp) : Sim l G 0 M_X6_says (fun v : Hp => ((.inl none : Oc), v)) 0 [(0, .ref o), (1, .int p1)] [] h (m_X6_says  o p1 h) := by
  rw [m_X6_says]
  refine S_aload_n 0 dX6_says_0 rfl rfl ?_
  refine S_getR kc6 (k := 20) (by decide) kw_1060 dX6_says_1 (fun a1 _ => ?_)
  refine S_aload_n 0 dX6_says_4 rfl rfl ?_
  refine S_getI kc6 (k := 21) (by decide) kw_1061 dX6_says_5 (fun x2 _ => ?_)
  refine S_iload_n 1 dX6_says_8 rfl rfl ?_
  refine S_iastore dX6_says_9 (fun h3 _ => ?_)
  refine S_aload_n 0 dX6_says_10 rfl rfl ?_
  refine S_dup dX6_says_11 rfl ?_
  refine S_getI kc6 (k := 21) (by decide) kw_1061 dX6_says_12 (fun x4 _ => ?_)
  refine S_iconst 1 dX6_says_15 (by decide) ?_
  refine S_iadd dX6_says_16 ?_
  refine S_put kc6 (k := 21) (by decide) rfl kw_1061 rfl rfl dX6_says_17 (fun h5 _ => ?_)
  exact S_return rfl rfl dX6_says_20
theorem sm_X6_says (hs : l.stackTraces = false) (o : Nat) (p1 : Int32) (h : Hp) : ∀ h1, m_X6_says  o p1 h = some h1 → SR l G 0 M_X6_says [.ref o, .int p1] h none h1 := fun h1 e => SR.of K_X6_says hs rfl (Nat.le_of_ble_eq_true rfl) (ss_X6_says hs o p1 h) e rfl
end
section
variable {l : Launch} {G : Gx}
set_option maxRecDepth 20000 in
set_option maxHeartbeats 4000000 in
theorem sl_X0_init_L50 (hs : l.stackTraces = false) (u16 : Nat) (k50_80 : Hp → Option Hp) (hk50_80 : ∀ (h18 : Hp), Sim l G 0 M_X0_init (fun v : Hp => ((.inl none : Oc), v)) 80 [] [] h18 (k50_80 h18)) : ∀ (f : Nat) (w17 : Int32) (h : Hp), Sim l G 0 M_X0_init (fun v : Hp => ((.inl none : Oc), v)) 50 [(0, .ref u16), (1, .int w17)] [] h (m_X0_init_L50 u16 k50_80 f w17 h) := by
  intro f
  induction f with
  | zero => intro w17 h; exact S_none rfl
  | succ f ih =>
    intro w17 h
    rw [m_X0_init_L50]
    refine S_iload_n 1 dX0_init_50 rfl rfl ?_
    refine S_aload_n 0 dX0_init_51 rfl rfl ?_
    refine S_getI kc0 (k := 1) (by decide) kw_125 dX0_init_52 (fun x19 _ => ?_)
    refine S_icmp_ge 80 dX0_init_55 (by decide) (fun c26 => ?_) (fun c26 => ?_)
    · exact Sim.sub [] rfl (hk50_80 h)
    · refine S_iload_n 1 dX0_init_58 rfl rfl ?_
      refine S_aload_n 0 dX0_init_59 rfl rfl ?_
      refine S_getR kc0 (k := 8) (by decide) kw_140 dX0_init_60 (fun a20 _ => ?_)
      refine S_alen (t := 0) (ty := .int) rfl dX0_init_63 (fun x21 _ => ?_)
      refine S_icmp_ge 80 dX0_init_64 (by decide) (fun c25 => ?_) (fun c25 => ?_)
      · exact Sim.sub [] rfl (hk50_80 h)
      · refine S_aload_n 0 dX0_init_67 rfl rfl ?_
        refine S_getR kc0 (k := 8) (by decide) kw_140 dX0_init_68 (fun a22 _ => ?_)
        refine S_iload_n 1 dX0_init_71 rfl rfl ?_
        refine S_iconst 1 dX0_init_72 (by decide) ?_
        refine S_iastore dX0_init_73 (fun h23 _ => ?_)
        refine S_iincN (c := 1) 1 (fun x24 => [(1, .int x24), (0, .ref u16)]) dX0_init_74 rfl (by decide) (Nat.le_of_ble_eq_true rfl) (fun _ => rfl) (fun x24 => ?_)
        refine S_goto 50 dX0_init_77 (by decide) ?_
        exact Sim.sub [1, 0] rfl (ih x24 h23)
set_option maxRecDepth 20000 in
set_option maxHeartbeats 4000000 in
theorem ss_X0_init (hs : l.stackTraces = false) (o : Nat) (h : Hp) : Sim l G 0 M_X0_init (fun v : Hp => ((.inl none : Oc), v)) 0 [(0, .ref o)] [] h (m_X0_init  o h) := by
  rw [m_X0_init]
  refine S_aload_n 0 dX0_init_0 rfl rfl ?_
  refine S_obj kw_121 k_oi k_oc (Nat.le_of_ble_eq_true rfl) dX0_init_1 ?_
  refine S_aload_n 0 dX0_init_4 rfl rfl ?_
  refine S_bipush 9 dX0_init_5 (by decide) ?_
  refine S_newarr0 (N := 9) (by decide) (by decide) (by decide) kw_166 dX0_init_7 (fun a1 h2 => ?_)
  refine S_putF kc0 (k := 7) (by decide) rfl rfl rfl kw_139 rfl rfl dX0_init_9 (fun h3 _ => ?_)
  refine S_aload_n 0 dX0_init_12 rfl rfl ?_
  refine S_iconst 3 dX0_init_13 (by decide) ?_
  refine S_newarr0 (N := 3) (by decide) (by decide) (by decide) kw_166 dX0_init_14 (fun a4 h5 => ?_)
  refine S_putF kc0 (k := 8) (by decide) rfl rfl rfl kw_140 rfl rfl dX0_init_16 (fun h6 _ => ?_)
  refine S_aload_n 0 dX0_init_19 rfl rfl ?_
  refine S_iconst 3 dX0_init_20 (by decide) ?_
  refine S_newarr0 (N := 3) (by decide) (by decide) (by decide) kw_166 dX0_init_21 (fun a7 h8 => ?_)
  refine S_putF kc0 (k := 9) (by decide) rfl rfl rfl kw_141 rfl rfl dX0_init_23 (fun h9 _ => ?_)
  refine S_aload_n 0 dX0_init_26 rfl rfl ?_
  refine S_iconst 3 dX0_init_27 (by decide) ?_
  refine S_newarr0 (N := 3) (by decide) (by decide) (by decide) kw_166 dX0_init_28 (fun a10 h11 => ?_)
  refine S_putF kc0 (k := 10) (by decide) rfl rfl rfl kw_142 rfl rfl dX0_init_30 (fun h12 _ => ?_)
  refine S_aload_n 0 dX0_init_33 rfl rfl ?_
  refine S_iconst 1 dX0_init_34 (by decide) ?_
  refine S_put kc0 (k := 1) (by decide) rfl kw_125 rfl rfl dX0_init_35 (fun h13 _ => ?_)
  refine S_aload_n 0 dX0_init_38 rfl rfl ?_
  refine S_iconst 1 dX0_init_39 (by decide) ?_
  refine S_put kc0 (k := 2) (by decide) rfl kw_127 rfl rfl dX0_init_40 (fun h14 _ => ?_)
  refine S_aload_n 0 dX0_init_43 rfl rfl ?_
  refine S_iconst 1 dX0_init_44 (by decide) ?_
  refine S_put kc0 (k := 4) (by decide) rfl kw_133 rfl rfl dX0_init_45 (fun h15 _ => ?_)
  refine S_iconst 0 dX0_init_48 (by decide) ?_
  refine S_istore_n [(1, .int 0), (0, .ref o)] dX0_init_49 rfl (Nat.le_of_ble_eq_true rfl) rfl ?_
  refine Sim.sub [1, 0] rfl (sl_X0_init_L50 hs o _ ?_ LF (0 : Int32) h15)
  · intro h18
    exact S_return rfl rfl dX0_init_80
theorem sm_X0_init (hs : l.stackTraces = false) (o : Nat) (h : Hp) : ∀ h1, m_X0_init  o h = some h1 → SR l G 0 M_X0_init [.ref o] h none h1 := fun h1 e => SR.of K_X0_init hs rfl (Nat.le_of_ble_eq_true rfl) (ss_X0_init hs o h) e rfl
end
section
variable {l : Launch} {G : Gx}
set_option maxRecDepth 20000 in
set_option maxHeartbeats 4000000 in
theorem sl_X0_isFull_L4 (hs : l.stackTraces = false) (u1 : Nat) (h : Hp) (k4_33 : Int32 → Option Bool) (hk4_33 : ∀ (v4 : Int32), Sim l G 0 M_X0_isFull (fun v : Bool => ((.inl (some (.int (bI v))) : Oc), h)) 33 [(0, .ref u1), (1, .int v4)] [] h (k4_33 v4)) : ∀ (f : Nat) (w2 : Int32) (w3 : Int32), Sim l G 0 M_X0_isFull (fun v : Bool => ((.inl (some (.int (bI v))) : Oc), h)) 4 [(0, .ref u1), (1, .int w2), (2, .int w3)] [] h (m_X0_isFull_L4 u1 h k4_33 f w2 w3) := by
  intro f
  induction f with
  | zero => intro w2 w3; exact S_none rfl
  | succ f ih =>
    intro w2 w3
    rw [m_X0_isFull_L4]
    refine S_iload_n 2 dX0_isFull_4 rfl rfl ?_
    refine S_aload_n 0 dX0_isFull_5 rfl rfl ?_
    refine S_getI kc0 (k := 2) (by decide) kw_127 dX0_isFull_6 (fun x5 _ => ?_)
    refine S_icmp_gt 33 dX0_isFull_9 (by decide) (fun c10 => ?_) (fun c10 => ?_)
    · exact Sim.sub [0, 1] rfl (hk4_33 w2)
    · refine S_iload_n 2 dX0_isFull_12 rfl rfl ?_
      refine S_bipush 9 dX0_isFull_13 (by decide) ?_
      refine S_icmp_gt 33 dX0_isFull_15 (by decide) (fun c9 => ?_) (fun c9 => ?_)
      · exact Sim.sub [0, 1] rfl (hk4_33 w2)
      · refine S_iload_n 1 dX0_isFull_18 rfl rfl ?_
        refine S_aload_n 0 dX0_isFull_19 rfl rfl ?_
        refine S_getI kc0 (k := 1) (by decide) kw_125 dX0_isFull_20 (fun x6 _ => ?_)
        refine S_iconst 1 dX0_isFull_23 (by decide) ?_
        refine S_iadd dX0_isFull_24 ?_
        refine S_imul dX0_isFull_25 ?_
        refine S_nmI (fun x7 => ?_)
        refine S_istore_n [(1, .int x7), (0, .ref u1), (2, .int w3)] dX0_isFull_26 rfl (Nat.le_of_ble_eq_true rfl) rfl ?_
        refine S_iincN (c := 1) 2 (fun x8 => [(2, .int x8), (1, .int x7), (0, .ref u1)]) dX0_isFull_27 rfl (by decide) (Nat.le_of_ble_eq_true rfl) (fun _ => rfl) (fun x8 => ?_)
        refine S_goto 4 dX0_isFull_30 (by decide) ?_
        exact Sim.sub [2, 1, 0] rfl (ih x7 x8)
set_option maxRecDepth 20000 in
set_option maxHeartbeats 4000000 in
theorem ss_X0_isFull (hs : l.stackTraces = false) (o : Nat) (h : Hp) : Sim l G 0 M_X0_isFull (fun v : Bool => ((.inl (some (.int (bI v))) : Oc), h)) 0 [(0, .ref o)] [] h (m_X0_isFull  o h) := by
  rw [m_X0_isFull]
  refine S_iconst 1 dX0_isFull_0 (by decide) ?_
  refine S_istore_n [(1, .int 1), (0, .ref o)] dX0_isFull_1 rfl (Nat.le_of_ble_eq_true rfl) rfl ?_
  refine S_iconst 0 dX0_isFull_2 (by decide) ?_
  refine S_istore_n [(2, .int 0), (1, .int 1), (0, .ref o)] dX0_isFull_3 rfl (Nat.le_of_ble_eq_true rfl) rfl ?_
  refine Sim.sub [2, 1, 0] rfl (sl_X0_isFull_L4 hs o h _ ?_ LF (1 : Int32) (0 : Int32))
  · intro v4
    refine S_aload_n 0 dX0_isFull_33 rfl rfl ?_
    refine S_getI kc0 (k := 2) (by decide) kw_127 dX0_isFull_34 (fun x11 _ => ?_)
    refine S_bipush 9 dX0_isFull_37 (by decide) ?_
    refine S_icmp_ge 49 dX0_isFull_39 (by decide) (fun c13 => ?_) (fun c13 => ?_)
    · refine S_iconst 1 dX0_isFull_49 (by decide) ?_
      refine S_goto 54 dX0_isFull_50 (by decide) ?_
      exact S_zreturn (b := true) rfl rfl dX0_isFull_54
    · refine S_iload_n 1 dX0_isFull_42 rfl rfl ?_
      refine S_sipush 20000 dX0_isFull_43 (by decide) ?_
      refine S_icmp_le 53 dX0_isFull_46 (by decide) (fun c12 => ?_) (fun c12 => ?_)
      · refine S_iconst 0 dX0_isFull_53 (by decide) ?_
        exact S_zreturn (b := false) rfl rfl dX0_isFull_54
      · refine S_iconst 1 dX0_isFull_49 (by decide) ?_
        refine S_goto 54 dX0_isFull_50 (by decide) ?_
        exact S_zreturn (b := true) rfl rfl dX0_isFull_54
theorem sm_X0_isFull (hs : l.stackTraces = false) (o : Nat) (h : Hp) : ∀ x, m_X0_isFull  o h = some x → SR l G 0 M_X0_isFull [.ref o] h (some (.int (bI x))) h := fun x e => SR.of K_X0_isFull hs rfl (Nat.le_of_ble_eq_true rfl) (ss_X0_isFull hs o h) e rfl
end
section
variable {l : Launch} {G : Gx}
set_option maxRecDepth 20000 in
set_option maxHeartbeats 4000000 in
theorem ss_X0_hasVertex (hs : l.stackTraces = false) (o : Nat) (p1 : Int32) (h : Hp) : Sim l G 0 M_X0_hasVertex (fun v : Bool => ((.inl (some (.int (bI v))) : Oc), h)) 0 [(0, .ref o), (1, .int p1)] [] h (m_X0_hasVertex  o p1 h) := by
  rw [m_X0_hasVertex]
  refine S_iload_n 1 dX0_hasVertex_0 rfl rfl ?_
  refine S_if_lt 16 dX0_hasVertex_1 (by decide) (fun c3 => ?_) (fun c3 => ?_)
  · refine S_iconst 0 dX0_hasVertex_16 (by decide) ?_
    exact S_zreturn (b := false) rfl rfl dX0_hasVertex_17
  · refine S_iload_n 1 dX0_hasVertex_4 rfl rfl ?_
    refine S_aload_n 0 dX0_hasVertex_5 rfl rfl ?_
    refine S_getI kc0 (k := 2) (by decide) kw_127 dX0_hasVertex_6 (fun x1 _ => ?_)
    refine S_icmp_ge 16 dX0_hasVertex_9 (by decide) (fun c2 => ?_) (fun c2 => ?_)
    · refine S_iconst 0 dX0_hasVertex_16 (by decide) ?_
      exact S_zreturn (b := false) rfl rfl dX0_hasVertex_17
    · refine S_iconst 1 dX0_hasVertex_12 (by decide) ?_
      refine S_goto 17 dX0_hasVertex_13 (by decide) ?_
      exact S_zreturn (b := true) rfl rfl dX0_hasVertex_17
theorem sm_X0_hasVertex (hs : l.stackTraces = false) (o : Nat) (p1 : Int32) (h : Hp) : ∀ x, m_X0_hasVertex  o p1 h = some x → SR l G 0 M_X0_hasVertex [.ref o, .int p1] h (some (.int (bI x))) h := fun x e => SR.of K_X0_hasVertex hs rfl (Nat.le_of_ble_eq_true rfl) (ss_X0_hasVertex hs o p1 h) e rfl
end
section
variable {l : Launch} {G : Gx}
set_option maxRecDepth 20000 in
set_option maxHeartbeats 4000000 in
theorem ss_X0_everyVertex (hs : l.stackTraces = false) (o : Nat) (h : Hp) : Sim l G 0 M_X0_everyVertex (fun v : Int32 => ((.inl (some (.int v)) : Oc), h)) 0 [(0, .ref o)] [] h (m_X0_everyVertex  o h) := by
  rw [m_X0_everyVertex]
  refine S_iconst 1 dX0_everyVertex_0 (by decide) ?_
  refine S_aload_n 0 dX0_everyVertex_1 rfl rfl ?_
  refine S_getI kc0 (k := 2) (by decide) kw_127 dX0_everyVertex_2 (fun x1 _ => ?_)
  refine S_ishl dX0_everyVertex_5 ?_
  refine S_iconst 1 dX0_everyVertex_6 (by decide) ?_
  refine S_isub dX0_everyVertex_7 ?_
  exact S_ireturn rfl rfl dX0_everyVertex_8
theorem sm_X0_everyVertex (hs : l.stackTraces = false) (o : Nat) (h : Hp) : ∀ x, m_X0_everyVertex  o h = some x → SR l G 0 M_X0_everyVertex [.ref o] h (some (.int x)) h := fun x e => SR.of K_X0_everyVertex hs rfl (Nat.le_of_ble_eq_true rfl) (ss_X0_everyVertex hs o h) e rfl
end
section
variable {l : Launch} {G : Gx}
set_option maxRecDepth 20000 in
set_option maxHeartbeats 4000000 in
theorem ss_X0_everyColour (hs : l.stackTraces = false) (o : Nat) (h : Hp) : Sim l G 0 M_X0_everyColour (fun v : Int32 => ((.inl (some (.int v)) : Oc), h)) 0 [(0, .ref o)] [] h (m_X0_everyColour  o h) := by
  rw [m_X0_everyColour]
  refine S_iconst 1 dX0_everyColour_0 (by decide) ?_
  refine S_aload_n 0 dX0_everyColour_1 rfl rfl ?_
  refine S_getI kc0 (k := 1) (by decide) kw_125 dX0_everyColour_2 (fun x1 _ => ?_)
  refine S_ishl dX0_everyColour_5 ?_
  refine S_iconst 1 dX0_everyColour_6 (by decide) ?_
  refine S_isub dX0_everyColour_7 ?_
  exact S_ireturn rfl rfl dX0_everyColour_8
theorem sm_X0_everyColour (hs : l.stackTraces = false) (o : Nat) (h : Hp) : ∀ x, m_X0_everyColour  o h = some x → SR l G 0 M_X0_everyColour [.ref o] h (some (.int x)) h := fun x e => SR.of K_X0_everyColour hs rfl (Nat.le_of_ble_eq_true rfl) (ss_X0_everyColour hs o h) e rfl
end
section
variable {l : Launch} {G : Gx}
set_option maxRecDepth 20000 in
set_option maxHeartbeats 4000000 in
theorem ss_X0_neighbours (hs : l.stackTraces = false) (o : Nat) (p1 : Int32) (h : Hp) : Sim l G 0 M_X0_neighbours (fun v : Int32 => ((.inl (some (.int v)) : Oc), h)) 0 [(0, .ref o), (1, .int p1)] [] h (m_X0_neighbours  o p1 h) := by
  rw [m_X0_neighbours]
  refine S_iload_n 1 dX0_neighbours_0 rfl rfl ?_
  refine S_if_lt 22 dX0_neighbours_1 (by decide) (fun c6 => ?_) (fun c6 => ?_)
  · refine S_iconst 0 dX0_neighbours_22 (by decide) ?_
    exact S_ireturn rfl rfl dX0_neighbours_23
  · refine S_iload_n 1 dX0_neighbours_4 rfl rfl ?_
    refine S_aload_n 0 dX0_neighbours_5 rfl rfl ?_
    refine S_getR kc0 (k := 7) (by decide) kw_139 dX0_neighbours_6 (fun a1 _ => ?_)
    refine S_alen (t := 0) (ty := .int) rfl dX0_neighbours_9 (fun x2 _ => ?_)
    refine S_icmp_ge 22 dX0_neighbours_10 (by decide) (fun c5 => ?_) (fun c5 => ?_)
    · refine S_iconst 0 dX0_neighbours_22 (by decide) ?_
      exact S_ireturn rfl rfl dX0_neighbours_23
    · refine S_aload_n 0 dX0_neighbours_13 rfl rfl ?_
      refine S_getR kc0 (k := 7) (by decide) kw_139 dX0_neighbours_14 (fun a3 _ => ?_)
      refine S_iload_n 1 dX0_neighbours_17 rfl rfl ?_
      refine S_iaload dX0_neighbours_18 (fun x4 _ => ?_)
      refine S_goto 23 dX0_neighbours_19 (by decide) ?_
      exact S_ireturn rfl rfl dX0_neighbours_23
theorem sm_X0_neighbours (hs : l.stackTraces = false) (o : Nat) (p1 : Int32) (h : Hp) : ∀ x, m_X0_neighbours  o p1 h = some x → SR l G 0 M_X0_neighbours [.ref o, .int p1] h (some (.int x)) h := fun x e => SR.of K_X0_neighbours hs rfl (Nat.le_of_ble_eq_true rfl) (ss_X0_neighbours hs o p1 h) e rfl
end
section
variable {l : Launch} {G : Gx}
set_option maxRecDepth 20000 in
set_option maxHeartbeats 4000000 in
theorem sl_X0_banOf_L2 (hs : l.stackTraces = false) (u1 : Nat) (u2 : Int32) (h : Hp) (k2_30 : Option Int32) (k2_22 : Int32 → Option Int32) (hk2_30 : Sim l G 0 M_X0_banOf (fun v : Int32 => ((.inl (some (.int v)) : Oc), h)) 30 [] [] h (k2_30)) (hk2_22 : ∀ (v4 : Int32), Sim l G 0 M_X0_banOf (fun v : Int32 => ((.inl (some (.int v)) : Oc), h)) 22 [(2, .int v4)] [] h (k2_22 v4)) : ∀ (f : Nat) (w3 : Int32), Sim l G 0 M_X0_banOf (fun v : Int32 => ((.inl (some (.int v)) : Oc), h)) 2 [(0, .ref u1), (1, .int u2), (2, .int w3)] [] h (m_X0_banOf_L2 u1 u2 h k2_30 k2_22 f w3) := by
  intro f
  induction f with
  | zero => intro w3; exact S_none rfl
  | succ f ih =>
    intro w3
    rw [m_X0_banOf_L2]
    refine S_iload_n 2 dX0_banOf_2 rfl rfl ?_
    refine S_aload_n 0 dX0_banOf_3 rfl rfl ?_
    refine S_getR kc0 (k := 10) (by decide) kw_142 dX0_banOf_4 (fun a5 _ => ?_)
    refine S_alen (t := 0) (ty := .int) rfl dX0_banOf_7 (fun x6 _ => ?_)
    refine S_icmp_ge 30 dX0_banOf_8 (by decide) (fun c11 => ?_) (fun c11 => ?_)
    · exact Sim.sub [] rfl (hk2_30)
    · refine S_aload_n 0 dX0_banOf_11 rfl rfl ?_
      refine S_getR kc0 (k := 10) (by decide) kw_142 dX0_banOf_12 (fun a7 _ => ?_)
      refine S_iload_n 2 dX0_banOf_15 rfl rfl ?_
      refine S_iaload dX0_banOf_16 (fun x8 _ => ?_)
      refine S_iload_n 1 dX0_banOf_17 rfl rfl ?_
      refine S_iand dX0_banOf_18 ?_
      refine S_if_eq 24 dX0_banOf_19 (by decide) (fun c10 => ?_) (fun c10 => ?_)
      · refine S_iincN (c := 1) 2 (fun x9 => [(2, .int x9), (0, .ref u1), (1, .int u2)]) dX0_banOf_24 rfl (by decide) (Nat.le_of_ble_eq_true rfl) (fun _ => rfl) (fun x9 => ?_)
        refine S_goto 2 dX0_banOf_27 (by decide) ?_
        exact Sim.sub [1, 2, 0] rfl (ih x9)
      · exact Sim.sub [2] rfl (hk2_22 w3)
set_option maxRecDepth 20000 in
set_option maxHeartbeats 4000000 in
theorem ss_X0_banOf (hs : l.stackTraces = false) (o : Nat) (p1 : Int32) (h : Hp) : Sim l G 0 M_X0_banOf (fun v : Int32 => ((.inl (some (.int v)) : Oc), h)) 0 [(0, .ref o), (1, .int p1)] [] h (m_X0_banOf  o p1 h) := by
  rw [m_X0_banOf]
  refine S_iconst 0 dX0_banOf_0 (by decide) ?_
  refine S_istore_n [(2, .int 0), (0, .ref o), (1, .int p1)] dX0_banOf_1 rfl (Nat.le_of_ble_eq_true rfl) rfl ?_
  refine Sim.sub [1, 2, 0] rfl (sl_X0_banOf_L2 hs o p1 h _ _ ?_ ?_ LF (0 : Int32))
  · refine S_iconst (-1) dX0_banOf_30 (by decide) ?_
    exact S_ireturn rfl rfl dX0_banOf_31
  · intro v4
    refine S_iload_n 0 dX0_banOf_22 rfl rfl ?_
    exact S_ireturn rfl rfl dX0_banOf_23
theorem sm_X0_banOf (hs : l.stackTraces = false) (o : Nat) (p1 : Int32) (h : Hp) : ∀ x, m_X0_banOf  o p1 h = some x → SR l G 0 M_X0_banOf [.ref o, .int p1] h (some (.int x)) h := fun x e => SR.of K_X0_banOf hs rfl (Nat.le_of_ble_eq_true rfl) (ss_X0_banOf hs o p1 h) e rfl
end
section
variable {l : Launch} {G : Gx}
set_option maxRecDepth 20000 in
set_option maxHeartbeats 4000000 in
theorem ss_X0_turn (hs : l.stackTraces = false) (o : Nat) (h : Hp) : Sim l G 0 M_X0_turn (fun v : Int32 => ((.inl (some (.int v)) : Oc), h)) 0 [(0, .ref o)] [] h (m_X0_turn  o h) := by
  rw [m_X0_turn]
  refine S_aload_n 0 dX0_turn_0 rfl rfl ?_
  refine S_getI kc0 (k := 5) (by decide) kw_136 dX0_turn_1 (fun x1 _ => ?_)
  refine S_iconst 1 dX0_turn_4 (by decide) ?_
  refine S_iand dX0_turn_5 ?_
  exact S_ireturn rfl rfl dX0_turn_6
theorem sm_X0_turn (hs : l.stackTraces = false) (o : Nat) (h : Hp) : ∀ x, m_X0_turn  o h = some x → SR l G 0 M_X0_turn [.ref o] h (some (.int x)) h := fun x e => SR.of K_X0_turn hs rfl (Nat.le_of_ble_eq_true rfl) (ss_X0_turn hs o h) e rfl
end
section
variable {l : Launch} {G : Gx}
set_option maxRecDepth 20000 in
set_option maxHeartbeats 4000000 in
theorem ss_X0_passValue (hs : l.stackTraces = false) (o : Nat) (h : Hp) : Sim l G 0 M_X0_passValue (fun v : Int32 => ((.inl (some (.int v)) : Oc), h)) 0 [(0, .ref o)] [] h (m_X0_passValue  o h) := by
  rw [m_X0_passValue]
  refine S_aload_n 0 dX0_passValue_0 rfl rfl ?_
  refine S_getI kc0 (k := 3) (by decide) kw_130 dX0_passValue_1 (fun x1 _ => ?_)
  refine S_iconst 1 dX0_passValue_4 (by decide) ?_
  refine S_iand dX0_passValue_5 ?_
  exact S_ireturn rfl rfl dX0_passValue_6
theorem sm_X0_passValue (hs : l.stackTraces = false) (o : Nat) (h : Hp) : ∀ x, m_X0_passValue  o h = some x → SR l G 0 M_X0_passValue [.ref o] h (some (.int x)) h := fun x e => SR.of K_X0_passValue hs rfl (Nat.le_of_ble_eq_true rfl) (ss_X0_passValue hs o h) e rfl
end
section
variable {l : Launch} {G : Gx}
set_option maxRecDepth 20000 in
set_option maxHeartbeats 4000000 in
theorem sl_X0_moveAt_L26 (hs : l.stackTraces = false) (u5 : Int32) (h : Hp) (k26_46 : (Option Nat) → Option (Option Nat)) (hk26_46 : ∀ (v8 : (Option Nat)), Sim l G 0 M_X0_moveAt (fun v : (Option Nat) => ((.inl (some (va_rf v)) : Oc), h)) 46 [(2, va_rf v8)] [] h (k26_46 v8)) : ∀ (f : Nat) (w6 : (Option Nat)) (w7 : Int32), Sim l G 0 M_X0_moveAt (fun v : (Option Nat) => ((.inl (some (va_rf v)) : Oc), h)) 26 [(1, .int u5), (2, va_rf w6), (3, .int w7)] [] h (m_X0_moveAt_L26 u5 h k26_46 f w6 w7) := by
  intro f
  induction f with
  | zero => intro w6 w7; exact S_none rfl
  | succ f ih =>
    intro w6 w7
    rw [m_X0_moveAt_L26]
    refine S_iload_n 2 dX0_moveAt_26 rfl rfl ?_
    refine S_iload_n 0 dX0_moveAt_27 rfl rfl ?_
    refine S_icmp_le 46 dX0_moveAt_28 (by decide) (fun c12 => ?_) (fun c12 => ?_)
    · exact Sim.sub [1] rfl (hk26_46 w6)
    · refine S_qload_n 1 dX0_moveAt_31 rfl rfl ?_
      refine S_ifnull 46 dX0_moveAt_32 (by decide) ?_ ?_
      · intro _
        exact Sim.sub [1] rfl (hk26_46 w6)
      · intro a9 ha9
        subst ha9
        refine S_aload_n 1 dX0_moveAt_35 rfl rfl ?_
        refine S_getN kc2 (k := 0) (by decide) kw_721 dX0_moveAt_36 (fun q10 _ => ?_)
        refine S_qstore_n [(2, va_rf q10), (1, .int u5), (3, .int w7)] dX0_moveAt_39 rfl (Nat.le_of_ble_eq_true rfl) (by cases q10 <;> rfl) ?_
        refine S_iincN (c := (-1)) 2 (fun x11 => [(3, .int x11), (2, va_rf q10), (1, .int u5)]) dX0_moveAt_40 rfl (by decide) (Nat.le_of_ble_eq_true rfl) (fun _ => (by cases q10 <;> rfl)) (fun x11 => ?_)
        refine S_goto 26 dX0_moveAt_43 (by decide) ?_
        exact Sim.sub [2, 1, 0] rfl (ih q10 x11)
set_option maxRecDepth 20000 in
set_option maxHeartbeats 4000000 in
theorem ss_X0_moveAt (hs : l.stackTraces = false) (o : Nat) (p1 : Int32) (h : Hp) : Sim l G 0 M_X0_moveAt (fun v : (Option Nat) => ((.inl (some (va_rf v)) : Oc), h)) 0 [(0, .ref o), (1, .int p1)] [] h (m_X0_moveAt  o p1 h) := by
  rw [m_X0_moveAt]
  refine S_iload_n 1 dX0_moveAt_0 rfl rfl ?_
  refine S_if_lt 12 dX0_moveAt_1 (by decide) (fun c14 => ?_) (fun c14 => ?_)
  · refine S_null dX0_moveAt_12 ?_
    exact S_qreturn (q := none) rfl rfl dX0_moveAt_13
  · refine S_iload_n 1 dX0_moveAt_4 rfl rfl ?_
    refine S_aload_n 0 dX0_moveAt_5 rfl rfl ?_
    refine S_getI kc0 (k := 5) (by decide) kw_136 dX0_moveAt_6 (fun x1 _ => ?_)
    refine S_icmp_lt 14 dX0_moveAt_9 (by decide) (fun c13 => ?_) (fun c13 => ?_)
    · refine S_aload_n 0 dX0_moveAt_14 rfl rfl ?_
      refine S_getN kc0 (k := 6) (by decide) kw_138 dX0_moveAt_15 (fun q2 _ => ?_)
      refine S_qstore_n [(2, va_rf q2), (0, .ref o), (1, .int p1)] dX0_moveAt_18 rfl (Nat.le_of_ble_eq_true rfl) (by cases q2 <;> rfl) ?_
      refine S_aload_n 1 dX0_moveAt_19 rfl rfl ?_
      refine S_getI kc0 (k := 5) (by decide) kw_136 dX0_moveAt_20 (fun x3 _ => ?_)
      refine S_iconst 1 dX0_moveAt_23 (by decide) ?_
      refine S_isub dX0_moveAt_24 ?_
      refine S_nmI (fun x4 => ?_)
      refine S_istore_n [(3, .int x4), (2, va_rf q2), (0, .ref o), (1, .int p1)] dX0_moveAt_25 rfl (Nat.le_of_ble_eq_true rfl) (by cases q2 <;> rfl) ?_
      refine Sim.sub [3, 1, 0] rfl (sl_X0_moveAt_L26 hs p1 h _ ?_ LF q2 x4)
      · intro v8
        refine S_qload_n 0 dX0_moveAt_46 rfl rfl ?_
        exact S_qreturn (q := v8) rfl rfl dX0_moveAt_47
    · refine S_null dX0_moveAt_12 ?_
      exact S_qreturn (q := none) rfl rfl dX0_moveAt_13
theorem sm_X0_moveAt (hs : l.stackTraces = false) (o : Nat) (p1 : Int32) (h : Hp) : ∀ x, m_X0_moveAt  o p1 h = some x → SR l G 0 M_X0_moveAt [.ref o, .int p1] h (some (va_rf x)) h := fun x e => SR.of K_X0_moveAt hs rfl (Nat.le_of_ble_eq_true rfl) (ss_X0_moveAt hs o p1 h) e rfl
end
section
variable {l : Launch} {G : Gx}
set_option maxRecDepth 20000 in
set_option maxHeartbeats 4000000 in
theorem sl_X0_coloursLaidBy_L15 (hs : l.stackTraces = false) (u4 : Int32) (h : Hp) (k15_60 : Int32 → Option Int32) (hk15_60 : ∀ (v8 : Int32), Sim l G 0 M_X0_coloursLaidBy (fun v : Int32 => ((.inl (some (.int v)) : Oc), h)) 60 [(2, .int v8)] [] h (k15_60 v8)) : ∀ (f : Nat) (w5 : Int32) (w6 : (Option Nat)) (w7 : Int32), Sim l G 0 M_X0_coloursLaidBy (fun v : Int32 => ((.inl (some (.int v)) : Oc), h)) 15 [(1, .int u4), (2, .int w5), (3, va_rf w6), (4, .int w7)] [] h (m_X0_coloursLaidBy_L15 u4 h k15_60 f w5 w6 w7) := by
  intro f
  induction f with
  | zero => intro w5 w6 w7; exact S_none rfl
  | succ f ih =>
    intro w5 w6 w7
    rw [m_X0_coloursLaidBy_L15]
    refine S_iload 3 dX0_coloursLaidBy_15 rfl ?_
    refine S_if_lt 60 dX0_coloursLaidBy_17 (by decide) (fun c19 => ?_) (fun c19 => ?_)
    · exact Sim.sub [1] rfl (hk15_60 w5)
    · refine S_qload_n 2 dX0_coloursLaidBy_20 rfl rfl ?_
      refine S_ifnull 60 dX0_coloursLaidBy_21 (by decide) ?_ ?_
      · intro _
        exact Sim.sub [1] rfl (hk15_60 w5)
      · intro a9 ha9
        subst ha9
        refine S_iload 3 dX0_coloursLaidBy_24 rfl ?_
        refine S_iconst 1 dX0_coloursLaidBy_26 (by decide) ?_
        refine S_iand dX0_coloursLaidBy_27 ?_
        refine S_iload_n 0 dX0_coloursLaidBy_28 rfl rfl ?_
        refine S_jK (fun (k11 : Int32 → Option Int32) => ∀ (v10 : Int32), Sim l G 0 M_X0_coloursLaidBy (fun v : Int32 => ((.inl (some (.int v)) : Oc), h)) 49 [(1, .int u4), (2, .int v10), (3, .ref a9), (4, .int w7)] [] h (k11 v10)) ?_ (fun k11 hk11 => ?_)
        · intro v10
          refine S_aload_n 2 dX0_coloursLaidBy_49 rfl rfl ?_
          refine S_getN kc2 (k := 0) (by decide) kw_721 dX0_coloursLaidBy_50 (fun q12 _ => ?_)
          refine S_qstore_n [(3, va_rf q12), (1, .int u4), (2, .int v10), (4, .int w7)] dX0_coloursLaidBy_53 rfl (Nat.le_of_ble_eq_true rfl) (by cases q12 <;> rfl) ?_
          refine S_iincN (c := (-1)) 3 (fun x13 => [(4, .int x13), (3, va_rf q12), (1, .int u4), (2, .int v10)]) dX0_coloursLaidBy_54 rfl (by decide) (Nat.le_of_ble_eq_true rfl) (fun _ => (by cases q12 <;> rfl)) (fun x13 => ?_)
          refine S_goto 15 dX0_coloursLaidBy_57 (by decide) ?_
          exact Sim.sub [2, 3, 1, 0] rfl (ih v10 q12 x13)
        refine S_icmp_ne 49 dX0_coloursLaidBy_29 (by decide) (fun c18 => ?_) (fun c18 => ?_)
        · exact Sim.sub [0, 1, 2, 3] rfl (hk11 w5)
        · refine S_aload_n 2 dX0_coloursLaidBy_32 rfl rfl ?_
          refine S_getI kc2 (k := 2) (by decide) kw_726 dX0_coloursLaidBy_33 (fun x14 _ => ?_)
          refine S_iconst (-1) dX0_coloursLaidBy_36 (by decide) ?_
          refine S_icmp_eq 49 dX0_coloursLaidBy_37 (by decide) (fun c17 => ?_) (fun c17 => ?_)
          · exact Sim.sub [0, 1, 2, 3] rfl (hk11 w5)
          · refine S_iload_n 1 dX0_coloursLaidBy_40 rfl rfl ?_
            refine S_iconst 1 dX0_coloursLaidBy_41 (by decide) ?_
            refine S_aload_n 2 dX0_coloursLaidBy_42 rfl rfl ?_
            refine S_getI kc2 (k := 2) (by decide) kw_726 dX0_coloursLaidBy_43 (fun x15 _ => ?_)
            refine S_ishl dX0_coloursLaidBy_46 ?_
            refine S_ior dX0_coloursLaidBy_47 ?_
            refine S_nmI (fun x16 => ?_)
            refine S_istore_n [(2, .int x16), (1, .int u4), (3, .ref a9), (4, .int w7)] dX0_coloursLaidBy_48 rfl (Nat.le_of_ble_eq_true rfl) rfl ?_
            exact Sim.sub [1, 0, 2, 3] rfl (hk11 x16)
set_option maxRecDepth 20000 in
set_option maxHeartbeats 4000000 in
theorem ss_X0_coloursLaidBy (hs : l.stackTraces = false) (o : Nat) (p1 : Int32) (h : Hp) : Sim l G 0 M_X0_coloursLaidBy (fun v : Int32 => ((.inl (some (.int v)) : Oc), h)) 0 [(0, .ref o), (1, .int p1)] [] h (m_X0_coloursLaidBy  o p1 h) := by
  rw [m_X0_coloursLaidBy]
  refine S_iconst 0 dX0_coloursLaidBy_0 (by decide) ?_
  refine S_istore_n [(2, .int 0), (0, .ref o), (1, .int p1)] dX0_coloursLaidBy_1 rfl (Nat.le_of_ble_eq_true rfl) rfl ?_
  refine S_aload_n 1 dX0_coloursLaidBy_2 rfl rfl ?_
  refine S_getN kc0 (k := 6) (by decide) kw_138 dX0_coloursLaidBy_3 (fun q1 _ => ?_)
  refine S_qstore_n [(3, va_rf q1), (2, .int 0), (0, .ref o), (1, .int p1)] dX0_coloursLaidBy_6 rfl (Nat.le_of_ble_eq_true rfl) (by cases q1 <;> rfl) ?_
  refine S_aload_n 2 dX0_coloursLaidBy_7 rfl rfl ?_
  refine S_getI kc0 (k := 5) (by decide) kw_136 dX0_coloursLaidBy_8 (fun x2 _ => ?_)
  refine S_iconst 1 dX0_coloursLaidBy_11 (by decide) ?_
  refine S_isub dX0_coloursLaidBy_12 ?_
  refine S_nmI (fun x3 => ?_)
  refine S_istore [(4, .int x3), (3, va_rf q1), (2, .int 0), (0, .ref o), (1, .int p1)] dX0_coloursLaidBy_13 (Nat.le_of_ble_eq_true rfl) (by cases q1 <;> rfl) ?_
  refine Sim.sub [4, 2, 1, 0] rfl (sl_X0_coloursLaidBy_L15 hs p1 h _ ?_ LF (0 : Int32) q1 x3)
  · intro v8
    refine S_iload_n 0 dX0_coloursLaidBy_60 rfl rfl ?_
    exact S_ireturn rfl rfl dX0_coloursLaidBy_61
theorem sm_X0_coloursLaidBy (hs : l.stackTraces = false) (o : Nat) (p1 : Int32) (h : Hp) : ∀ x, m_X0_coloursLaidBy  o p1 h = some x → SR l G 0 M_X0_coloursLaidBy [.ref o, .int p1] h (some (.int x)) h := fun x e => SR.of K_X0_coloursLaidBy hs rfl (Nat.le_of_ble_eq_true rfl) (ss_X0_coloursLaidBy hs o p1 h) e rfl
end
