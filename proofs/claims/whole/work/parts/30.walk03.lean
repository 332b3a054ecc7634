/-! printed by wip/whole/emit.py: walks -/
section
variable {l : Launch} {G : Gx}
set_option maxRecDepth 20000 in
set_option maxHeartbeats 4000000 in
theorem sl_X6_around_L4 (hs : l.stackTraces = false) (u1 : Nat) (u2 : Int32) (h : Hp) (k4_47 : Int32 → Option Int32) (hk4_47 : ∀ (v5 : Int32), Sim l G 1 M_X6_around (fun v : Int32 => ((.inl (some (.int v)) : Oc), h)) 47 [(2, .int v5)] [] h (k4_47 v5)) : ∀ (f : Nat) (w3 : Int32) (w4 : Int32), Sim l G 1 M_X6_around (fun v : Int32 => ((.inl (some (.int v)) : Oc), h)) 4 [(0, .ref u1), (1, .int u2), (2, .int w3), (3, .int w4)] [] h (m_X6_around_L4 u1 u2 h k4_47 f w3 w4) := by
  intro f
  induction f with
  | zero => intro w3 w4; exact S_none rfl
  | succ f ih =>
    intro w3 w4
    rw [m_X6_around_L4]
    refine S_iload_n 3 dX6_around_4 rfl rfl ?_
    refine S_aload_n 0 dX6_around_5 rfl rfl ?_
    refine S_getR kc6 (k := 0) (by decide) kw_1040 dX6_around_6 (fun a6 _ => ?_)
    refine S_iconst 0 dX6_around_9 (by decide) ?_
    refine S_iaload dX6_around_10 (fun x7 _ => ?_)
    refine S_icmp_ge 47 dX6_around_11 (by decide) (fun c17 => ?_) (fun c17 => ?_)
    · exact Sim.sub [2] rfl (hk4_47 w3)
    · refine S_aload_n 0 dX6_around_14 rfl rfl ?_
      refine S_iload_n 1 dX6_around_15 rfl rfl ?_
      refine S_iload_n 3 dX6_around_16 rfl rfl ?_
      refine S_callV_BR (lev' := 0) (My := M_X6_areNext) [.int u2, .int w4] [] kc6 K_X6_areNext kw_1184 kw_1186 kw_40 dX6_around_17 (by decide) rfl (Nat.le_of_ble_eq_true rfl) (fun xx ee => sm_X6_areNext hs u1 u2 w4 h xx ee) (fun bb8 _ => ?_)
      refine S_jK (fun (k10 : Int32 → Option Int32) => ∀ (v9 : Int32), Sim l G 1 M_X6_around (fun v : Int32 => ((.inl (some (.int v)) : Oc), h)) 41 [(0, .ref u1), (1, .int u2), (2, .int v9), (3, .int w4)] [] h (k10 v9)) ?_ (fun k10 hk10 => ?_)
      · intro v9
        refine S_iincN (c := 1) 3 (fun x11 => [(3, .int x11), (0, .ref u1), (1, .int u2), (2, .int v9)]) dX6_around_41 rfl (by decide) (Nat.le_of_ble_eq_true rfl) (fun _ => rfl) (fun x11 => ?_)
        refine S_goto 4 dX6_around_44 (by decide) ?_
        exact Sim.sub [1, 2, 3, 0] rfl (ih v9 x11)
      refine S_if_eqB 41 dX6_around_20 (by decide) (fun c16 => ?_) (fun c16 => ?_)
      · exact Sim.sub [0, 1, 2, 3] rfl (hk10 w3)
      · refine S_aload_n 0 dX6_around_23 rfl rfl ?_
        refine S_iload_n 3 dX6_around_24 rfl rfl ?_
        refine S_callV_BR (lev' := 0) (My := M_X6_isFree) [.int w4] [] kc6 K_X6_isFree kw_1198 kw_1200 kw_43 dX6_around_25 (by decide) rfl (Nat.le_of_ble_eq_true rfl) (fun xx ee => sm_X6_isFree hs u1 w4 h xx ee) (fun bb12 _ => ?_)
        refine S_if_neB 41 dX6_around_28 (by decide) (fun c15 => ?_) (fun c15 => ?_)
        · exact Sim.sub [0, 1, 2, 3] rfl (hk10 w3)
        · refine S_iload_n 2 dX6_around_31 rfl rfl ?_
          refine S_iconst 1 dX6_around_32 (by decide) ?_
          refine S_aload_n 0 dX6_around_33 rfl rfl ?_
          refine S_iload_n 3 dX6_around_34 rfl rfl ?_
          refine S_callV_IR (lev' := 0) (My := M_X6_colourOf) [.int w4] [.int 1, .int w3] kc6 K_X6_colourOf kw_1206 kw_1208 kw_45 dX6_around_35 (by decide) rfl (Nat.le_of_ble_eq_true rfl) (fun xx ee => sm_X6_colourOf hs u1 w4 h xx ee) (fun x13 _ => ?_)
          refine S_ishl dX6_around_38 ?_
          refine S_ior dX6_around_39 ?_
          refine S_nmI (fun x14 => ?_)
          refine S_istore_n [(2, .int x14), (0, .ref u1), (1, .int u2), (3, .int w4)] dX6_around_40 rfl (Nat.le_of_ble_eq_true rfl) rfl ?_
          exact Sim.sub [1, 2, 0, 3] rfl (hk10 x14)
set_option maxRecDepth 20000 in
set_option maxHeartbeats 4000000 in
theorem ss_X6_around (hs : l.stackTraces = false) (o : Nat) (p1 : Int32) (h : Hp) : Sim l G 1 M_X6_around (fun v : Int32 => ((.inl (some (.int v)) : Oc), h)) 0 [(0, .ref o), (1, .int p1)] [] h (m_X6_around  o p1 h) := by
  rw [m_X6_around]
  refine S_iconst 0 dX6_around_0 (by decide) ?_
  refine S_istore_n [(2, .int 0), (0, .ref o), (1, .int p1)] dX6_around_1 rfl (Nat.le_of_ble_eq_true rfl) rfl ?_
  refine S_iconst 0 dX6_around_2 (by decide) ?_
  refine S_istore_n [(3, .int 0), (2, .int 0), (0, .ref o), (1, .int p1)] dX6_around_3 rfl (Nat.le_of_ble_eq_true rfl) rfl ?_
  refine Sim.sub [2, 3, 1, 0] rfl (sl_X6_around_L4 hs o p1 h _ ?_ LF (0 : Int32) (0 : Int32))
  · intro v5
    refine S_iload_n 0 dX6_around_47 rfl rfl ?_
    exact S_ireturn rfl rfl dX6_around_48
theorem sm_X6_around (hs : l.stackTraces = false) (o : Nat) (p1 : Int32) (h : Hp) : ∀ x, m_X6_around  o p1 h = some x → SR l G 1 M_X6_around [.ref o, .int p1] h (some (.int x)) h := fun x e => SR.of K_X6_around hs rfl (Nat.le_of_ble_eq_true rfl) (ss_X6_around hs o p1 h) e rfl
end
section
variable {l : Launch} {G : Gx}
set_option maxRecDepth 20000 in
set_option maxHeartbeats 4000000 in
theorem sl_X6_edgesIn_L4 (hs : l.stackTraces = false) (u1 : Nat) (u2 : Int32) (h : Hp) (k4_50 : Int32 → Option Int32) (hk4_50 : ∀ (v5 : Int32), Sim l G 1 M_X6_edgesIn (fun v : Int32 => ((.inl (some (.int v)) : Oc), h)) 50 [(2, .int v5)] [] h (k4_50 v5)) : ∀ (f : Nat) (w3 : Int32) (w4 : Int32), Sim l G 1 M_X6_edgesIn (fun v : Int32 => ((.inl (some (.int v)) : Oc), h)) 4 [(0, .ref u1), (1, .int u2), (2, .int w3), (3, .int w4)] [] h (m_X6_edgesIn_L4 u1 u2 h k4_50 f w3 w4) := by
  intro f
  induction f with
  | zero => intro w3 w4; exact S_none rfl
  | succ f ih =>
    intro w3 w4
    rw [m_X6_edgesIn_L4]
    refine S_iload_n 3 dX6_edgesIn_4 rfl rfl ?_
    refine S_aload_n 0 dX6_edgesIn_5 rfl rfl ?_
    refine S_getR kc6 (k := 0) (by decide) kw_1040 dX6_edgesIn_6 (fun a6 _ => ?_)
    refine S_iconst 0 dX6_edgesIn_9 (by decide) ?_
    refine S_iaload dX6_edgesIn_10 (fun x7 _ => ?_)
    refine S_icmp_ge 50 dX6_edgesIn_11 (by decide) (fun c16 => ?_) (fun c16 => ?_)
    · exact Sim.sub [2] rfl (hk4_50 w3)
    · refine S_iload_n 2 dX6_edgesIn_14 rfl rfl ?_
      refine S_iload_n 1 dX6_edgesIn_15 rfl rfl ?_
      refine S_iload_n 3 dX6_edgesIn_16 rfl rfl ?_
      refine S_ishr dX6_edgesIn_17 ?_
      refine S_iconst 1 dX6_edgesIn_18 (by decide) ?_
      refine S_iand dX6_edgesIn_19 ?_
      refine S_iconst 1 dX6_edgesIn_20 (by decide) ?_
      refine S_jK (fun (k9 : Int32 → Option Int32) => ∀ (v8 : Int32), Sim l G 1 M_X6_edgesIn (fun v : Int32 => ((.inl (some (.int v)) : Oc), h)) 42 [(0, .ref u1), (1, .int u2), (3, .int w4)] [.int v8, .int w3] h (k9 v8)) ?_ (fun k9 hk9 => ?_)
      · intro v8
        refine S_iadd dX6_edgesIn_42 ?_
        refine S_nmI (fun x10 => ?_)
        refine S_istore_n [(2, .int x10), (0, .ref u1), (1, .int u2), (3, .int w4)] dX6_edgesIn_43 rfl (Nat.le_of_ble_eq_true rfl) rfl ?_
        refine S_iincN (c := 1) 3 (fun x11 => [(3, .int x11), (2, .int x10), (0, .ref u1), (1, .int u2)]) dX6_edgesIn_44 rfl (by decide) (Nat.le_of_ble_eq_true rfl) (fun _ => rfl) (fun x11 => ?_)
        refine S_goto 4 dX6_edgesIn_47 (by decide) ?_
        exact Sim.sub [2, 3, 1, 0] rfl (ih x10 x11)
      refine S_icmp_ne 41 dX6_edgesIn_21 (by decide) (fun c15 => ?_) (fun c15 => ?_)
      · refine S_iconst 0 dX6_edgesIn_41 (by decide) ?_
        exact Sim.sub [0, 1, 3] rfl (hk9 (0 : Int32))
      · refine S_aload_n 0 dX6_edgesIn_24 rfl rfl ?_
        refine S_getR kc6 (k := 0) (by decide) kw_1040 dX6_edgesIn_25 (fun a12 _ => ?_)
        refine S_bipush 13 dX6_edgesIn_28 (by decide) ?_
        refine S_iload_n 3 dX6_edgesIn_30 rfl rfl ?_
        refine S_iadd dX6_edgesIn_31 ?_
        refine S_iaload dX6_edgesIn_32 (fun x13 _ => ?_)
        refine S_iload_n 1 dX6_edgesIn_33 rfl rfl ?_
        refine S_iand dX6_edgesIn_34 ?_
        refine S_callS_IR (lev' := 0) (My := M_X6_bits) [.int (x13 &&& u2)] [.int w3] K_X6_bits kw_1230 kw_1231 dX6_edgesIn_35 (by decide) rfl (Nat.le_of_ble_eq_true rfl) (fun xx ee => sm_X6_bits hs (x13 &&& u2) _ xx ee) (fun x14 _ => ?_)
        refine S_goto 42 dX6_edgesIn_38 (by decide) ?_
        exact Sim.sub [0, 1, 3] rfl (hk9 x14)
set_option maxRecDepth 20000 in
set_option maxHeartbeats 4000000 in
theorem ss_X6_edgesIn (hs : l.stackTraces = false) (o : Nat) (p1 : Int32) (h : Hp) : Sim l G 1 M_X6_edgesIn (fun v : Int32 => ((.inl (some (.int v)) : Oc), h)) 0 [(0, .ref o), (1, .int p1)] [] h (m_X6_edgesIn  o p1 h) := by
  rw [m_X6_edgesIn]
  refine S_iconst 0 dX6_edgesIn_0 (by decide) ?_
  refine S_istore_n [(2, .int 0), (0, .ref o), (1, .int p1)] dX6_edgesIn_1 rfl (Nat.le_of_ble_eq_true rfl) rfl ?_
  refine S_iconst 0 dX6_edgesIn_2 (by decide) ?_
  refine S_istore_n [(3, .int 0), (2, .int 0), (0, .ref o), (1, .int p1)] dX6_edgesIn_3 rfl (Nat.le_of_ble_eq_true rfl) rfl ?_
  refine Sim.sub [2, 3, 1, 0] rfl (sl_X6_edgesIn_L4 hs o p1 h _ ?_ LF (0 : Int32) (0 : Int32))
  · intro v5
    refine S_iload_n 0 dX6_edgesIn_50 rfl rfl ?_
    refine S_iconst 2 dX6_edgesIn_51 (by decide) ?_
    refine S_idivC dX6_edgesIn_52 (by decide) ?_
    exact S_ireturn rfl rfl dX6_edgesIn_53
theorem sm_X6_edgesIn (hs : l.stackTraces = false) (o : Nat) (p1 : Int32) (h : Hp) : ∀ x, m_X6_edgesIn  o p1 h = some x → SR l G 1 M_X6_edgesIn [.ref o, .int p1] h (some (.int x)) h := fun x e => SR.of K_X6_edgesIn hs rfl (Nat.le_of_ble_eq_true rfl) (ss_X6_edgesIn hs o p1 h) e rfl
end
section
variable {l : Launch} {G : Gx}
set_option maxRecDepth 20000 in
set_option maxHeartbeats 4000000 in
theorem ss_X6_isVertex (hs : l.stackTraces = false) (o : Nat) (p1 : Int32) (h : Hp) : Sim l G 1 M_X6_isVertex (fun v : Bool => ((.inl (some (.int (bI v))) : Oc), h)) 0 [(0, .ref o), (1, .int p1)] [] h (m_X6_isVertex  o p1 h) := by
  rw [m_X6_isVertex]
  refine S_iload_n 1 dX6_isVertex_0 rfl rfl ?_
  refine S_iconst 0 dX6_isVertex_1 (by decide) ?_
  refine S_aload_n 0 dX6_isVertex_2 rfl rfl ?_
  refine S_getR kc6 (k := 0) (by decide) kw_1040 dX6_isVertex_3 (fun a1 _ => ?_)
  refine S_iconst 0 dX6_isVertex_6 (by decide) ?_
  refine S_iaload dX6_isVertex_7 (fun x2 _ => ?_)
  refine S_iconst 1 dX6_isVertex_8 (by decide) ?_
  refine S_isub dX6_isVertex_9 ?_
  refine S_callS_BR (lev' := 0) (My := M_X6_isIn) [.int p1, .int 0, .int (x2 - (1 : Int32))] [] K_X6_isIn kw_1127 kw_1128 dX6_isVertex_10 (by decide) rfl (Nat.le_of_ble_eq_true rfl) (fun xx ee => sm_X6_isIn hs p1 (0 : Int32) (x2 - (1 : Int32)) _ xx ee) (fun bb3 _ => ?_)
  exact S_zreturn (b := bb3) rfl rfl dX6_isVertex_13
theorem sm_X6_isVertex (hs : l.stackTraces = false) (o : Nat) (p1 : Int32) (h : Hp) : ∀ x, m_X6_isVertex  o p1 h = some x → SR l G 1 M_X6_isVertex [.ref o, .int p1] h (some (.int (bI x))) h := fun x e => SR.of K_X6_isVertex hs rfl (Nat.le_of_ble_eq_true rfl) (ss_X6_isVertex hs o p1 h) e rfl
end
section
variable {l : Launch} {G : Gx}
set_option maxRecDepth 20000 in
set_option maxHeartbeats 4000000 in
theorem ss_X6_isColour (hs : l.stackTraces = false) (o : Nat) (p1 : Int32) (h : Hp) : Sim l G 1 M_X6_isColour (fun v : Bool => ((.inl (some (.int (bI v))) : Oc), h)) 0 [(0, .ref o), (1, .int p1)] [] h (m_X6_isColour  o p1 h) := by
  rw [m_X6_isColour]
  refine S_iload_n 1 dX6_isColour_0 rfl rfl ?_
  refine S_iconst 0 dX6_isColour_1 (by decide) ?_
  refine S_aload_n 0 dX6_isColour_2 rfl rfl ?_
  refine S_getR kc6 (k := 0) (by decide) kw_1040 dX6_isColour_3 (fun a1 _ => ?_)
  refine S_iconst 1 dX6_isColour_6 (by decide) ?_
  refine S_iaload dX6_isColour_7 (fun x2 _ => ?_)
  refine S_iconst 1 dX6_isColour_8 (by decide) ?_
  refine S_isub dX6_isColour_9 ?_
  refine S_callS_BR (lev' := 0) (My := M_X6_isIn) [.int p1, .int 0, .int (x2 - (1 : Int32))] [] K_X6_isIn kw_1127 kw_1128 dX6_isColour_10 (by decide) rfl (Nat.le_of_ble_eq_true rfl) (fun xx ee => sm_X6_isIn hs p1 (0 : Int32) (x2 - (1 : Int32)) _ xx ee) (fun bb3 _ => ?_)
  exact S_zreturn (b := bb3) rfl rfl dX6_isColour_13
theorem sm_X6_isColour (hs : l.stackTraces = false) (o : Nat) (p1 : Int32) (h : Hp) : ∀ x, m_X6_isColour  o p1 h = some x → SR l G 1 M_X6_isColour [.ref o, .int p1] h (some (.int (bI x))) h := fun x e => SR.of K_X6_isColour hs rfl (Nat.le_of_ble_eq_true rfl) (ss_X6_isColour hs o p1 h) e rfl
end
section
variable {l : Launch} {G : Gx}
set_option maxRecDepth 20000 in
set_option maxHeartbeats 4000000 in
theorem sl_X6_placeOf_L12 (hs : l.stackTraces = false) (u4 : Nat) (u5 : Int32) (u6 : Int32) (h : Hp) (k12_111 : Int32 → Option Int32) (hk12_111 : ∀ (v9 : Int32), Sim l G 1 M_X6_placeOf (fun v : Int32 => ((.inl (some (.int v)) : Oc), h)) 111 [(0, .ref u4), (2, .int u6), (3, .int v9)] [] h (k12_111 v9)) : ∀ (f : Nat) (w7 : Int32) (w8 : Int32), Sim l G 1 M_X6_placeOf (fun v : Int32 => ((.inl (some (.int v)) : Oc), h)) 12 [(0, .ref u4), (1, .int u5), (2, .int u6), (3, .int w7), (4, .int w8)] [] h (m_X6_placeOf_L12 u4 u5 u6 h k12_111 f w7 w8) := by
  intro f
  induction f with
  | zero => intro w7 w8; exact S_none rfl
  | succ f ih =>
    intro w7 w8
    rw [m_X6_placeOf_L12]
    refine S_iload 4 dX6_placeOf_12 rfl ?_
    refine S_if_lt 111 dX6_placeOf_14 (by decide) (fun c30 => ?_) (fun c30 => ?_)
    · exact Sim.sub [0, 2, 3] rfl (hk12_111 w7)
    · refine S_iload_n 1 dX6_placeOf_17 rfl rfl ?_
      refine S_iload 4 dX6_placeOf_18 rfl ?_
      refine S_ishr dX6_placeOf_20 ?_
      refine S_iconst 1 dX6_placeOf_21 (by decide) ?_
      refine S_iand dX6_placeOf_22 ?_
      refine S_iconst 1 dX6_placeOf_23 (by decide) ?_
      refine S_jK (fun (k11 : Bool → Option Int32) => ∀ (v10 : Bool), Sim l G 1 M_X6_placeOf (fun v : Int32 => ((.inl (some (.int v)) : Oc), h)) 32 [(0, .ref u4), (1, .int u5), (2, .int u6), (3, .int w7), (4, .int w8)] [.int (bI v10)] h (k11 v10)) ?_ (fun k11 hk11 => ?_)
      · intro v10
        refine S_istore [(5, .int (bI v10)), (0, .ref u4), (1, .int u5), (2, .int u6), (3, .int w7), (4, .int w8)] dX6_placeOf_32 (Nat.le_of_ble_eq_true rfl) rfl ?_
        refine S_aload_n 1 dX6_placeOf_34 rfl rfl ?_
        refine S_iload 5 dX6_placeOf_35 rfl ?_
        refine S_callV_BR (lev' := 0) (My := M_X6_isFree) [.int w8] [] kc6 K_X6_isFree kw_1198 kw_1200 kw_43 dX6_placeOf_37 (by decide) rfl (Nat.le_of_ble_eq_true rfl) (fun xx ee => sm_X6_isFree hs u4 w8 h xx ee) (fun bb12 _ => ?_)
        refine S_jK (fun (k14 : Bool → Option Int32) => ∀ (v13 : Bool), Sim l G 1 M_X6_placeOf (fun v : Int32 => ((.inl (some (.int v)) : Oc), h)) 63 [(0, .ref u4), (1, .int u5), (2, .int u6), (3, .int w7), (4, .int w8), (5, .int (bI v10))] [.int (bI v13)] h (k14 v13)) ?_ (fun k14 hk14 => ?_)
        · intro v13
          refine S_istore [(6, .int (bI v13)), (0, .ref u4), (1, .int u5), (2, .int u6), (3, .int w7), (4, .int w8), (5, .int (bI v10))] dX6_placeOf_63 (Nat.le_of_ble_eq_true rfl) rfl ?_
          refine S_iload_n 4 dX6_placeOf_65 rfl rfl ?_
          refine S_aload_n 1 dX6_placeOf_66 rfl rfl ?_
          refine S_getR kc6 (k := 0) (by decide) kw_1040 dX6_placeOf_67 (fun a15 _ => ?_)
          refine S_iconst 1 dX6_placeOf_70 (by decide) ?_
          refine S_iaload dX6_placeOf_71 (fun x16 _ => ?_)
          refine S_iconst 1 dX6_placeOf_72 (by decide) ?_
          refine S_iadd dX6_placeOf_73 ?_
          refine S_imul dX6_placeOf_74 ?_
          refine S_iload 6 dX6_placeOf_75 rfl ?_
          refine S_jK (fun (k18 : Int32 → Option Int32) => ∀ (v17 : Int32), Sim l G 1 M_X6_placeOf (fun v : Int32 => ((.inl (some (.int v)) : Oc), h)) 103 [(0, .ref u4), (1, .int u5), (2, .int u6), (4, .int w8)] [.int v17, .int (w7 * (x16 + (1 : Int32)))] h (k18 v17)) ?_ (fun k18 hk18 => ?_)
          · intro v17
            refine S_iadd dX6_placeOf_103 ?_
            refine S_nmI (fun x19 => ?_)
            refine S_istore_n [(3, .int x19), (0, .ref u4), (1, .int u5), (2, .int u6), (4, .int w8)] dX6_placeOf_104 rfl (Nat.le_of_ble_eq_true rfl) rfl ?_
            refine S_iincN (c := (-1)) 4 (fun x20 => [(4, .int x20), (3, .int x19), (0, .ref u4), (1, .int u5), (2, .int u6)]) dX6_placeOf_105 rfl (by decide) (Nat.le_of_ble_eq_true rfl) (fun _ => rfl) (fun x20 => ?_)
            refine S_goto 12 dX6_placeOf_108 (by decide) ?_
            exact Sim.sub [2, 3, 4, 1, 0] rfl (ih x19 x20)
          refine S_if_eqB 84 dX6_placeOf_77 (by decide) (fun c24 => ?_) (fun c24 => ?_)
          · refine S_iload 0 dX6_placeOf_84 rfl ?_
            refine S_if_eqB 102 dX6_placeOf_86 (by decide) (fun c23 => ?_) (fun c23 => ?_)
            · refine S_iconst 1 dX6_placeOf_102 (by decide) ?_
              exact Sim.sub [1, 2, 3, 5] rfl (hk18 (1 : Int32))
            · refine S_aload_n 1 dX6_placeOf_89 rfl rfl ?_
              refine S_getR kc6 (k := 0) (by decide) kw_1040 dX6_placeOf_90 (fun a21 _ => ?_)
              refine S_bipush 22 dX6_placeOf_93 (by decide) ?_
              refine S_iload 5 dX6_placeOf_95 rfl ?_
              refine S_iadd dX6_placeOf_97 ?_
              refine S_iaload dX6_placeOf_98 (fun x22 _ => ?_)
              refine S_goto 103 dX6_placeOf_99 (by decide) ?_
              exact Sim.sub [1, 2, 3, 5] rfl (hk18 x22)
          · refine S_iconst 0 dX6_placeOf_80 (by decide) ?_
            refine S_goto 103 dX6_placeOf_81 (by decide) ?_
            exact Sim.sub [1, 2, 3, 5] rfl (hk18 (0 : Int32))
        refine S_if_neB 62 dX6_placeOf_40 (by decide) (fun c28 => ?_) (fun c28 => ?_)
        · refine S_iconst 0 dX6_placeOf_62 (by decide) ?_
          exact Sim.sub [1, 2, 3, 4, 5, 0] rfl (hk14 false)
        · refine S_aload_n 1 dX6_placeOf_43 rfl rfl ?_
          refine S_getR kc6 (k := 0) (by decide) kw_1040 dX6_placeOf_44 (fun a25 _ => ?_)
          refine S_bipush 13 dX6_placeOf_47 (by decide) ?_
          refine S_iload 5 dX6_placeOf_49 rfl ?_
          refine S_iadd dX6_placeOf_51 ?_
          refine S_iaload dX6_placeOf_52 (fun x26 _ => ?_)
          refine S_iload_n 2 dX6_placeOf_53 rfl rfl ?_
          refine S_iand dX6_placeOf_54 ?_
          refine S_if_eq 62 dX6_placeOf_55 (by decide) (fun c27 => ?_) (fun c27 => ?_)
          · refine S_iconst 0 dX6_placeOf_62 (by decide) ?_
            exact Sim.sub [1, 2, 3, 4, 5, 0] rfl (hk14 false)
          · refine S_iconst 1 dX6_placeOf_58 (by decide) ?_
            refine S_goto 63 dX6_placeOf_59 (by decide) ?_
            exact Sim.sub [1, 2, 3, 4, 5, 0] rfl (hk14 true)
      refine S_icmp_ne 31 dX6_placeOf_24 (by decide) (fun c29 => ?_) (fun c29 => ?_)
      · refine S_iconst 0 dX6_placeOf_31 (by decide) ?_
        exact Sim.sub [0, 1, 2, 3, 4] rfl (hk11 false)
      · refine S_iconst 1 dX6_placeOf_27 (by decide) ?_
        refine S_goto 32 dX6_placeOf_28 (by decide) ?_
        exact Sim.sub [0, 1, 2, 3, 4] rfl (hk11 true)
set_option maxRecDepth 20000 in
set_option maxHeartbeats 4000000 in
theorem ss_X6_placeOf (hs : l.stackTraces = false) (o : Nat) (p1 : Int32) (p2 : Int32) (h : Hp) : Sim l G 1 M_X6_placeOf (fun v : Int32 => ((.inl (some (.int v)) : Oc), h)) 0 [(0, .ref o), (1, .int p1), (2, .int p2)] [] h (m_X6_placeOf  o p1 p2 h) := by
  rw [m_X6_placeOf]
  refine S_iconst 0 dX6_placeOf_0 (by decide) ?_
  refine S_istore_n [(3, .int 0), (0, .ref o), (1, .int p1), (2, .int p2)] dX6_placeOf_1 rfl (Nat.le_of_ble_eq_true rfl) rfl ?_
  refine S_aload_n 1 dX6_placeOf_2 rfl rfl ?_
  refine S_getR kc6 (k := 0) (by decide) kw_1040 dX6_placeOf_3 (fun a1 _ => ?_)
  refine S_iconst 0 dX6_placeOf_6 (by decide) ?_
  refine S_iaload dX6_placeOf_7 (fun x2 _ => ?_)
  refine S_iconst 1 dX6_placeOf_8 (by decide) ?_
  refine S_isub dX6_placeOf_9 ?_
  refine S_nmI (fun x3 => ?_)
  refine S_istore [(4, .int x3), (3, .int 0), (0, .ref o), (1, .int p1), (2, .int p2)] dX6_placeOf_10 (Nat.le_of_ble_eq_true rfl) rfl ?_
  refine Sim.sub [2, 3, 4, 1, 0] rfl (sl_X6_placeOf_L12 hs o p1 p2 h _ ?_ LF (0 : Int32) x3)
  · intro v9
    refine S_iload_n 2 dX6_placeOf_111 rfl rfl ?_
    refine S_aload_n 0 dX6_placeOf_112 rfl rfl ?_
    refine S_getR kc6 (k := 0) (by decide) kw_1040 dX6_placeOf_113 (fun a31 _ => ?_)
    refine S_iconst 1 dX6_placeOf_116 (by decide) ?_
    refine S_iaload dX6_placeOf_117 (fun x32 _ => ?_)
    refine S_iconst 1 dX6_placeOf_118 (by decide) ?_
    refine S_iadd dX6_placeOf_119 ?_
    refine S_imul dX6_placeOf_120 ?_
    refine S_iload_n 1 dX6_placeOf_121 rfl rfl ?_
    refine S_iadd dX6_placeOf_122 ?_
    refine S_iconst 1 dX6_placeOf_123 (by decide) ?_
    refine S_iadd dX6_placeOf_124 ?_
    exact S_ireturn rfl rfl dX6_placeOf_125
theorem sm_X6_placeOf (hs : l.stackTraces = false) (o : Nat) (p1 : Int32) (p2 : Int32) (h : Hp) : ∀ x, m_X6_placeOf  o p1 p2 h = some x → SR l G 1 M_X6_placeOf [.ref o, .int p1, .int p2] h (some (.int x)) h := fun x e => SR.of K_X6_placeOf hs rfl (Nat.le_of_ble_eq_true rfl) (ss_X6_placeOf hs o p1 p2 h) e rfl
end
section
variable {l : Launch} {G : Gx}
set_option maxRecDepth 20000 in
set_option maxHeartbeats 4000000 in
theorem ss_X6_move (hs : l.stackTraces = false) (o : Nat) (p1 : Int32) (p2 : Int32) (h : Hp) : Sim l G 1 M_X6_move (fun p : Int32 × Hp => ((.inl (some (.int p.1)) : Oc), p.2)) 0 [(0, .ref o), (1, .int p1), (2, .int p2)] [] h (m_X6_move  o p1 p2 h) := by
  rw [m_X6_move]
  refine S_aload_n 0 dX6_move_0 rfl rfl ?_
  refine S_iload_n 1 dX6_move_1 rfl rfl ?_
  refine S_iconst 0 dX6_move_2 (by decide) ?_
  refine S_aload_n 0 dX6_move_3 rfl rfl ?_
  refine S_getR kc6 (k := 0) (by decide) kw_1040 dX6_move_4 (fun a1 _ => ?_)
  refine S_iconst 3 dX6_move_7 (by decide) ?_
  refine S_iaload dX6_move_8 (fun x2 _ => ?_)
  refine S_iconst 1 dX6_move_9 (by decide) ?_
  refine S_isub dX6_move_10 ?_
  refine S_callS_BR (lev' := 0) (My := M_X6_isIn) [.int p1, .int 0, .int (x2 - (1 : Int32))] [.ref o] K_X6_isIn kw_1127 kw_1128 dX6_move_11 (by decide) rfl (Nat.le_of_ble_eq_true rfl) (fun xx ee => sm_X6_isIn hs p1 (0 : Int32) (x2 - (1 : Int32)) _ xx ee) (fun bb3 _ => ?_)
  refine S_jK (fun (k5 : Int32 → Option (Int32 × Hp)) => ∀ (v4 : Int32), Sim l G 1 M_X6_move (fun p : Int32 × Hp => ((.inl (some (.int p.1)) : Oc), p.2)) 35 [(0, .ref o), (1, .int p1), (2, .int p2)] [.int v4, .ref o] h (k5 v4)) ?_ (fun k5 hk5 => ?_)
  · intro v4
    refine S_put kc6 (k := 7) (by decide) rfl kw_1047 rfl rfl dX6_move_35 (fun h6 _ => ?_)
    refine S_aload_n 0 dX6_move_38 rfl rfl ?_
    refine S_getI kc6 (k := 7) (by decide) kw_1047 dX6_move_39 (fun x7 _ => ?_)
    refine S_if_le 49 dX6_move_42 (by decide) (fun c9 => ?_) (fun c9 => ?_)
    · refine S_aload_n 0 dX6_move_49 rfl rfl ?_
      refine S_iload_n 1 dX6_move_50 rfl rfl ?_
      refine S_iload_n 2 dX6_move_51 rfl rfl ?_
      refine S_callV_IR (lev' := 0) (My := M_X6_moved) [.int p1, .int p2] [] kc6 K_X6_moved kw_1424 kw_1426 kw_78 dX6_move_52 (by decide) rfl (Nat.le_of_ble_eq_true rfl) (fun xx ee => sm_X6_moved hs o p1 p2 h6 xx ee) (fun x8 _ => ?_)
      exact S_ireturn rfl rfl dX6_move_55
    · refine S_iconst 0 dX6_move_45 (by decide) ?_
      refine S_goto 55 dX6_move_46 (by decide) ?_
      exact S_ireturn rfl rfl dX6_move_55
  refine S_if_neB 21 dX6_move_14 (by decide) (fun c12 => ?_) (fun c12 => ?_)
  · refine S_iload_n 2 dX6_move_21 rfl rfl ?_
    refine S_iconst 0 dX6_move_22 (by decide) ?_
    refine S_iconst 3 dX6_move_23 (by decide) ?_
    refine S_callS_BR (lev' := 0) (My := M_X6_isIn) [.int p2, .int 0, .int 3] [.ref o] K_X6_isIn kw_1127 kw_1128 dX6_move_24 (by decide) rfl (Nat.le_of_ble_eq_true rfl) (fun xx ee => sm_X6_isIn hs p2 (0 : Int32) (3 : Int32) _ xx ee) (fun bb10 _ => ?_)
    refine S_if_eqB 34 dX6_move_27 (by decide) (fun c11 => ?_) (fun c11 => ?_)
    · refine S_iconst 2 dX6_move_34 (by decide) ?_
      exact Sim.sub [0, 1, 2] rfl (hk5 (2 : Int32))
    · refine S_iconst 0 dX6_move_30 (by decide) ?_
      refine S_goto 35 dX6_move_31 (by decide) ?_
      exact Sim.sub [0, 1, 2] rfl (hk5 (0 : Int32))
  · refine S_iconst 1 dX6_move_17 (by decide) ?_
    refine S_goto 35 dX6_move_18 (by decide) ?_
    exact Sim.sub [0, 1, 2] rfl (hk5 (1 : Int32))
theorem sm_X6_move (hs : l.stackTraces = false) (o : Nat) (p1 : Int32) (p2 : Int32) (h : Hp) : ∀ x h1, m_X6_move  o p1 p2 h = some (x, h1) → SR l G 1 M_X6_move [.ref o, .int p1, .int p2] h (some (.int x)) h1 := fun x h1 e => SR.of K_X6_move hs rfl (Nat.le_of_ble_eq_true rfl) (ss_X6_move hs o p1 p2 h) e rfl
end
section
variable {l : Launch} {G : Gx}
set_option maxRecDepth 20000 in
set_option maxHeartbeats 4000000 in
theorem ss_X6_counts (hs : l.stackTraces = false) (o : Nat) (p1 : Int32) (p2 : Int32) (h : Hp) : Sim l G 1 M_X6_counts (fun v : Bool => ((.inl (some (.int (bI v))) : Oc), h)) 0 [(0, .ref o), (1, .int p1), (2, .int p2)] [] h (m_X6_counts  o p1 p2 h) := by
  rw [m_X6_counts]
  refine S_aload_n 0 dX6_counts_0 rfl rfl ?_
  refine S_iload_n 1 dX6_counts_1 rfl rfl ?_
  refine S_iconst 1 dX6_counts_2 (by decide) ?_
  refine S_callV_IR (lev' := 0) (My := M_X6_moved) [.int p1, .int 1] [] kc6 K_X6_moved kw_1424 kw_1426 kw_78 dX6_counts_3 (by decide) rfl (Nat.le_of_ble_eq_true rfl) (fun xx ee => sm_X6_moved hs o p1 (1 : Int32) h xx ee) (fun x1 _ => ?_)
  refine S_iconst (-1) dX6_counts_6 (by decide) ?_
  refine S_jK (fun (k3 : Bool → Option Bool) => ∀ (v2 : Bool), Sim l G 1 M_X6_counts (fun v : Bool => ((.inl (some (.int (bI v))) : Oc), h)) 15 [(0, .ref o), (1, .int p1), (2, .int p2)] [.int (bI v2)] h (k3 v2)) ?_ (fun k3 hk3 => ?_)
  · intro v2
    refine S_istore_n [(3, .int (bI v2)), (0, .ref o), (1, .int p1), (2, .int p2)] dX6_counts_15 rfl (Nat.le_of_ble_eq_true rfl) rfl ?_
    refine S_iload_n 3 dX6_counts_16 rfl rfl ?_
    refine S_iconst 1 dX6_counts_17 (by decide) ?_
    refine S_icmp_ne 25 dX6_counts_18 (by decide) (fun c13 => ?_) (fun c13 => ?_)
    · refine S_iload_n 0 dX6_counts_25 rfl rfl ?_
      refine S_if_neB 66 dX6_counts_26 (by decide) (fun c12 => ?_) (fun c12 => ?_)
      · refine S_iconst 0 dX6_counts_66 (by decide) ?_
        exact S_zreturn (b := false) rfl rfl dX6_counts_67
      · refine S_iload_n 3 dX6_counts_29 rfl rfl ?_
        refine S_if_eq 62 dX6_counts_30 (by decide) (fun c11 => ?_) (fun c11 => ?_)
        · refine S_iconst 1 dX6_counts_62 (by decide) ?_
          refine S_goto 67 dX6_counts_63 (by decide) ?_
          exact S_zreturn (b := true) rfl rfl dX6_counts_67
        · refine S_iload_n 3 dX6_counts_33 rfl rfl ?_
          refine S_iconst 2 dX6_counts_34 (by decide) ?_
          refine S_jK (fun (k4 : Option Bool) => Sim l G 1 M_X6_counts (fun v : Bool => ((.inl (some (.int (bI v))) : Oc), h)) 48 [(0, .ref o), (1, .int p1), (2, .int p2)] [] h (k4)) ?_ (fun k4 hk4 => ?_)
          · refine S_iload_n 2 dX6_counts_48 rfl rfl ?_
            refine S_iconst 3 dX6_counts_49 (by decide) ?_
            refine S_icmp_ne 66 dX6_counts_50 (by decide) (fun c7 => ?_) (fun c7 => ?_)
            · refine S_iconst 0 dX6_counts_66 (by decide) ?_
              exact S_zreturn (b := false) rfl rfl dX6_counts_67
            · refine S_aload_n 0 dX6_counts_53 rfl rfl ?_
              refine S_iload_n 1 dX6_counts_54 rfl rfl ?_
              refine S_iconst 4 dX6_counts_55 (by decide) ?_
              refine S_callV_IR (lev' := 0) (My := M_X6_moved) [.int p1, .int 4] [] kc6 K_X6_moved kw_1424 kw_1426 kw_78 dX6_counts_56 (by decide) rfl (Nat.le_of_ble_eq_true rfl) (fun xx ee => sm_X6_moved hs o p1 (4 : Int32) h xx ee) (fun x5 _ => ?_)
              refine S_if_ne 66 dX6_counts_59 (by decide) (fun c6 => ?_) (fun c6 => ?_)
              · refine S_iconst 0 dX6_counts_66 (by decide) ?_
                exact S_zreturn (b := false) rfl rfl dX6_counts_67
              · refine S_iconst 1 dX6_counts_62 (by decide) ?_
                refine S_goto 67 dX6_counts_63 (by decide) ?_
                exact S_zreturn (b := true) rfl rfl dX6_counts_67
          refine S_icmp_ne 48 dX6_counts_35 (by decide) (fun c10 => ?_) (fun c10 => ?_)
          · exact Sim.sub [1, 2, 3] rfl (hk4)
          · refine S_aload_n 1 dX6_counts_38 rfl rfl ?_
            refine S_iload_n 2 dX6_counts_39 rfl rfl ?_
            refine S_iconst 4 dX6_counts_40 (by decide) ?_
            refine S_callV_IR (lev' := 0) (My := M_X6_moved) [.int p1, .int 4] [] kc6 K_X6_moved kw_1424 kw_1426 kw_78 dX6_counts_41 (by decide) rfl (Nat.le_of_ble_eq_true rfl) (fun xx ee => sm_X6_moved hs o p1 (4 : Int32) h xx ee) (fun x8 _ => ?_)
            refine S_iconst 1 dX6_counts_44 (by decide) ?_
            refine S_icmp_gt 62 dX6_counts_45 (by decide) (fun c9 => ?_) (fun c9 => ?_)
            · refine S_iconst 1 dX6_counts_62 (by decide) ?_
              refine S_goto 67 dX6_counts_63 (by decide) ?_
              exact S_zreturn (b := true) rfl rfl dX6_counts_67
            · exact Sim.sub [1, 2, 3] rfl (hk4)
    · refine S_iload_n 0 dX6_counts_21 rfl rfl ?_
      refine S_goto 67 dX6_counts_22 (by decide) ?_
      exact S_zreturn (b := v2) rfl rfl dX6_counts_67
  refine S_icmp_ne 14 dX6_counts_7 (by decide) (fun c14 => ?_) (fun c14 => ?_)
  · refine S_iconst 0 dX6_counts_14 (by decide) ?_
    exact Sim.sub [0, 1, 2] rfl (hk3 false)
  · refine S_iconst 1 dX6_counts_10 (by decide) ?_
    refine S_goto 15 dX6_counts_11 (by decide) ?_
    exact Sim.sub [0, 1, 2] rfl (hk3 true)
theorem sm_X6_counts (hs : l.stackTraces = false) (o : Nat) (p1 : Int32) (p2 : Int32) (h : Hp) : ∀ x, m_X6_counts  o p1 p2 h = some x → SR l G 1 M_X6_counts [.ref o, .int p1, .int p2] h (some (.int (bI x))) h := fun x e => SR.of K_X6_counts hs rfl (Nat.le_of_ble_eq_true rfl) (ss_X6_counts hs o p1 p2 h) e rfl
end
section
variable {l : Launch} {G : Gx}
set_option maxRecDepth 20000 in
set_option maxHeartbeats 4000000 in
theorem sl_X6_writeBoard_L12 (hs : l.stackTraces = false) (u3 : Nat) (k12_53 : Hp → Option (Int32 × Hp)) (hk12_53 : ∀ (h5 : Hp), Sim l G 1 M_X6_writeBoard (fun p : Int32 × Hp => ((.inl (some (.int p.1)) : Oc), p.2)) 53 [(0, .ref u3)] [] h5 (k12_53 h5)) : ∀ (f : Nat) (w4 : Int32) (h : Hp), Sim l G 1 M_X6_writeBoard (fun p : Int32 × Hp => ((.inl (some (.int p.1)) : Oc), p.2)) 12 [(0, .ref u3), (1, .int w4)] [] h (m_X6_writeBoard_L12 u3 k12_53 f w4 h) := by
  intro f
  induction f with
  | zero => intro w4 h; exact S_none rfl
  | succ f ih =>
    intro w4 h
    rw [m_X6_writeBoard_L12]
    refine S_iload_n 1 dX6_writeBoard_12 rfl rfl ?_
    refine S_aload_n 0 dX6_writeBoard_13 rfl rfl ?_
    refine S_getR kc6 (k := 0) (by decide) kw_1040 dX6_writeBoard_14 (fun a6 _ => ?_)
    refine S_iconst 0 dX6_writeBoard_17 (by decide) ?_
    refine S_iaload dX6_writeBoard_18 (fun x7 _ => ?_)
    refine S_icmp_ge 53 dX6_writeBoard_19 (by decide) (fun c15 => ?_) (fun c15 => ?_)
    · exact Sim.sub [0] rfl (hk12_53 h)
    · refine S_aload_n 0 dX6_writeBoard_22 rfl rfl ?_
      refine S_aload_n 0 dX6_writeBoard_23 rfl rfl ?_
      refine S_iload_n 1 dX6_writeBoard_24 rfl rfl ?_
      refine S_callV_BR (lev' := 0) (My := M_X6_isFree) [.int w4] [.ref u3] kc6 K_X6_isFree kw_1198 kw_1200 kw_43 dX6_writeBoard_25 (by decide) rfl (Nat.le_of_ble_eq_true rfl) (fun xx ee => sm_X6_isFree hs u3 w4 h xx ee) (fun bb8 _ => ?_)
      refine S_jK (fun (k10 : Int32 → Option (Int32 × Hp)) => ∀ (v9 : Int32), Sim l G 1 M_X6_writeBoard (fun p : Int32 × Hp => ((.inl (some (.int p.1)) : Oc), p.2)) 44 [(0, .ref u3), (1, .int w4)] [.int v9, .ref u3] h (k10 v9)) ?_ (fun k10 hk10 => ?_)
      · intro v9
        refine S_callV_VW (lev' := 0) (My := M_X6_says) [.int v9] [] kc6 K_X6_says kw_1440 kw_1442 kw_80 dX6_writeBoard_44 (by decide) rfl (Nat.le_of_ble_eq_true rfl) (fun xx ee => sm_X6_says hs u3 v9 h xx ee) (fun h11 _ => ?_)
        refine S_iincN (c := 1) 1 (fun x12 => [(1, .int x12), (0, .ref u3)]) dX6_writeBoard_47 rfl (by decide) (Nat.le_of_ble_eq_true rfl) (fun _ => rfl) (fun x12 => ?_)
        refine S_goto 12 dX6_writeBoard_50 (by decide) ?_
        exact Sim.sub [1, 0] rfl (ih x12 h11)
      refine S_if_eqB 36 dX6_writeBoard_28 (by decide) (fun c14 => ?_) (fun c14 => ?_)
      · refine S_bipush 97 dX6_writeBoard_36 (by decide) ?_
        refine S_aload_n 0 dX6_writeBoard_38 rfl rfl ?_
        refine S_iload_n 1 dX6_writeBoard_39 rfl rfl ?_
        refine S_callV_IR (lev' := 0) (My := M_X6_colourOf) [.int w4] [.int 97, .ref u3] kc6 K_X6_colourOf kw_1206 kw_1208 kw_45 dX6_writeBoard_40 (by decide) rfl (Nat.le_of_ble_eq_true rfl) (fun xx ee => sm_X6_colourOf hs u3 w4 h xx ee) (fun x13 _ => ?_)
        refine S_iadd dX6_writeBoard_43 ?_
        exact Sim.sub [0, 1] rfl (hk10 ((97 : Int32) + x13))
      · refine S_bipush 46 dX6_writeBoard_31 (by decide) ?_
        refine S_goto 44 dX6_writeBoard_33 (by decide) ?_
        exact Sim.sub [0, 1] rfl (hk10 (46 : Int32))
set_option maxRecDepth 20000 in
set_option maxHeartbeats 4000000 in
theorem ss_X6_writeBoard (hs : l.stackTraces = false) (o : Nat) (h : Hp) : Sim l G 1 M_X6_writeBoard (fun p : Int32 × Hp => ((.inl (some (.int p.1)) : Oc), p.2)) 0 [(0, .ref o)] [] h (m_X6_writeBoard  o h) := by
  rw [m_X6_writeBoard]
  refine S_aload_n 0 dX6_writeBoard_0 rfl rfl ?_
  refine S_iconst 0 dX6_writeBoard_1 (by decide) ?_
  refine S_put kc6 (k := 7) (by decide) rfl kw_1047 rfl rfl dX6_writeBoard_2 (fun h1 _ => ?_)
  refine S_aload_n 0 dX6_writeBoard_5 rfl rfl ?_
  refine S_iconst 0 dX6_writeBoard_6 (by decide) ?_
  refine S_put kc6 (k := 21) (by decide) rfl kw_1061 rfl rfl dX6_writeBoard_7 (fun h2 _ => ?_)
  refine S_iconst 0 dX6_writeBoard_10 (by decide) ?_
  refine S_istore_n [(1, .int 0), (0, .ref o)] dX6_writeBoard_11 rfl (Nat.le_of_ble_eq_true rfl) rfl ?_
  refine Sim.sub [1, 0] rfl (sl_X6_writeBoard_L12 hs o _ ?_ LF (0 : Int32) h2)
  · intro h5
    refine S_aload_n 0 dX6_writeBoard_53 rfl rfl ?_
    refine S_bipush 47 dX6_writeBoard_54 (by decide) ?_
    refine S_callV_VW (lev' := 0) (My := M_X6_says) [.int 47] [] kc6 K_X6_says kw_1440 kw_1442 kw_80 dX6_writeBoard_56 (by decide) rfl (Nat.le_of_ble_eq_true rfl) (fun xx ee => sm_X6_says hs o (47 : Int32) h5 xx ee) (fun h16 _ => ?_)
    refine S_aload_n 0 dX6_writeBoard_59 rfl rfl ?_
    refine S_bipush 48 dX6_writeBoard_60 (by decide) ?_
    refine S_aload_n 0 dX6_writeBoard_62 rfl rfl ?_
    refine S_callV_IR (lev' := 0) (My := M_X6_turn) [] [.int 48, .ref o] kc6 K_X6_turn kw_1248 kw_1250 kw_54 dX6_writeBoard_63 (by decide) rfl (Nat.le_of_ble_eq_true rfl) (fun xx ee => sm_X6_turn hs o h16 xx ee) (fun x17 _ => ?_)
    refine S_iadd dX6_writeBoard_66 ?_
    refine S_callV_VW (lev' := 0) (My := M_X6_says) [.int ((48 : Int32) + x17)] [] kc6 K_X6_says kw_1440 kw_1442 kw_80 dX6_writeBoard_67 (by decide) rfl (Nat.le_of_ble_eq_true rfl) (fun xx ee => sm_X6_says hs o ((48 : Int32) + x17) h16 xx ee) (fun h18 _ => ?_)
    refine S_aload_n 0 dX6_writeBoard_70 rfl rfl ?_
    refine S_bipush 47 dX6_writeBoard_71 (by decide) ?_
    refine S_callV_VW (lev' := 0) (My := M_X6_says) [.int 47] [] kc6 K_X6_says kw_1440 kw_1442 kw_80 dX6_writeBoard_73 (by decide) rfl (Nat.le_of_ble_eq_true rfl) (fun xx ee => sm_X6_says hs o (47 : Int32) h18 xx ee) (fun h19 _ => ?_)
    refine S_aload_n 0 dX6_writeBoard_76 rfl rfl ?_
    refine S_bipush 48 dX6_writeBoard_77 (by decide) ?_
    refine S_aload_n 0 dX6_writeBoard_79 rfl rfl ?_
    refine S_getR kc6 (k := 0) (by decide) kw_1040 dX6_writeBoard_80 (fun a20 _ => ?_)
    refine S_iconst 2 dX6_writeBoard_83 (by decide) ?_
    refine S_iaload dX6_writeBoard_84 (fun x21 _ => ?_)
    refine S_iadd dX6_writeBoard_85 ?_
    refine S_callV_VW (lev' := 0) (My := M_X6_says) [.int ((48 : Int32) + x21)] [] kc6 K_X6_says kw_1440 kw_1442 kw_80 dX6_writeBoard_86 (by decide) rfl (Nat.le_of_ble_eq_true rfl) (fun xx ee => sm_X6_says hs o ((48 : Int32) + x21) h19 xx ee) (fun h22 _ => ?_)
    refine S_aload_n 0 dX6_writeBoard_89 rfl rfl ?_
    refine S_getI kc6 (k := 21) (by decide) kw_1061 dX6_writeBoard_90 (fun x23 _ => ?_)
    exact S_ireturn rfl rfl dX6_writeBoard_93
theorem sm_X6_writeBoard (hs : l.stackTraces = false) (o : Nat) (h : Hp) : ∀ x h1, m_X6_writeBoard  o h = some (x, h1) → SR l G 1 M_X6_writeBoard [.ref o] h (some (.int x)) h1 := fun x h1 e => SR.of K_X6_writeBoard hs rfl (Nat.le_of_ble_eq_true rfl) (ss_X6_writeBoard hs o h) e rfl
end
section
variable {l : Launch} {G : Gx}
set_option maxRecDepth 20000 in
set_option maxHeartbeats 4000000 in
theorem ss_X6_writtenByte (hs : l.stackTraces = false) (o : Nat) (p1 : Int32) (h : Hp) : Sim l G 1 M_X6_writtenByte (fun p : Int32 × Hp => ((.inl (some (.int p.1)) : Oc), p.2)) 0 [(0, .ref o), (1, .int p1)] [] h (m_X6_writtenByte  o p1 h) := by
  rw [m_X6_writtenByte]
  refine S_aload_n 0 dX6_writtenByte_0 rfl rfl ?_
  refine S_iload_n 1 dX6_writtenByte_1 rfl rfl ?_
  refine S_iconst 0 dX6_writtenByte_2 (by decide) ?_
  refine S_aload_n 0 dX6_writtenByte_3 rfl rfl ?_
  refine S_getI kc6 (k := 21) (by decide) kw_1061 dX6_writtenByte_4 (fun x1 _ => ?_)
  refine S_iconst 1 dX6_writtenByte_7 (by decide) ?_
  refine S_isub dX6_writtenByte_8 ?_
  refine S_callS_BR (lev' := 0) (My := M_X6_isIn) [.int p1, .int 0, .int (x1 - (1 : Int32))] [.ref o] K_X6_isIn kw_1127 kw_1128 dX6_writtenByte_9 (by decide) rfl (Nat.le_of_ble_eq_true rfl) (fun xx ee => sm_X6_isIn hs p1 (0 : Int32) (x1 - (1 : Int32)) _ xx ee) (fun bb2 _ => ?_)
  refine S_jK (fun (k4 : Bool → Option (Int32 × Hp)) => ∀ (v3 : Bool), Sim l G 1 M_X6_writtenByte (fun p : Int32 × Hp => ((.inl (some (.int p.1)) : Oc), p.2)) 20 [(0, .ref o), (1, .int p1)] [.int (bI v3), .ref o] h (k4 v3)) ?_ (fun k4 hk4 => ?_)
  · intro v3
    refine S_put kc6 (k := 7) (by decide) rfl kw_1047 rfl rfl dX6_writtenByte_20 (fun h5 _ => ?_)
    refine S_aload_n 0 dX6_writtenByte_23 rfl rfl ?_
    refine S_getI kc6 (k := 7) (by decide) kw_1047 dX6_writtenByte_24 (fun x6 _ => ?_)
    refine S_if_le 34 dX6_writtenByte_27 (by decide) (fun c9 => ?_) (fun c9 => ?_)
    · refine S_aload_n 0 dX6_writtenByte_34 rfl rfl ?_
      refine S_getR kc6 (k := 20) (by decide) kw_1060 dX6_writtenByte_35 (fun a7 _ => ?_)
      refine S_iload_n 1 dX6_writtenByte_38 rfl rfl ?_
      refine S_iaload dX6_writtenByte_39 (fun x8 _ => ?_)
      exact S_ireturn rfl rfl dX6_writtenByte_40
    · refine S_iconst 0 dX6_writtenByte_30 (by decide) ?_
      refine S_goto 40 dX6_writtenByte_31 (by decide) ?_
      exact S_ireturn rfl rfl dX6_writtenByte_40
  refine S_if_eqB 19 dX6_writtenByte_12 (by decide) (fun c10 => ?_) (fun c10 => ?_)
  · refine S_iconst 1 dX6_writtenByte_19 (by decide) ?_
    exact Sim.sub [0, 1] rfl (hk4 true)
  · refine S_iconst 0 dX6_writtenByte_15 (by decide) ?_
    refine S_goto 20 dX6_writtenByte_16 (by decide) ?_
    exact Sim.sub [0, 1] rfl (hk4 false)
theorem sm_X6_writtenByte (hs : l.stackTraces = false) (o : Nat) (p1 : Int32) (h : Hp) : ∀ x h1, m_X6_writtenByte  o p1 h = some (x, h1) → SR l G 1 M_X6_writtenByte [.ref o, .int p1] h (some (.int x)) h1 := fun x h1 e => SR.of K_X6_writtenByte hs rfl (Nat.le_of_ble_eq_true rfl) (ss_X6_writtenByte hs o p1 h) e rfl
end
section
variable {l : Launch} {G : Gx}
set_option maxRecDepth 20000 in
set_option maxHeartbeats 4000000 in
theorem ss_X6_save (hs : l.stackTraces = false) (o : Nat) (p1 : Int32) (h : Hp) : Sim l G 1 M_X6_save (fun p : Int32 × Hp => ((.inl (some (.int p.1)) : Oc), p.2)) 0 [(0, .ref o), (1, .int p1)] [] h (m_X6_save  o p1 h) := by
  rw [m_X6_save]
  refine S_aload_n 0 dX6_save_0 rfl rfl ?_
  refine S_iload_n 1 dX6_save_1 rfl rfl ?_
  refine S_iconst 0 dX6_save_2 (by decide) ?_
  refine S_iconst 1 dX6_save_3 (by decide) ?_
  refine S_callS_BR (lev' := 0) (My := M_X6_isIn) [.int p1, .int 0, .int 1] [.ref o] K_X6_isIn kw_1127 kw_1128 dX6_save_4 (by decide) rfl (Nat.le_of_ble_eq_true rfl) (fun xx ee => sm_X6_isIn hs p1 (0 : Int32) (1 : Int32) _ xx ee) (fun bb1 _ => ?_)
  refine S_jK (fun (k3 : Bool → Option (Int32 × Hp)) => ∀ (v2 : Bool), Sim l G 1 M_X6_save (fun p : Int32 × Hp => ((.inl (some (.int p.1)) : Oc), p.2)) 15 [(0, .ref o), (1, .int p1)] [.int (bI v2), .ref o] h (k3 v2)) ?_ (fun k3 hk3 => ?_)
  · intro v2
    refine S_put kc6 (k := 7) (by decide) rfl kw_1047 rfl rfl dX6_save_15 (fun h4 _ => ?_)
    refine S_aload_n 0 dX6_save_18 rfl rfl ?_
    refine S_getI kc6 (k := 7) (by decide) kw_1047 dX6_save_19 (fun x5 _ => ?_)
    refine S_if_le 27 dX6_save_22 (by decide) (fun c13 => ?_) (fun c13 => ?_)
    · refine S_aload_n 0 dX6_save_27 rfl rfl ?_
      refine S_getR kc6 (k := 5) (by decide) kw_1045 dX6_save_28 (fun a6 _ => ?_)
      refine S_iload_n 1 dX6_save_31 rfl rfl ?_
      refine S_iconst 1 dX6_save_32 (by decide) ?_
      refine S_zastore dX6_save_33 (fun h7 _ => ?_)
      refine S_aload_n 0 dX6_save_34 rfl rfl ?_
      refine S_getR kc6 (k := 4) (by decide) kw_1044 dX6_save_35 (fun a8 _ => ?_)
      refine S_sipush 4136 dX6_save_38 (by decide) ?_
      refine S_iload_n 1 dX6_save_41 rfl rfl ?_
      refine S_imul dX6_save_42 ?_
      refine S_aload_n 0 dX6_save_43 rfl rfl ?_
      refine S_getR kc6 (k := 0) (by decide) kw_1040 dX6_save_44 (fun a9 _ => ?_)
      refine S_iconst 0 dX6_save_47 (by decide) ?_
      refine S_callS_VW (lev' := 0) (My := M_X6_sets) [.ref a8, .int ((4136 : Int32) * p1), .ref a9, .int 0] [] K_X6_sets kw_1116 kw_1117 dX6_save_48 (by decide) rfl (Nat.le_of_ble_eq_true rfl) (fun xx ee => sm_X6_sets hs a8 ((4136 : Int32) * p1) a9 (0 : Int32) h7 xx ee) (fun h10 _ => ?_)
      refine S_aload_n 0 dX6_save_51 rfl rfl ?_
      refine S_getR kc6 (k := 0) (by decide) kw_1040 dX6_save_52 (fun a11 _ => ?_)
      refine S_iconst 3 dX6_save_55 (by decide) ?_
      refine S_iaload dX6_save_56 (fun x12 _ => ?_)
      exact S_ireturn rfl rfl dX6_save_57
    · refine S_iconst 0 dX6_save_25 (by decide) ?_
      exact S_ireturn rfl rfl dX6_save_26
  refine S_if_eqB 14 dX6_save_7 (by decide) (fun c14 => ?_) (fun c14 => ?_)
  · refine S_iconst 1 dX6_save_14 (by decide) ?_
    exact Sim.sub [0, 1] rfl (hk3 true)
  · refine S_iconst 0 dX6_save_10 (by decide) ?_
    refine S_goto 15 dX6_save_11 (by decide) ?_
    exact Sim.sub [0, 1] rfl (hk3 false)
theorem sm_X6_save (hs : l.stackTraces = false) (o : Nat) (p1 : Int32) (h : Hp) : ∀ x h1, m_X6_save  o p1 h = some (x, h1) → SR l G 1 M_X6_save [.ref o, .int p1] h (some (.int x)) h1 := fun x h1 e => SR.of K_X6_save hs rfl (Nat.le_of_ble_eq_true rfl) (ss_X6_save hs o p1 h) e rfl
end
section
variable {l : Launch} {G : Gx}
set_option maxRecDepth 20000 in
set_option maxHeartbeats 4000000 in
theorem ss_X0_takeFrom (hs : l.stackTraces = false) (o : Nat) (p1 : Nat) (h : Hp) : Sim l G 1 M_X0_takeFrom (fun v : Hp => ((.inl none : Oc), v)) 0 [(0, .ref o), (1, .ref p1)] [] h (m_X0_takeFrom  o p1 h) := by
  rw [m_X0_takeFrom]
  refine S_aload_n 0 dX0_takeFrom_0 rfl rfl ?_
  refine S_aload_n 1 dX0_takeFrom_1 rfl rfl ?_
  refine S_getI kc0 (k := 0) (by decide) kw_122 dX0_takeFrom_2 (fun x1 _ => ?_)
  refine S_put kc0 (k := 0) (by decide) rfl kw_122 rfl rfl dX0_takeFrom_5 (fun h2 _ => ?_)
  refine S_aload_n 0 dX0_takeFrom_8 rfl rfl ?_
  refine S_aload_n 1 dX0_takeFrom_9 rfl rfl ?_
  refine S_getI kc0 (k := 1) (by decide) kw_125 dX0_takeFrom_10 (fun x3 _ => ?_)
  refine S_put kc0 (k := 1) (by decide) rfl kw_125 rfl rfl dX0_takeFrom_13 (fun h4 _ => ?_)
  refine S_aload_n 0 dX0_takeFrom_16 rfl rfl ?_
  refine S_aload_n 1 dX0_takeFrom_17 rfl rfl ?_
  refine S_getI kc0 (k := 2) (by decide) kw_127 dX0_takeFrom_18 (fun x5 _ => ?_)
  refine S_put kc0 (k := 2) (by decide) rfl kw_127 rfl rfl dX0_takeFrom_21 (fun h6 _ => ?_)
  refine S_aload_n 0 dX0_takeFrom_24 rfl rfl ?_
  refine S_aload_n 1 dX0_takeFrom_25 rfl rfl ?_
  refine S_getI kc0 (k := 3) (by decide) kw_130 dX0_takeFrom_26 (fun x7 _ => ?_)
  refine S_put kc0 (k := 3) (by decide) rfl kw_130 rfl rfl dX0_takeFrom_29 (fun h8 _ => ?_)
  refine S_aload_n 0 dX0_takeFrom_32 rfl rfl ?_
  refine S_aload_n 1 dX0_takeFrom_33 rfl rfl ?_
  refine S_getI kc0 (k := 4) (by decide) kw_133 dX0_takeFrom_34 (fun x9 _ => ?_)
  refine S_put kc0 (k := 4) (by decide) rfl kw_133 rfl rfl dX0_takeFrom_37 (fun h10 _ => ?_)
  refine S_aload_n 0 dX0_takeFrom_40 rfl rfl ?_
  refine S_aload_n 1 dX0_takeFrom_41 rfl rfl ?_
  refine S_getI kc0 (k := 5) (by decide) kw_136 dX0_takeFrom_42 (fun x11 _ => ?_)
  refine S_put kc0 (k := 5) (by decide) rfl kw_136 rfl rfl dX0_takeFrom_45 (fun h12 _ => ?_)
  refine S_aload_n 0 dX0_takeFrom_48 rfl rfl ?_
  refine S_aload_n 1 dX0_takeFrom_49 rfl rfl ?_
  refine S_getN kc0 (k := 6) (by decide) kw_138 dX0_takeFrom_50 (fun q13 _ => ?_)
  refine S_put kc0 (k := 6) (by decide) rfl kw_138 (nQ _ _) (fQ _ _) dX0_takeFrom_53 (fun h14 _ => ?_)
  refine S_aload_n 1 dX0_takeFrom_56 rfl rfl ?_
  refine S_getR kc0 (k := 7) (by decide) kw_139 dX0_takeFrom_57 (fun a15 _ => ?_)
  refine S_aload_n 0 dX0_takeFrom_60 rfl rfl ?_
  refine S_getR kc0 (k := 7) (by decide) kw_139 dX0_takeFrom_61 (fun a16 _ => ?_)
  refine S_callSN_VW (lev' := 0) (My := M_X5_copyRow) [.ref a15, .ref a16] [] K_X5_copyRow kn_765 kw_766 dX0_takeFrom_64 (by decide) rfl (Nat.le_of_ble_eq_true rfl) (fun xx ee => sm_X5_copyRow hs a15 a16 h14 xx ee) (fun h17 _ => ?_)
  refine S_aload_n 1 dX0_takeFrom_67 rfl rfl ?_
  refine S_getR kc0 (k := 8) (by decide) kw_140 dX0_takeFrom_68 (fun a18 _ => ?_)
  refine S_aload_n 0 dX0_takeFrom_71 rfl rfl ?_
  refine S_getR kc0 (k := 8) (by decide) kw_140 dX0_takeFrom_72 (fun a19 _ => ?_)
  refine S_callSN_VW (lev' := 0) (My := M_X5_copyRow) [.ref a18, .ref a19] [] K_X5_copyRow kn_765 kw_766 dX0_takeFrom_75 (by decide) rfl (Nat.le_of_ble_eq_true rfl) (fun xx ee => sm_X5_copyRow hs a18 a19 h17 xx ee) (fun h20 _ => ?_)
  refine S_aload_n 1 dX0_takeFrom_78 rfl rfl ?_
  refine S_getR kc0 (k := 9) (by decide) kw_141 dX0_takeFrom_79 (fun a21 _ => ?_)
  refine S_aload_n 0 dX0_takeFrom_82 rfl rfl ?_
  refine S_getR kc0 (k := 9) (by decide) kw_141 dX0_takeFrom_83 (fun a22 _ => ?_)
  refine S_callSN_VW (lev' := 0) (My := M_X5_copyRow) [.ref a21, .ref a22] [] K_X5_copyRow kn_765 kw_766 dX0_takeFrom_86 (by decide) rfl (Nat.le_of_ble_eq_true rfl) (fun xx ee => sm_X5_copyRow hs a21 a22 h20 xx ee) (fun h23 _ => ?_)
  refine S_aload_n 1 dX0_takeFrom_89 rfl rfl ?_
  refine S_getR kc0 (k := 10) (by decide) kw_142 dX0_takeFrom_90 (fun a24 _ => ?_)
  refine S_aload_n 0 dX0_takeFrom_93 rfl rfl ?_
  refine S_getR kc0 (k := 10) (by decide) kw_142 dX0_takeFrom_94 (fun a25 _ => ?_)
  refine S_callSN_VW (lev' := 0) (My := M_X5_copyRow) [.ref a24, .ref a25] [] K_X5_copyRow kn_765 kw_766 dX0_takeFrom_97 (by decide) rfl (Nat.le_of_ble_eq_true rfl) (fun xx ee => sm_X5_copyRow hs a24 a25 h23 xx ee) (fun h26 _ => ?_)
  exact S_return rfl rfl dX0_takeFrom_100
theorem sm_X0_takeFrom (hs : l.stackTraces = false) (o : Nat) (p1 : Nat) (h : Hp) : ∀ h1, m_X0_takeFrom  o p1 h = some h1 → SR l G 1 M_X0_takeFrom [.ref o, .ref p1] h none h1 := fun h1 e => SR.of K_X0_takeFrom hs rfl (Nat.le_of_ble_eq_true rfl) (ss_X0_takeFrom hs o p1 h) e rfl
end
section
variable {l : Launch} {G : Gx}
set_option maxRecDepth 20000 in
set_option maxHeartbeats 4000000 in
theorem ss_X0_startEmpty (hs : l.stackTraces = false) (o : Nat) (p1 : Int32) (h : Hp) : Sim l G 1 M_X0_startEmpty (fun v : Hp => ((.inl none : Oc), v)) 0 [(0, .ref o), (1, .int p1)] [] h (m_X0_startEmpty  o p1 h) := by
  rw [m_X0_startEmpty]
  refine S_aload_n 0 dX0_startEmpty_0 rfl rfl ?_
  refine S_iload_n 1 dX0_startEmpty_1 rfl rfl ?_
  refine S_put kc0 (k := 1) (by decide) rfl kw_125 rfl rfl dX0_startEmpty_2 (fun h1 _ => ?_)
  refine S_aload_n 0 dX0_startEmpty_5 rfl rfl ?_
  refine S_iconst 0 dX0_startEmpty_6 (by decide) ?_
  refine S_put kc0 (k := 2) (by decide) rfl kw_127 rfl rfl dX0_startEmpty_7 (fun h2 _ => ?_)
  refine S_aload_n 0 dX0_startEmpty_10 rfl rfl ?_
  refine S_iconst 0 dX0_startEmpty_11 (by decide) ?_
  refine S_put kc0 (k := 3) (by decide) rfl kw_130 rfl rfl dX0_startEmpty_12 (fun h3 _ => ?_)
  refine S_aload_n 0 dX0_startEmpty_15 rfl rfl ?_
  refine S_iconst 0 dX0_startEmpty_16 (by decide) ?_
  refine S_put kc0 (k := 4) (by decide) rfl kw_133 rfl rfl dX0_startEmpty_17 (fun h4 _ => ?_)
  refine S_aload_n 0 dX0_startEmpty_20 rfl rfl ?_
  refine S_iconst 0 dX0_startEmpty_21 (by decide) ?_
  refine S_put kc0 (k := 5) (by decide) rfl kw_136 rfl rfl dX0_startEmpty_22 (fun h5 _ => ?_)
  refine S_aload_n 0 dX0_startEmpty_25 rfl rfl ?_
  refine S_null dX0_startEmpty_26 ?_
  refine S_put kc0 (k := 6) (by decide) rfl kw_138 rfl rfl dX0_startEmpty_27 (fun h6 _ => ?_)
  refine S_aload_n 0 dX0_startEmpty_30 rfl rfl ?_
  refine S_getR kc0 (k := 7) (by decide) kw_139 dX0_startEmpty_31 (fun a7 _ => ?_)
  refine S_callSN_VW (lev' := 0) (My := M_X5_clearRow) [.ref a7] [] K_X5_clearRow kn_644 kw_645 dX0_startEmpty_34 (by decide) rfl (Nat.le_of_ble_eq_true rfl) (fun xx ee => sm_X5_clearRow hs a7 h6 xx ee) (fun h8 _ => ?_)
  refine S_aload_n 0 dX0_startEmpty_37 rfl rfl ?_
  refine S_getR kc0 (k := 8) (by decide) kw_140 dX0_startEmpty_38 (fun a9 _ => ?_)
  refine S_callSN_VW (lev' := 0) (My := M_X5_clearRow) [.ref a9] [] K_X5_clearRow kn_644 kw_645 dX0_startEmpty_41 (by decide) rfl (Nat.le_of_ble_eq_true rfl) (fun xx ee => sm_X5_clearRow hs a9 h8 xx ee) (fun h10 _ => ?_)
  refine S_aload_n 0 dX0_startEmpty_44 rfl rfl ?_
  refine S_getR kc0 (k := 9) (by decide) kw_141 dX0_startEmpty_45 (fun a11 _ => ?_)
  refine S_callSN_VW (lev' := 0) (My := M_X5_clearRow) [.ref a11] [] K_X5_clearRow kn_644 kw_645 dX0_startEmpty_48 (by decide) rfl (Nat.le_of_ble_eq_true rfl) (fun xx ee => sm_X5_clearRow hs a11 h10 xx ee) (fun h12 _ => ?_)
  refine S_aload_n 0 dX0_startEmpty_51 rfl rfl ?_
  refine S_getR kc0 (k := 10) (by decide) kw_142 dX0_startEmpty_52 (fun a13 _ => ?_)
  refine S_callSN_VW (lev' := 0) (My := M_X5_clearRow) [.ref a13] [] K_X5_clearRow kn_644 kw_645 dX0_startEmpty_55 (by decide) rfl (Nat.le_of_ble_eq_true rfl) (fun xx ee => sm_X5_clearRow hs a13 h12 xx ee) (fun h14 _ => ?_)
  exact S_return rfl rfl dX0_startEmpty_58
theorem sm_X0_startEmpty (hs : l.stackTraces = false) (o : Nat) (p1 : Int32) (h : Hp) : ∀ h1, m_X0_startEmpty  o p1 h = some h1 → SR l G 1 M_X0_startEmpty [.ref o, .int p1] h none h1 := fun h1 e => SR.of K_X0_startEmpty hs rfl (Nat.le_of_ble_eq_true rfl) (ss_X0_startEmpty hs o p1 h) e rfl
end
section
variable {l : Launch} {G : Gx}
set_option maxRecDepth 20000 in
set_option maxHeartbeats 4000000 in
theorem sl_X0_addVertex_L9 (hs : l.stackTraces = false) (u3 : Nat) (u4 : Int32) (u5 : Int32) (k9_42 : Hp → Option Hp) (hk9_42 : ∀ (h7 : Hp), Sim l G 1 M_X0_addVertex (fun v : Hp => ((.inl none : Oc), v)) 42 [(0, .ref u3), (2, .int u5)] [] h7 (k9_42 h7)) : ∀ (f : Nat) (w6 : Int32) (h : Hp), Sim l G 1 M_X0_addVertex (fun v : Hp => ((.inl none : Oc), v)) 9 [(0, .ref u3), (1, .int u4), (2, .int u5), (3, .int w6)] [] h (m_X0_addVertex_L9 u3 u4 u5 k9_42 f w6 h) := by
  intro f
  induction f with
  | zero => intro w6 h; exact S_none rfl
  | succ f ih =>
    intro w6 h
    rw [m_X0_addVertex_L9]
    refine S_iload_n 3 dX0_addVertex_9 rfl rfl ?_
    refine S_aload_n 0 dX0_addVertex_10 rfl rfl ?_
    refine S_getR kc0 (k := 8) (by decide) kw_140 dX0_addVertex_11 (fun a8 _ => ?_)
    refine S_alen (t := 0) (ty := .int) rfl dX0_addVertex_14 (fun x9 _ => ?_)
    refine S_icmp_ge 42 dX0_addVertex_15 (by decide) (fun c18 => ?_) (fun c18 => ?_)
    · exact Sim.sub [0, 2] rfl (hk9_42 h)
    · refine S_iload_n 1 dX0_addVertex_18 rfl rfl ?_
      refine S_iload_n 3 dX0_addVertex_19 rfl rfl ?_
      refine S_callSN_BR (lev' := 0) (My := M_X5_has) [.int u4, .int w6] [] K_X5_has kn_391 kw_319 dX0_addVertex_20 (by decide) rfl (Nat.le_of_ble_eq_true rfl) (fun xx ee => sm_X5_has hs u4 w6 _ xx ee) (fun bb10 _ => ?_)
      refine S_jK (fun (k12 : Hp → Option Hp) => ∀ (h11 : Hp), Sim l G 1 M_X0_addVertex (fun v : Hp => ((.inl none : Oc), v)) 36 [(0, .ref u3), (1, .int u4), (2, .int u5), (3, .int w6)] [] h11 (k12 h11)) ?_ (fun k12 hk12 => ?_)
      · intro h11
        refine S_iincN (c := 1) 3 (fun x13 => [(3, .int x13), (0, .ref u3), (1, .int u4), (2, .int u5)]) dX0_addVertex_36 rfl (by decide) (Nat.le_of_ble_eq_true rfl) (fun _ => rfl) (fun x13 => ?_)
        refine S_goto 9 dX0_addVertex_39 (by decide) ?_
        exact Sim.sub [1, 2, 3, 0] rfl (ih x13 h11)
      refine S_if_eqB 36 dX0_addVertex_23 (by decide) (fun c17 => ?_) (fun c17 => ?_)
      · exact Sim.sub [0, 1, 2, 3] rfl (hk12 h)
      · refine S_aload_n 0 dX0_addVertex_26 rfl rfl ?_
        refine S_getR kc0 (k := 8) (by decide) kw_140 dX0_addVertex_27 (fun a14 _ => ?_)
        refine S_iload_n 3 dX0_addVertex_30 rfl rfl ?_
        refine S_dup2 dX0_addVertex_31 rfl rfl ?_
        refine S_iaload dX0_addVertex_32 (fun x15 _ => ?_)
        refine S_iload_n 2 dX0_addVertex_33 rfl rfl ?_
        refine S_ior dX0_addVertex_34 ?_
        refine S_iastore dX0_addVertex_35 (fun h16 _ => ?_)
        exact Sim.sub [0, 1, 2, 3] rfl (hk12 h16)
set_option maxRecDepth 20000 in
set_option maxHeartbeats 4000000 in
theorem ss_X0_addVertex (hs : l.stackTraces = false) (o : Nat) (p1 : Int32) (h : Hp) : Sim l G 1 M_X0_addVertex (fun v : Hp => ((.inl none : Oc), v)) 0 [(0, .ref o), (1, .int p1)] [] h (m_X0_addVertex  o p1 h) := by
  rw [m_X0_addVertex]
  refine S_iconst 1 dX0_addVertex_0 (by decide) ?_
  refine S_aload_n 0 dX0_addVertex_1 rfl rfl ?_
  refine S_getI kc0 (k := 2) (by decide) kw_127 dX0_addVertex_2 (fun x1 _ => ?_)
  refine S_ishl dX0_addVertex_5 ?_
  refine S_nmI (fun x2 => ?_)
  refine S_istore_n [(2, .int x2), (0, .ref o), (1, .int p1)] dX0_addVertex_6 rfl (Nat.le_of_ble_eq_true rfl) rfl ?_
  refine S_iconst 0 dX0_addVertex_7 (by decide) ?_
  refine S_istore_n [(3, .int 0), (2, .int x2), (0, .ref o), (1, .int p1)] dX0_addVertex_8 rfl (Nat.le_of_ble_eq_true rfl) rfl ?_
  refine Sim.sub [2, 3, 1, 0] rfl (sl_X0_addVertex_L9 hs o p1 x2 _ ?_ LF (0 : Int32) h)
  · intro h7
    refine S_aload_n 0 dX0_addVertex_42 rfl rfl ?_
    refine S_dup dX0_addVertex_43 rfl ?_
    refine S_getI kc0 (k := 4) (by decide) kw_133 dX0_addVertex_44 (fun x19 _ => ?_)
    refine S_iload_n 1 dX0_addVertex_47 rfl rfl ?_
    refine S_ior dX0_addVertex_48 ?_
    refine S_put kc0 (k := 4) (by decide) rfl kw_133 rfl rfl dX0_addVertex_49 (fun h20 _ => ?_)
    refine S_aload_n 0 dX0_addVertex_52 rfl rfl ?_
    refine S_dup dX0_addVertex_53 rfl ?_
    refine S_getI kc0 (k := 2) (by decide) kw_127 dX0_addVertex_54 (fun x21 _ => ?_)
    refine S_iconst 1 dX0_addVertex_57 (by decide) ?_
    refine S_iadd dX0_addVertex_58 ?_
    refine S_put kc0 (k := 2) (by decide) rfl kw_127 rfl rfl dX0_addVertex_59 (fun h22 _ => ?_)
    exact S_return rfl rfl dX0_addVertex_62
theorem sm_X0_addVertex (hs : l.stackTraces = false) (o : Nat) (p1 : Int32) (h : Hp) : ∀ h1, m_X0_addVertex  o p1 h = some h1 → SR l G 1 M_X0_addVertex [.ref o, .int p1] h none h1 := fun h1 e => SR.of K_X0_addVertex hs rfl (Nat.le_of_ble_eq_true rfl) (ss_X0_addVertex hs o p1 h) e rfl
end
section
variable {l : Launch} {G : Gx}
set_option maxRecDepth 20000 in
set_option maxHeartbeats 4000000 in
theorem ss_X0_addEdge (hs : l.stackTraces = false) (o : Nat) (p1 : Int32) (p2 : Int32) (h : Hp) : Sim l G 1 M_X0_addEdge (fun v : Hp => ((.inl none : Oc), v)) 0 [(0, .ref o), (1, .int p1), (2, .int p2)] [] h (m_X0_addEdge  o p1 p2 h) := by
  rw [m_X0_addEdge]
  refine S_aload_n 0 dX0_addEdge_0 rfl rfl ?_
  refine S_getR kc0 (k := 7) (by decide) kw_139 dX0_addEdge_1 (fun a1 _ => ?_)
  refine S_iload_n 1 dX0_addEdge_4 rfl rfl ?_
  refine S_iconst 1 dX0_addEdge_5 (by decide) ?_
  refine S_iload_n 2 dX0_addEdge_6 rfl rfl ?_
  refine S_ishl dX0_addEdge_7 ?_
  refine S_callSN_VW (lev' := 0) (My := M_X5_add) [.ref a1, .int p1, .int ((1 : Int32) <<< (p2 &&& 31))] [] K_X5_add kn_692 kw_693 dX0_addEdge_8 (by decide) rfl (Nat.le_of_ble_eq_true rfl) (fun xx ee => sm_X5_add hs a1 p1 ((1 : Int32) <<< (p2 &&& 31)) h xx ee) (fun h2 _ => ?_)
  refine S_aload_n 0 dX0_addEdge_11 rfl rfl ?_
  refine S_getR kc0 (k := 7) (by decide) kw_139 dX0_addEdge_12 (fun a3 _ => ?_)
  refine S_iload_n 2 dX0_addEdge_15 rfl rfl ?_
  refine S_iconst 1 dX0_addEdge_16 (by decide) ?_
  refine S_iload_n 1 dX0_addEdge_17 rfl rfl ?_
  refine S_ishl dX0_addEdge_18 ?_
  refine S_callSN_VW (lev' := 0) (My := M_X5_add) [.ref a3, .int p2, .int ((1 : Int32) <<< (p1 &&& 31))] [] K_X5_add kn_692 kw_693 dX0_addEdge_19 (by decide) rfl (Nat.le_of_ble_eq_true rfl) (fun xx ee => sm_X5_add hs a3 p2 ((1 : Int32) <<< (p1 &&& 31)) h2 xx ee) (fun h4 _ => ?_)
  exact S_return rfl rfl dX0_addEdge_22
theorem sm_X0_addEdge (hs : l.stackTraces = false) (o : Nat) (p1 : Int32) (p2 : Int32) (h : Hp) : ∀ h1, m_X0_addEdge  o p1 p2 h = some h1 → SR l G 1 M_X0_addEdge [.ref o, .int p1, .int p2] h none h1 := fun h1 e => SR.of K_X0_addEdge hs rfl (Nat.le_of_ble_eq_true rfl) (ss_X0_addEdge hs o p1 p2 h) e rfl
end
