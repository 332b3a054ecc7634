/-! printed by wip/whole/emit.py: walks -/
section
variable {l : Launch} {G : Gx}
set_option maxRecDepth 20000 in
set_option maxHeartbeats 4000000 in
theorem ss_X0_hasPair (hs : l.stackTraces = false) (o : Nat) (p1 : Int32) (p2 : Int32) (h : Hp) : Sim l G 1 M_X0_hasPair (fun v : Bool => ((.inl (some (.int (bI v))) : Oc), h)) 0 [(0, .ref o), (1, .int p1), (2, .int p2)] [] h (m_X0_hasPair  o p1 p2 h) := by
  rw [m_X0_hasPair]
  refine S_aload_n 0 dX0_hasPair_0 rfl rfl ?_
  refine S_iload_n 1 dX0_hasPair_1 rfl rfl ?_
  refine S_callV_BR (lev' := 0) (My := M_X0_hasVertex) [.int p1] [] kc0 K_X0_hasVertex kw_849 kw_808 kw_809 dX0_hasPair_2 (by decide) rfl (Nat.le_of_ble_eq_true rfl) (fun xx ee => sm_X0_hasVertex hs o p1 h xx ee) (fun bb1 _ => ?_)
  refine S_if_eqB 24 dX0_hasPair_5 (by decide) (fun c5 => ?_) (fun c5 => ?_)
  · refine S_iconst 0 dX0_hasPair_24 (by decide) ?_
    exact S_zreturn (b := false) rfl rfl dX0_hasPair_25
  · refine S_iload_n 2 dX0_hasPair_8 rfl rfl ?_
    refine S_if_lt 24 dX0_hasPair_9 (by decide) (fun c4 => ?_) (fun c4 => ?_)
    · refine S_iconst 0 dX0_hasPair_24 (by decide) ?_
      exact S_zreturn (b := false) rfl rfl dX0_hasPair_25
    · refine S_iload_n 2 dX0_hasPair_12 rfl rfl ?_
      refine S_aload_n 0 dX0_hasPair_13 rfl rfl ?_
      refine S_getI kc0 (k := 1) (by decide) kw_125 dX0_hasPair_14 (fun x2 _ => ?_)
      refine S_icmp_ge 24 dX0_hasPair_17 (by decide) (fun c3 => ?_) (fun c3 => ?_)
      · refine S_iconst 0 dX0_hasPair_24 (by decide) ?_
        exact S_zreturn (b := false) rfl rfl dX0_hasPair_25
      · refine S_iconst 1 dX0_hasPair_20 (by decide) ?_
        refine S_goto 25 dX0_hasPair_21 (by decide) ?_
        exact S_zreturn (b := true) rfl rfl dX0_hasPair_25
theorem sm_X0_hasPair (hs : l.stackTraces = false) (o : Nat) (p1 : Int32) (p2 : Int32) (h : Hp) : ∀ x, m_X0_hasPair  o p1 p2 h = some x → SR l G 1 M_X0_hasPair [.ref o, .int p1, .int p2] h (some (.int (bI x))) h := fun x e => SR.of K_X0_hasPair hs rfl (Nat.le_of_ble_eq_true rfl) (ss_X0_hasPair hs o p1 p2 h) e rfl
end
section
variable {l : Launch} {G : Gx}
set_option maxRecDepth 20000 in
set_option maxHeartbeats 4000000 in
theorem sl_X0_edgesIn_L4 (hs : l.stackTraces = false) (u1 : Nat) (u2 : Int32) (h : Hp) (k4_41 : Int32 → Option Int32) (hk4_41 : ∀ (v5 : Int32), Sim l G 1 M_X0_edgesIn (fun v : Int32 => ((.inl (some (.int v)) : Oc), h)) 41 [(2, .int v5)] [] h (k4_41 v5)) : ∀ (f : Nat) (w3 : Int32) (w4 : Int32), Sim l G 1 M_X0_edgesIn (fun v : Int32 => ((.inl (some (.int v)) : Oc), h)) 4 [(0, .ref u1), (1, .int u2), (2, .int w3), (3, .int w4)] [] h (m_X0_edgesIn_L4 u1 u2 h k4_41 f w3 w4) := by
  intro f
  induction f with
  | zero => intro w3 w4; exact S_none rfl
  | succ f ih =>
    intro w3 w4
    rw [m_X0_edgesIn_L4]
    refine S_iload_n 3 dX0_edgesIn_4 rfl rfl ?_
    refine S_aload_n 0 dX0_edgesIn_5 rfl rfl ?_
    refine S_getR kc0 (k := 7) (by decide) kw_139 dX0_edgesIn_6 (fun a6 _ => ?_)
    refine S_alen (t := 0) (ty := .int) rfl dX0_edgesIn_9 (fun x7 _ => ?_)
    refine S_icmp_ge 41 dX0_edgesIn_10 (by decide) (fun c17 => ?_) (fun c17 => ?_)
    · exact Sim.sub [2] rfl (hk4_41 w3)
    · refine S_iload_n 1 dX0_edgesIn_13 rfl rfl ?_
      refine S_iload_n 3 dX0_edgesIn_14 rfl rfl ?_
      refine S_callSN_BR (lev' := 0) (My := M_X5_has) [.int u2, .int w4] [] K_X5_has kn_391 kw_319 dX0_edgesIn_15 (by decide) rfl (Nat.le_of_ble_eq_true rfl) (fun xx ee => sm_X5_has hs u2 w4 _ xx ee) (fun bb8 _ => ?_)
      refine S_jK (fun (k10 : Int32 → Option Int32) => ∀ (v9 : Int32), Sim l G 1 M_X0_edgesIn (fun v : Int32 => ((.inl (some (.int v)) : Oc), h)) 35 [(0, .ref u1), (1, .int u2), (2, .int v9), (3, .int w4)] [] h (k10 v9)) ?_ (fun k10 hk10 => ?_)
      · intro v9
        refine S_iincN (c := 1) 3 (fun x11 => [(3, .int x11), (0, .ref u1), (1, .int u2), (2, .int v9)]) dX0_edgesIn_35 rfl (by decide) (Nat.le_of_ble_eq_true rfl) (fun _ => rfl) (fun x11 => ?_)
        refine S_goto 4 dX0_edgesIn_38 (by decide) ?_
        exact Sim.sub [1, 2, 3, 0] rfl (ih v9 x11)
      refine S_if_eqB 35 dX0_edgesIn_18 (by decide) (fun c16 => ?_) (fun c16 => ?_)
      · exact Sim.sub [0, 1, 2, 3] rfl (hk10 w3)
      · refine S_iload_n 2 dX0_edgesIn_21 rfl rfl ?_
        refine S_aload_n 0 dX0_edgesIn_22 rfl rfl ?_
        refine S_getR kc0 (k := 7) (by decide) kw_139 dX0_edgesIn_23 (fun a12 _ => ?_)
        refine S_iload_n 3 dX0_edgesIn_26 rfl rfl ?_
        refine S_iaload dX0_edgesIn_27 (fun x13 _ => ?_)
        refine S_iload_n 1 dX0_edgesIn_28 rfl rfl ?_
        refine S_iand dX0_edgesIn_29 ?_
        refine S_callS_IR (lev' := 0) (My := M_J6_bitCount) [.int (x13 &&& u2)] [.int w3] K_J6_bitCount kw_284 kw_285 dX0_edgesIn_30 (by decide) rfl (Nat.le_of_ble_eq_true rfl) (fun xx ee => sm_J6_bitCount hs (x13 &&& u2) _ xx ee) (fun x14 _ => ?_)
        refine S_iadd dX0_edgesIn_33 ?_
        refine S_nmI (fun x15 => ?_)
        refine S_istore_n [(2, .int x15), (0, .ref u1), (1, .int u2), (3, .int w4)] dX0_edgesIn_34 rfl (Nat.le_of_ble_eq_true rfl) rfl ?_
        exact Sim.sub [1, 2, 0, 3] rfl (hk10 x15)
set_option maxRecDepth 20000 in
set_option maxHeartbeats 4000000 in
theorem ss_X0_edgesIn (hs : l.stackTraces = false) (o : Nat) (p1 : Int32) (h : Hp) : Sim l G 1 M_X0_edgesIn (fun v : Int32 => ((.inl (some (.int v)) : Oc), h)) 0 [(0, .ref o), (1, .int p1)] [] h (m_X0_edgesIn  o p1 h) := by
  rw [m_X0_edgesIn]
  refine S_iconst 0 dX0_edgesIn_0 (by decide) ?_
  refine S_istore_n [(2, .int 0), (0, .ref o), (1, .int p1)] dX0_edgesIn_1 rfl (Nat.le_of_ble_eq_true rfl) rfl ?_
  refine S_iconst 0 dX0_edgesIn_2 (by decide) ?_
  refine S_istore_n [(3, .int 0), (2, .int 0), (0, .ref o), (1, .int p1)] dX0_edgesIn_3 rfl (Nat.le_of_ble_eq_true rfl) rfl ?_
  refine Sim.sub [2, 3, 1, 0] rfl (sl_X0_edgesIn_L4 hs o p1 h _ ?_ LF (0 : Int32) (0 : Int32))
  · intro v5
    refine S_iload_n 0 dX0_edgesIn_41 rfl rfl ?_
    refine S_iconst 2 dX0_edgesIn_42 (by decide) ?_
    refine S_idivC dX0_edgesIn_43 (by decide) ?_
    exact S_ireturn rfl rfl dX0_edgesIn_44
theorem sm_X0_edgesIn (hs : l.stackTraces = false) (o : Nat) (p1 : Int32) (h : Hp) : ∀ x, m_X0_edgesIn  o p1 h = some x → SR l G 1 M_X0_edgesIn [.ref o, .int p1] h (some (.int x)) h := fun x e => SR.of K_X0_edgesIn hs rfl (Nat.le_of_ble_eq_true rfl) (ss_X0_edgesIn hs o p1 h) e rfl
end
section
variable {l : Launch} {G : Gx}
set_option maxRecDepth 20000 in
set_option maxHeartbeats 4000000 in
theorem sl_X0_coloursAt_L5 (hs : l.stackTraces = false) (u1 : Nat) (u2 : Int32) (h : Hp) (k5_36 : Int32 → Option Int32) (hk5_36 : ∀ (v5 : Int32), Sim l G 1 M_X0_coloursAt (fun v : Int32 => ((.inl (some (.int v)) : Oc), h)) 36 [(3, .int v5)] [] h (k5_36 v5)) : ∀ (f : Nat) (w3 : Int32) (w4 : Int32), Sim l G 1 M_X0_coloursAt (fun v : Int32 => ((.inl (some (.int v)) : Oc), h)) 5 [(1, .ref u1), (2, .int u2), (3, .int w3), (4, .int w4)] [] h (m_X0_coloursAt_L5 u1 u2 h k5_36 f w3 w4) := by
  intro f
  induction f with
  | zero => intro w3 w4; exact S_none rfl
  | succ f ih =>
    intro w3 w4
    rw [m_X0_coloursAt_L5]
    refine S_iload 3 dX0_coloursAt_5 rfl ?_
    refine S_aload_n 0 dX0_coloursAt_7 rfl rfl ?_
    refine S_alen (t := 0) (ty := .int) rfl dX0_coloursAt_8 (fun x6 _ => ?_)
    refine S_icmp_ge 36 dX0_coloursAt_9 (by decide) (fun c14 => ?_) (fun c14 => ?_)
    · exact Sim.sub [2] rfl (hk5_36 w3)
    · refine S_aload_n 0 dX0_coloursAt_12 rfl rfl ?_
      refine S_iload 3 dX0_coloursAt_13 rfl ?_
      refine S_iaload dX0_coloursAt_15 (fun x7 _ => ?_)
      refine S_iload_n 1 dX0_coloursAt_16 rfl rfl ?_
      refine S_callSN_BR (lev' := 0) (My := M_X5_has) [.int x7, .int u2] [] K_X5_has kn_391 kw_319 dX0_coloursAt_17 (by decide) rfl (Nat.le_of_ble_eq_true rfl) (fun xx ee => sm_X5_has hs x7 u2 _ xx ee) (fun bb8 _ => ?_)
      refine S_jK (fun (k10 : Int32 → Option Int32) => ∀ (v9 : Int32), Sim l G 1 M_X0_coloursAt (fun v : Int32 => ((.inl (some (.int v)) : Oc), h)) 30 [(1, .ref u1), (2, .int u2), (3, .int v9), (4, .int w4)] [] h (k10 v9)) ?_ (fun k10 hk10 => ?_)
      · intro v9
        refine S_iincN (c := 1) 3 (fun x11 => [(4, .int x11), (1, .ref u1), (2, .int u2), (3, .int v9)]) dX0_coloursAt_30 rfl (by decide) (Nat.le_of_ble_eq_true rfl) (fun _ => rfl) (fun x11 => ?_)
        refine S_goto 5 dX0_coloursAt_33 (by decide) ?_
        exact Sim.sub [1, 2, 3, 0] rfl (ih v9 x11)
      refine S_if_eqB 30 dX0_coloursAt_20 (by decide) (fun c13 => ?_) (fun c13 => ?_)
      · exact Sim.sub [0, 1, 2, 3] rfl (hk10 w3)
      · refine S_iload_n 2 dX0_coloursAt_23 rfl rfl ?_
        refine S_iconst 1 dX0_coloursAt_24 (by decide) ?_
        refine S_iload 3 dX0_coloursAt_25 rfl ?_
        refine S_ishl dX0_coloursAt_27 ?_
        refine S_ior dX0_coloursAt_28 ?_
        refine S_nmI (fun x12 => ?_)
        refine S_istore_n [(3, .int x12), (1, .ref u1), (2, .int u2), (4, .int w4)] dX0_coloursAt_29 rfl (Nat.le_of_ble_eq_true rfl) rfl ?_
        exact Sim.sub [1, 2, 0, 3] rfl (hk10 x12)
set_option maxRecDepth 20000 in
set_option maxHeartbeats 4000000 in
theorem ss_X0_coloursAt (hs : l.stackTraces = false) (o : Nat) (p1 : Nat) (p2 : Int32) (h : Hp) : Sim l G 1 M_X0_coloursAt (fun v : Int32 => ((.inl (some (.int v)) : Oc), h)) 0 [(0, .ref o), (1, .ref p1), (2, .int p2)] [] h (m_X0_coloursAt  o p1 p2 h) := by
  rw [m_X0_coloursAt]
  refine S_iconst 0 dX0_coloursAt_0 (by decide) ?_
  refine S_istore_n [(3, .int 0), (0, .ref o), (1, .ref p1), (2, .int p2)] dX0_coloursAt_1 rfl (Nat.le_of_ble_eq_true rfl) rfl ?_
  refine S_iconst 0 dX0_coloursAt_2 (by decide) ?_
  refine S_istore [(4, .int 0), (3, .int 0), (0, .ref o), (1, .ref p1), (2, .int p2)] dX0_coloursAt_3 (Nat.le_of_ble_eq_true rfl) rfl ?_
  refine Sim.sub [3, 4, 1, 0] rfl (sl_X0_coloursAt_L5 hs p1 p2 h _ ?_ LF (0 : Int32) (0 : Int32))
  · intro v5
    refine S_iload_n 0 dX0_coloursAt_36 rfl rfl ?_
    exact S_ireturn rfl rfl dX0_coloursAt_37
theorem sm_X0_coloursAt (hs : l.stackTraces = false) (o : Nat) (p1 : Nat) (p2 : Int32) (h : Hp) : ∀ x, m_X0_coloursAt  o p1 p2 h = some x → SR l G 1 M_X0_coloursAt [.ref o, .ref p1, .int p2] h (some (.int x)) h := fun x e => SR.of K_X0_coloursAt hs rfl (Nat.le_of_ble_eq_true rfl) (ss_X0_coloursAt hs o p1 p2 h) e rfl
end
section
variable {l : Launch} {G : Gx}
set_option maxRecDepth 20000 in
set_option maxHeartbeats 4000000 in
theorem ss_X0_isFree (hs : l.stackTraces = false) (o : Nat) (p1 : Int32) (h : Hp) : Sim l G 1 M_X0_isFree (fun v : Bool => ((.inl (some (.int (bI v))) : Oc), h)) 0 [(0, .ref o), (1, .int p1)] [] h (m_X0_isFree  o p1 h) := by
  rw [m_X0_isFree]
  refine S_aload_n 0 dX0_isFree_0 rfl rfl ?_
  refine S_getI kc0 (k := 4) (by decide) kw_133 dX0_isFree_1 (fun x1 _ => ?_)
  refine S_iload_n 1 dX0_isFree_4 rfl rfl ?_
  refine S_callSN_BR (lev' := 0) (My := M_X5_has) [.int x1, .int p1] [] K_X5_has kn_391 kw_319 dX0_isFree_5 (by decide) rfl (Nat.le_of_ble_eq_true rfl) (fun xx ee => sm_X5_has hs x1 p1 _ xx ee) (fun bb2 _ => ?_)
  exact S_zreturn (b := bb2) rfl rfl dX0_isFree_8
theorem sm_X0_isFree (hs : l.stackTraces = false) (o : Nat) (p1 : Int32) (h : Hp) : ∀ x, m_X0_isFree  o p1 h = some x → SR l G 1 M_X0_isFree [.ref o, .int p1] h (some (.int (bI x))) h := fun x e => SR.of K_X0_isFree hs rfl (Nat.le_of_ble_eq_true rfl) (ss_X0_isFree hs o p1 h) e rfl
end
section
variable {l : Launch} {G : Gx}
set_option maxRecDepth 20000 in
set_option maxHeartbeats 4000000 in
theorem sl_X0_reachable_L10 (hs : l.stackTraces = false) (u2 : Nat) (u3 : Int32) (h : Hp) (k10_108 : Int32 → Option Int32) (hk10_108 : ∀ (v7 : Int32), Sim l G 1 M_X0_reachable (fun v : Int32 => ((.inl (some (.int v)) : Oc), h)) 108 [(3, .int v7)] [] h (k10_108 v7)) : ∀ (f : Nat) (w4 : Int32) (w5 : Int32) (w6 : Int32), Sim l G 1 M_X0_reachable (fun v : Int32 => ((.inl (some (.int v)) : Oc), h)) 10 [(0, .ref u2), (2, .int u3), (3, .int w4), (4, .int w5), (5, .int w6)] [] h (m_X0_reachable_L10 u2 u3 h k10_108 f w4 w5 w6) := by
  intro f
  induction f with
  | zero => intro w4 w5 w6; exact S_none rfl
  | succ f ih =>
    intro w4 w5 w6
    rw [m_X0_reachable_L10]
    refine S_iload 4 dX0_reachable_10 rfl ?_
    refine S_bipush 9 dX0_reachable_12 (by decide) ?_
    refine S_icmp_ge 108 dX0_reachable_14 (by decide) (fun c25 => ?_) (fun c25 => ?_)
    · exact Sim.sub [2] rfl (hk10_108 w4)
    · refine S_iload 3 dX0_reachable_17 rfl ?_
      refine S_if_eq 108 dX0_reachable_19 (by decide) (fun c24 => ?_) (fun c24 => ?_)
      · exact Sim.sub [2] rfl (hk10_108 w4)
      · refine S_iload 3 dX0_reachable_22 rfl ?_
        refine S_iload 3 dX0_reachable_24 rfl ?_
        refine S_ineg dX0_reachable_26 ?_
        refine S_iand dX0_reachable_27 ?_
        refine S_nmI (fun x8 => ?_)
        refine S_istore [(6, .int x8), (0, .ref u2), (2, .int u3), (3, .int w4), (4, .int w5), (5, .int w6)] dX0_reachable_28 (Nat.le_of_ble_eq_true rfl) rfl ?_
        refine S_iload 0 dX0_reachable_30 rfl ?_
        refine S_iconst 1 dX0_reachable_32 (by decide) ?_
        refine S_isub dX0_reachable_33 ?_
        refine S_callS_IR (lev' := 0) (My := M_J6_bitCount) [.int (x8 - (1 : Int32))] [] K_J6_bitCount kw_284 kw_285 dX0_reachable_34 (by decide) rfl (Nat.le_of_ble_eq_true rfl) (fun xx ee => sm_J6_bitCount hs (x8 - (1 : Int32)) _ xx ee) (fun x9 _ => ?_)
        refine S_istore [(7, .int x9), (6, .int x8), (0, .ref u2), (2, .int u3), (3, .int w4), (4, .int w5), (5, .int w6)] dX0_reachable_37 (Nat.le_of_ble_eq_true rfl) rfl ?_
        refine S_iload 0 dX0_reachable_39 rfl ?_
        refine S_jK (fun (k11 : Bool → Option Int32) => ∀ (v10 : Bool), Sim l G 1 M_X0_reachable (fun v : Int32 => ((.inl (some (.int v)) : Oc), h)) 59 [(0, .ref u2), (2, .int u3), (3, .int w4), (4, .int w5), (5, .int w6), (6, .int x8), (7, .int x9)] [.int (bI v10)] h (k11 v10)) ?_ (fun k11 hk11 => ?_)
        · intro v10
          refine S_istore [(8, .int (bI v10)), (0, .ref u2), (2, .int u3), (3, .int w4), (4, .int w5), (5, .int w6), (6, .int x8), (7, .int x9)] dX0_reachable_59 (Nat.le_of_ble_eq_true rfl) rfl ?_
          refine S_iload 0 dX0_reachable_61 rfl ?_
          refine S_jK (fun (k13 : Int32 → Option Int32) => ∀ (v12 : Int32), Sim l G 1 M_X0_reachable (fun v : Int32 => ((.inl (some (.int v)) : Oc), h)) 83 [(0, .ref u2), (2, .int u3), (3, .int w4), (4, .int w5), (5, .int w6), (6, .int x8)] [.int v12] h (k13 v12)) ?_ (fun k13 hk13 => ?_)
          · intro v12
            refine S_istore [(9, .int v12), (0, .ref u2), (2, .int u3), (3, .int w4), (4, .int w5), (5, .int w6), (6, .int x8)] dX0_reachable_83 (Nat.le_of_ble_eq_true rfl) rfl ?_
            refine S_iload_n 3 dX0_reachable_85 rfl rfl ?_
            refine S_iload 0 dX0_reachable_86 rfl ?_
            refine S_ior dX0_reachable_88 ?_
            refine S_nmI (fun x14 => ?_)
            refine S_istore_n [(3, .int x14), (9, .int v12), (0, .ref u2), (2, .int u3), (4, .int w5), (5, .int w6), (6, .int x8)] dX0_reachable_89 rfl (Nat.le_of_ble_eq_true rfl) rfl ?_
            refine S_iload 4 dX0_reachable_90 rfl ?_
            refine S_iload 6 dX0_reachable_92 rfl ?_
            refine S_iconst (-1) dX0_reachable_94 (by decide) ?_
            refine S_ixor dX0_reachable_95 ?_
            refine S_iand dX0_reachable_96 ?_
            refine S_iload 1 dX0_reachable_97 rfl ?_
            refine S_ior dX0_reachable_99 ?_
            refine S_nmI (fun x15 => ?_)
            refine S_istore [(4, .int x15), (3, .int x14), (9, .int v12), (0, .ref u2), (2, .int u3), (5, .int w6), (6, .int x8)] dX0_reachable_100 (Nat.le_of_ble_eq_true rfl) rfl ?_
            refine S_iincN (c := 1) 5 (fun x16 => [(5, .int x16), (4, .int x15), (3, .int x14), (9, .int v12), (0, .ref u2), (2, .int u3), (6, .int x8)]) dX0_reachable_102 rfl (by decide) (Nat.le_of_ble_eq_true rfl) (fun _ => rfl) (fun x16 => ?_)
            refine S_goto 10 dX0_reachable_105 (by decide) ?_
            exact Sim.sub [4, 5, 2, 1, 0] rfl (ih x14 x15 x16)
          refine S_if_eqB 82 dX0_reachable_63 (by decide) (fun c19 => ?_) (fun c19 => ?_)
          · refine S_iconst 0 dX0_reachable_82 (by decide) ?_
            exact Sim.sub [1, 2, 3, 4, 5, 6] rfl (hk13 (0 : Int32))
          · refine S_aload_n 1 dX0_reachable_66 rfl rfl ?_
            refine S_getR kc0 (k := 7) (by decide) kw_139 dX0_reachable_67 (fun a17 _ => ?_)
            refine S_iload 7 dX0_reachable_70 rfl ?_
            refine S_iaload dX0_reachable_72 (fun x18 _ => ?_)
            refine S_iload_n 2 dX0_reachable_73 rfl rfl ?_
            refine S_iand dX0_reachable_74 ?_
            refine S_iload_n 3 dX0_reachable_75 rfl rfl ?_
            refine S_iconst (-1) dX0_reachable_76 (by decide) ?_
            refine S_ixor dX0_reachable_77 ?_
            refine S_iand dX0_reachable_78 ?_
            refine S_goto 83 dX0_reachable_79 (by decide) ?_
            exact Sim.sub [1, 2, 3, 4, 5, 6] rfl (hk13 ((x18 &&& u3) &&& (w4 ^^^ (-1 : Int32))))
        refine S_if_lt 58 dX0_reachable_41 (by decide) (fun c23 => ?_) (fun c23 => ?_)
        · refine S_iconst 0 dX0_reachable_58 (by decide) ?_
          exact Sim.sub [2, 3, 4, 5, 6, 1, 0] rfl (hk11 false)
        · refine S_iload 0 dX0_reachable_44 rfl ?_
          refine S_aload_n 2 dX0_reachable_46 rfl rfl ?_
          refine S_getR kc0 (k := 7) (by decide) kw_139 dX0_reachable_47 (fun a20 _ => ?_)
          refine S_alen (t := 0) (ty := .int) rfl dX0_reachable_50 (fun x21 _ => ?_)
          refine S_icmp_ge 58 dX0_reachable_51 (by decide) (fun c22 => ?_) (fun c22 => ?_)
          · refine S_iconst 0 dX0_reachable_58 (by decide) ?_
            exact Sim.sub [2, 3, 4, 5, 6, 1, 0] rfl (hk11 false)
          · refine S_iconst 1 dX0_reachable_54 (by decide) ?_
            refine S_goto 59 dX0_reachable_55 (by decide) ?_
            exact Sim.sub [2, 3, 4, 5, 6, 1, 0] rfl (hk11 true)
set_option maxRecDepth 20000 in
set_option maxHeartbeats 4000000 in
theorem ss_X0_reachable (hs : l.stackTraces = false) (o : Nat) (p1 : Int32) (p2 : Int32) (h : Hp) : Sim l G 1 M_X0_reachable (fun v : Int32 => ((.inl (some (.int v)) : Oc), h)) 0 [(0, .ref o), (1, .int p1), (2, .int p2)] [] h (m_X0_reachable  o p1 p2 h) := by
  rw [m_X0_reachable]
  refine S_iload_n 1 dX0_reachable_0 rfl rfl ?_
  refine S_iload_n 2 dX0_reachable_1 rfl rfl ?_
  refine S_iand dX0_reachable_2 ?_
  refine S_nmI (fun x1 => ?_)
  refine S_istore_n [(3, .int x1), (0, .ref o), (1, .int p1), (2, .int p2)] dX0_reachable_3 rfl (Nat.le_of_ble_eq_true rfl) rfl ?_
  refine S_iload_n 0 dX0_reachable_4 rfl rfl ?_
  refine S_istore [(4, .int x1), (3, .int x1), (0, .ref o), (1, .int p1), (2, .int p2)] dX0_reachable_5 (Nat.le_of_ble_eq_true rfl) rfl ?_
  refine S_iconst 0 dX0_reachable_7 (by decide) ?_
  refine S_istore [(5, .int 0), (4, .int x1), (3, .int x1), (0, .ref o), (1, .int p1), (2, .int p2)] dX0_reachable_8 (Nat.le_of_ble_eq_true rfl) rfl ?_
  refine Sim.sub [3, 5, 2, 1, 0] rfl (sl_X0_reachable_L10 hs o p2 h _ ?_ LF x1 x1 (0 : Int32))
  · intro v7
    refine S_iload_n 0 dX0_reachable_108 rfl rfl ?_
    exact S_ireturn rfl rfl dX0_reachable_109
theorem sm_X0_reachable (hs : l.stackTraces = false) (o : Nat) (p1 : Int32) (p2 : Int32) (h : Hp) : ∀ x, m_X0_reachable  o p1 p2 h = some x → SR l G 1 M_X0_reachable [.ref o, .int p1, .int p2] h (some (.int x)) h := fun x e => SR.of K_X0_reachable hs rfl (Nat.le_of_ble_eq_true rfl) (ss_X0_reachable hs o p1 p2 h) e rfl
end
section
variable {l : Launch} {G : Gx}
set_option maxRecDepth 20000 in
set_option maxHeartbeats 4000000 in
theorem sl_X0_openTo_L16 (hs : l.stackTraces = false) (u5 : Nat) (u6 : Int32) (h : Hp) (k16_57 : Int32 → Option Int32) (hk16_57 : ∀ (v9 : Int32), Sim l G 1 M_X0_openTo (fun v : Int32 => ((.inl (some (.int v)) : Oc), h)) 57 [(2, .int v9)] [] h (k16_57 v9)) : ∀ (f : Nat) (w7 : Int32) (w8 : Int32), Sim l G 1 M_X0_openTo (fun v : Int32 => ((.inl (some (.int v)) : Oc), h)) 16 [(0, .ref u5), (1, .int u6), (2, .int w7), (3, .int w8)] [] h (m_X0_openTo_L16 u5 u6 h k16_57 f w7 w8) := by
  intro f
  induction f with
  | zero => intro w7 w8; exact S_none rfl
  | succ f ih =>
    intro w7 w8
    rw [m_X0_openTo_L16]
    refine S_iload_n 3 dX0_openTo_16 rfl rfl ?_
    refine S_aload_n 0 dX0_openTo_17 rfl rfl ?_
    refine S_getR kc0 (k := 7) (by decide) kw_139 dX0_openTo_18 (fun a10 _ => ?_)
    refine S_alen (t := 0) (ty := .int) rfl dX0_openTo_21 (fun x11 _ => ?_)
    refine S_icmp_ge 57 dX0_openTo_22 (by decide) (fun c21 => ?_) (fun c21 => ?_)
    · exact Sim.sub [2] rfl (hk16_57 w7)
    · refine S_aload_n 0 dX0_openTo_25 rfl rfl ?_
      refine S_getR kc0 (k := 7) (by decide) kw_139 dX0_openTo_26 (fun a12 _ => ?_)
      refine S_iload_n 3 dX0_openTo_29 rfl rfl ?_
      refine S_iaload dX0_openTo_30 (fun x13 _ => ?_)
      refine S_aload_n 0 dX0_openTo_31 rfl rfl ?_
      refine S_getR kc0 (k := 9) (by decide) kw_141 dX0_openTo_32 (fun a14 _ => ?_)
      refine S_iload_n 1 dX0_openTo_35 rfl rfl ?_
      refine S_callSN_IR (lev' := 0) (My := M_X5_at) [.ref a14, .int u6] [.int x13] K_X5_at kn_302 kw_303 dX0_openTo_36 (by decide) rfl (Nat.le_of_ble_eq_true rfl) (fun xx ee => sm_X5_at hs a14 u6 h xx ee) (fun x15 _ => ?_)
      refine S_iand dX0_openTo_39 ?_
      refine S_jK (fun (k17 : Int32 → Option Int32) => ∀ (v16 : Int32), Sim l G 1 M_X0_openTo (fun v : Int32 => ((.inl (some (.int v)) : Oc), h)) 51 [(0, .ref u5), (1, .int u6), (2, .int v16), (3, .int w8)] [] h (k17 v16)) ?_ (fun k17 hk17 => ?_)
      · intro v16
        refine S_iincN (c := 1) 3 (fun x18 => [(3, .int x18), (0, .ref u5), (1, .int u6), (2, .int v16)]) dX0_openTo_51 rfl (by decide) (Nat.le_of_ble_eq_true rfl) (fun _ => rfl) (fun x18 => ?_)
        refine S_goto 16 dX0_openTo_54 (by decide) ?_
        exact Sim.sub [1, 2, 3, 0] rfl (ih v16 x18)
      refine S_if_eq 51 dX0_openTo_40 (by decide) (fun c20 => ?_) (fun c20 => ?_)
      · exact Sim.sub [0, 1, 2, 3] rfl (hk17 w7)
      · refine S_iload_n 2 dX0_openTo_43 rfl rfl ?_
        refine S_iconst 1 dX0_openTo_44 (by decide) ?_
        refine S_iload_n 3 dX0_openTo_45 rfl rfl ?_
        refine S_ishl dX0_openTo_46 ?_
        refine S_iconst (-1) dX0_openTo_47 (by decide) ?_
        refine S_ixor dX0_openTo_48 ?_
        refine S_iand dX0_openTo_49 ?_
        refine S_nmI (fun x19 => ?_)
        refine S_istore_n [(2, .int x19), (0, .ref u5), (1, .int u6), (3, .int w8)] dX0_openTo_50 rfl (Nat.le_of_ble_eq_true rfl) rfl ?_
        exact Sim.sub [1, 2, 0, 3] rfl (hk17 x19)
set_option maxRecDepth 20000 in
set_option maxHeartbeats 4000000 in
theorem ss_X0_openTo (hs : l.stackTraces = false) (o : Nat) (p1 : Int32) (h : Hp) : Sim l G 1 M_X0_openTo (fun v : Int32 => ((.inl (some (.int v)) : Oc), h)) 0 [(0, .ref o), (1, .int p1)] [] h (m_X0_openTo  o p1 h) := by
  rw [m_X0_openTo]
  refine S_aload_n 0 dX0_openTo_0 rfl rfl ?_
  refine S_getR kc0 (k := 8) (by decide) kw_140 dX0_openTo_1 (fun a1 _ => ?_)
  refine S_iload_n 1 dX0_openTo_4 rfl rfl ?_
  refine S_callSN_IR (lev' := 0) (My := M_X5_at) [.ref a1, .int p1] [] K_X5_at kn_302 kw_303 dX0_openTo_5 (by decide) rfl (Nat.le_of_ble_eq_true rfl) (fun xx ee => sm_X5_at hs a1 p1 h xx ee) (fun x2 _ => ?_)
  refine S_aload_n 0 dX0_openTo_8 rfl rfl ?_
  refine S_getI kc0 (k := 4) (by decide) kw_133 dX0_openTo_9 (fun x3 _ => ?_)
  refine S_iand dX0_openTo_12 ?_
  refine S_nmI (fun x4 => ?_)
  refine S_istore_n [(2, .int x4), (0, .ref o), (1, .int p1)] dX0_openTo_13 rfl (Nat.le_of_ble_eq_true rfl) rfl ?_
  refine S_iconst 0 dX0_openTo_14 (by decide) ?_
  refine S_istore_n [(3, .int 0), (2, .int x4), (0, .ref o), (1, .int p1)] dX0_openTo_15 rfl (Nat.le_of_ble_eq_true rfl) rfl ?_
  refine Sim.sub [2, 3, 1, 0] rfl (sl_X0_openTo_L16 hs o p1 h _ ?_ LF x4 (0 : Int32))
  · intro v9
    refine S_iload_n 0 dX0_openTo_57 rfl rfl ?_
    exact S_ireturn rfl rfl dX0_openTo_58
theorem sm_X0_openTo (hs : l.stackTraces = false) (o : Nat) (p1 : Int32) (h : Hp) : ∀ x, m_X0_openTo  o p1 h = some x → SR l G 1 M_X0_openTo [.ref o, .int p1] h (some (.int x)) h := fun x e => SR.of K_X0_openTo hs rfl (Nat.le_of_ble_eq_true rfl) (ss_X0_openTo hs o p1 h) e rfl
end
section
variable {l : Launch} {G : Gx}
set_option maxRecDepth 20000 in
set_option maxHeartbeats 4000000 in
theorem sl_X0_movesBy_L16 (hs : l.stackTraces = false) (u4 : Int32) (u5 : Int32) (h : Hp) (k16_59 : Int32 → Option Int32) (hk16_59 : ∀ (v9 : Int32), Sim l G 1 M_X0_movesBy (fun v : Int32 => ((.inl (some (.int v)) : Oc), h)) 59 [(3, .int v9)] [] h (k16_59 v9)) : ∀ (f : Nat) (w6 : Int32) (w7 : (Option Nat)) (w8 : Int32), Sim l G 1 M_X0_movesBy (fun v : Int32 => ((.inl (some (.int v)) : Oc), h)) 16 [(1, .int u4), (2, .int u5), (3, .int w6), (4, va_rf w7), (5, .int w8)] [] h (m_X0_movesBy_L16 u4 u5 h k16_59 f w6 w7 w8) := by
  intro f
  induction f with
  | zero => intro w6 w7 w8; exact S_none rfl
  | succ f ih =>
    intro w6 w7 w8
    rw [m_X0_movesBy_L16]
    refine S_iload 4 dX0_movesBy_16 rfl ?_
    refine S_if_lt 59 dX0_movesBy_18 (by decide) (fun c19 => ?_) (fun c19 => ?_)
    · exact Sim.sub [2] rfl (hk16_59 w6)
    · refine S_qload 3 dX0_movesBy_21 rfl ?_
      refine S_ifnull 59 dX0_movesBy_23 (by decide) ?_ ?_
      · intro _
        exact Sim.sub [2] rfl (hk16_59 w6)
      · intro a10 ha10
        subst ha10
        refine S_iload 4 dX0_movesBy_26 rfl ?_
        refine S_iconst 1 dX0_movesBy_28 (by decide) ?_
        refine S_iand dX0_movesBy_29 ?_
        refine S_iload_n 0 dX0_movesBy_30 rfl rfl ?_
        refine S_jK (fun (k12 : Int32 → Option Int32) => ∀ (v11 : Int32), Sim l G 1 M_X0_movesBy (fun v : Int32 => ((.inl (some (.int v)) : Oc), h)) 46 [(1, .int u4), (2, .int u5), (3, .int v11), (4, .ref a10), (5, .int w8)] [] h (k12 v11)) ?_ (fun k12 hk12 => ?_)
        · intro v11
          refine S_aload 3 dX0_movesBy_46 rfl ?_
          refine S_getN kc2 (k := 0) (by decide) kw_721 dX0_movesBy_48 (fun q13 _ => ?_)
          refine S_qstore [(4, va_rf q13), (1, .int u4), (2, .int u5), (3, .int v11), (5, .int w8)] dX0_movesBy_51 (Nat.le_of_ble_eq_true rfl) (by cases q13 <;> rfl) ?_
          refine S_iincN (c := (-1)) 4 (fun x14 => [(5, .int x14), (4, va_rf q13), (1, .int u4), (2, .int u5), (3, .int v11)]) dX0_movesBy_53 rfl (by decide) (Nat.le_of_ble_eq_true rfl) (fun _ => (by cases q13 <;> rfl)) (fun x14 => ?_)
          refine S_goto 16 dX0_movesBy_56 (by decide) ?_
          exact Sim.sub [2, 3, 4, 1, 0] rfl (ih v11 q13 x14)
        refine S_icmp_ne 46 dX0_movesBy_31 (by decide) (fun c18 => ?_) (fun c18 => ?_)
        · exact Sim.sub [0, 1, 2, 3, 4] rfl (hk12 w6)
        · refine S_aload 3 dX0_movesBy_34 rfl ?_
          refine S_iload_n 1 dX0_movesBy_36 rfl rfl ?_
          refine S_callV_BR (lev' := 0) (My := M_X2_countsAs) [.int u5] [] kc2 K_X2_countsAs kw_990 kw_991 kw_992 dX0_movesBy_37 (by decide) rfl (Nat.le_of_ble_eq_true rfl) (fun xx ee => sm_X2_countsAs hs a10 u5 h xx ee) (fun bb15 _ => ?_)
          refine S_if_eqB 46 dX0_movesBy_40 (by decide) (fun c17 => ?_) (fun c17 => ?_)
          · exact Sim.sub [0, 1, 2, 3, 4] rfl (hk12 w6)
          · refine S_iincN (c := 1) 2 (fun x16 => [(3, .int x16), (1, .int u4), (2, .int u5), (4, .ref a10), (5, .int w8)]) dX0_movesBy_43 rfl (by decide) (Nat.le_of_ble_eq_true rfl) (fun _ => rfl) (fun x16 => ?_)
            exact Sim.sub [1, 2, 0, 3, 4] rfl (hk12 x16)
set_option maxRecDepth 20000 in
set_option maxHeartbeats 4000000 in
theorem ss_X0_movesBy (hs : l.stackTraces = false) (o : Nat) (p1 : Int32) (p2 : Int32) (h : Hp) : Sim l G 1 M_X0_movesBy (fun v : Int32 => ((.inl (some (.int v)) : Oc), h)) 0 [(0, .ref o), (1, .int p1), (2, .int p2)] [] h (m_X0_movesBy  o p1 p2 h) := by
  rw [m_X0_movesBy]
  refine S_iconst 0 dX0_movesBy_0 (by decide) ?_
  refine S_istore_n [(3, .int 0), (0, .ref o), (1, .int p1), (2, .int p2)] dX0_movesBy_1 rfl (Nat.le_of_ble_eq_true rfl) rfl ?_
  refine S_aload_n 1 dX0_movesBy_2 rfl rfl ?_
  refine S_getN kc0 (k := 6) (by decide) kw_138 dX0_movesBy_3 (fun q1 _ => ?_)
  refine S_qstore [(4, va_rf q1), (3, .int 0), (0, .ref o), (1, .int p1), (2, .int p2)] dX0_movesBy_6 (Nat.le_of_ble_eq_true rfl) (by cases q1 <;> rfl) ?_
  refine S_aload_n 2 dX0_movesBy_8 rfl rfl ?_
  refine S_getI kc0 (k := 5) (by decide) kw_136 dX0_movesBy_9 (fun x2 _ => ?_)
  refine S_iconst 1 dX0_movesBy_12 (by decide) ?_
  refine S_isub dX0_movesBy_13 ?_
  refine S_nmI (fun x3 => ?_)
  refine S_istore [(5, .int x3), (4, va_rf q1), (3, .int 0), (0, .ref o), (1, .int p1), (2, .int p2)] dX0_movesBy_14 (Nat.le_of_ble_eq_true rfl) (by cases q1 <;> rfl) ?_
  refine Sim.sub [4, 5, 2, 1, 0] rfl (sl_X0_movesBy_L16 hs p1 p2 h _ ?_ LF (0 : Int32) q1 x3)
  · intro v9
    refine S_iload_n 0 dX0_movesBy_59 rfl rfl ?_
    exact S_ireturn rfl rfl dX0_movesBy_60
theorem sm_X0_movesBy (hs : l.stackTraces = false) (o : Nat) (p1 : Int32) (p2 : Int32) (h : Hp) : ∀ x, m_X0_movesBy  o p1 p2 h = some x → SR l G 1 M_X0_movesBy [.ref o, .int p1, .int p2] h (some (.int x)) h := fun x e => SR.of K_X0_movesBy hs rfl (Nat.le_of_ble_eq_true rfl) (ss_X0_movesBy hs o p1 p2 h) e rfl
end
section
variable {l : Launch} {G : Gx}
set_option maxRecDepth 20000 in
set_option maxHeartbeats 4000000 in
theorem ss_X3_init (hs : l.stackTraces = false) (o : Nat) (h : Hp) : Sim l G 1 M_X3_init (fun v : Hp => ((.inl none : Oc), v)) 0 [(0, .ref o)] [] h (m_X3_init  o h) := by
  rw [m_X3_init]
  refine S_aload_n 0 dX3_init_0 rfl rfl ?_
  refine S_obj kw_185 k_oi k_oc (Nat.le_of_ble_eq_true rfl) dX3_init_1 ?_
  refine S_aload_n 0 dX3_init_4 rfl rfl ?_
  refine S_newN kc0 rfl kd0 kw_186 kw_117 kw_84 dX3_init_5 (fun a1 h2 => ?_)
  refine S_dup dX3_init_8 rfl ?_
  refine S_callI_VW (lev' := 0) (My := M_X0_init) [] [.ref a1, .ref o] K_X0_init rfl rfl kw_187 kw_119 dX3_init_9 (by decide) rfl (Nat.le_of_ble_eq_true rfl) (fun xx ee => sm_X0_init hs a1 h2 xx ee) (fun h3 _ => ?_)
  refine S_putF kc3 (k := 0) (by decide) rfl rfl rfl kw_188 rfl rfl dX3_init_12 (fun h4 _ => ?_)
  refine S_aload_n 0 dX3_init_15 rfl rfl ?_
  refine S_iconst (-1) dX3_init_16 (by decide) ?_
  refine S_put kc3 (k := 2) (by decide) rfl kw_192 rfl rfl dX3_init_17 (fun h5 _ => ?_)
  refine S_aload_n 0 dX3_init_20 rfl rfl ?_
  refine S_sipush 500 dX3_init_21 (by decide) ?_
  refine S_newarr2 (N := 500) (by decide) (by decide) (by decide) kw_222 dX3_init_24 (fun a6 h7 => ?_)
  refine S_putF kc3 (k := 3) (by decide) rfl rfl rfl kw_194 rfl rfl dX3_init_26 (fun h8 _ => ?_)
  exact S_return rfl rfl dX3_init_29
theorem sm_X3_init (hs : l.stackTraces = false) (o : Nat) (h : Hp) : ∀ h1, m_X3_init  o h = some h1 → SR l G 1 M_X3_init [.ref o] h none h1 := fun h1 e => SR.of K_X3_init hs rfl (Nat.le_of_ble_eq_true rfl) (ss_X3_init hs o h) e rfl
end
section
variable {l : Launch} {G : Gx}
set_option maxRecDepth 20000 in
set_option maxHeartbeats 4000000 in
theorem ss_X3_readEnd (hs : l.stackTraces = false) (o : Nat) (h : Hp) : Sim l G 1 M_X3_readEnd (fun p : Bool × Hp => ((.inl (some (.int (bI p.1))) : Oc), p.2)) 0 [(0, .ref o)] [] h (m_X3_readEnd  o h) := by
  rw [m_X3_readEnd]
  refine S_aload_n 0 dX3_readEnd_0 rfl rfl ?_
  refine S_getI kc3 (k := 6) (by decide) kw_197 dX3_readEnd_1 (fun x1 _ => ?_)
  refine S_if_eq 16 dX3_readEnd_4 (by decide) (fun c5 => ?_) (fun c5 => ?_)
  · refine S_iconst 1 dX3_readEnd_16 (by decide) ?_
    refine S_goto 21 dX3_readEnd_17 (by decide) ?_
    exact S_zreturn (b := true) rfl rfl dX3_readEnd_21
  · refine S_aload_n 0 dX3_readEnd_7 rfl rfl ?_
    refine S_bipush (-2) dX3_readEnd_8 (by decide) ?_
    refine S_callV_BW (lev' := 0) (My := M_X3_fail) [.int (-2)] [] kc3 K_X3_fail kw_632 kw_634 kw_15 dX3_readEnd_10 (by decide) rfl (Nat.le_of_ble_eq_true rfl) (fun xx yy ee => sm_X3_fail hs o (-2 : Int32) h xx yy ee) (fun bb2 h3 _ => ?_)
    refine S_if_eqB 20 dX3_readEnd_13 (by decide) (fun c4 => ?_) (fun c4 => ?_)
    · refine S_iconst 0 dX3_readEnd_20 (by decide) ?_
      exact S_zreturn (b := false) rfl rfl dX3_readEnd_21
    · refine S_iconst 1 dX3_readEnd_16 (by decide) ?_
      refine S_goto 21 dX3_readEnd_17 (by decide) ?_
      exact S_zreturn (b := true) rfl rfl dX3_readEnd_21
theorem sm_X3_readEnd (hs : l.stackTraces = false) (o : Nat) (h : Hp) : ∀ x h1, m_X3_readEnd  o h = some (x, h1) → SR l G 1 M_X3_readEnd [.ref o] h (some (.int (bI x))) h1 := fun x h1 e => SR.of K_X3_readEnd hs rfl (Nat.le_of_ble_eq_true rfl) (ss_X3_readEnd hs o h) e rfl
end
section
variable {l : Launch} {G : Gx}
set_option maxRecDepth 20000 in
set_option maxHeartbeats 4000000 in
theorem sl_X3_listHere_L7 (hs : l.stackTraces = false) (u2 : Nat) (h : Hp) (k7_60 : Int32 → Option Int32) (k7_46 : Option Int32) (hk7_60 : ∀ (v5 : Int32), Sim l G 1 M_X3_listHere (fun v : Int32 => ((.inl (some (.int v)) : Oc), h)) 60 [(1, .int v5)] [] h (k7_60 v5)) (hk7_46 : Sim l G 1 M_X3_listHere (fun v : Int32 => ((.inl (some (.int v)) : Oc), h)) 46 [] [] h (k7_46)) : ∀ (f : Nat) (w3 : Int32) (w4 : Int32), Sim l G 1 M_X3_listHere (fun v : Int32 => ((.inl (some (.int v)) : Oc), h)) 7 [(0, .ref u2), (1, .int w3), (2, .int w4)] [] h (m_X3_listHere_L7 u2 h k7_60 k7_46 f w3 w4) := by
  intro f
  induction f with
  | zero => intro w3 w4; exact S_none rfl
  | succ f ih =>
    intro w3 w4
    rw [m_X3_listHere_L7]
    refine S_iload_n 2 dX3_listHere_7 rfl rfl ?_
    refine S_aload_n 0 dX3_listHere_8 rfl rfl ?_
    refine S_getI kc3 (k := 8) (by decide) kw_199 dX3_listHere_9 (fun x6 _ => ?_)
    refine S_icmp_ge 60 dX3_listHere_12 (by decide) (fun c17 => ?_) (fun c17 => ?_)
    · exact Sim.sub [1] rfl (hk7_60 w3)
    · refine S_aload_n 0 dX3_listHere_15 rfl rfl ?_
      refine S_iload_n 2 dX3_listHere_16 rfl rfl ?_
      refine S_callV_IR (lev' := 0) (My := M_X3_byteAt) [.int w4] [] kc3 K_X3_byteAt kw_560 kw_562 kw_11 dX3_listHere_17 (by decide) rfl (Nat.le_of_ble_eq_true rfl) (fun xx ee => sm_X3_byteAt hs u2 w4 h xx ee) (fun x7 _ => ?_)
      refine S_bipush 97 dX3_listHere_20 (by decide) ?_
      refine S_isub dX3_listHere_22 ?_
      refine S_nmI (fun x8 => ?_)
      refine S_istore_n [(3, .int x8), (0, .ref u2), (1, .int w3), (2, .int w4)] dX3_listHere_23 rfl (Nat.le_of_ble_eq_true rfl) rfl ?_
      refine S_aload_n 1 dX3_listHere_24 rfl rfl ?_
      refine S_getR kc3 (k := 0) (by decide) kw_188 dX3_listHere_25 (fun a9 _ => ?_)
      refine S_callV_IR (lev' := 0) (My := M_X0_everyColour) [] [] kc0 K_X0_everyColour kw_665 kw_666 kw_667 dX3_listHere_28 (by decide) rfl (Nat.le_of_ble_eq_true rfl) (fun xx ee => sm_X0_everyColour hs a9 h xx ee) (fun x10 _ => ?_)
      refine S_iload_n 0 dX3_listHere_31 rfl rfl ?_
      refine S_callSN_BR (lev' := 0) (My := M_X5_has) [.int x10, .int x8] [] K_X5_has kn_673 kw_319 dX3_listHere_32 (by decide) rfl (Nat.le_of_ble_eq_true rfl) (fun xx ee => sm_X5_has hs x10 x8 _ xx ee) (fun bb11 _ => ?_)
      refine S_if_eqB 46 dX3_listHere_35 (by decide) (fun c16 => ?_) (fun c16 => ?_)
      · exact Sim.sub [] rfl (hk7_46)
      · refine S_iload_n 2 dX3_listHere_38 rfl rfl ?_
        refine S_iload_n 0 dX3_listHere_39 rfl rfl ?_
        refine S_callSN_BR (lev' := 0) (My := M_X5_has) [.int w3, .int x8] [] K_X5_has kn_673 kw_319 dX3_listHere_40 (by decide) rfl (Nat.le_of_ble_eq_true rfl) (fun xx ee => sm_X5_has hs w3 x8 _ xx ee) (fun bb12 _ => ?_)
        refine S_if_eqB 48 dX3_listHere_43 (by decide) (fun c15 => ?_) (fun c15 => ?_)
        · refine S_iload_n 2 dX3_listHere_48 rfl rfl ?_
          refine S_iconst 1 dX3_listHere_49 (by decide) ?_
          refine S_iload_n 0 dX3_listHere_50 rfl rfl ?_
          refine S_ishl dX3_listHere_51 ?_
          refine S_ior dX3_listHere_52 ?_
          refine S_nmI (fun x13 => ?_)
          refine S_istore_n [(1, .int x13), (3, .int x8), (0, .ref u2), (2, .int w4)] dX3_listHere_53 rfl (Nat.le_of_ble_eq_true rfl) rfl ?_
          refine S_iincN (c := 1) 3 (fun x14 => [(2, .int x14), (1, .int x13), (3, .int x8), (0, .ref u2)]) dX3_listHere_54 rfl (by decide) (Nat.le_of_ble_eq_true rfl) (fun _ => rfl) (fun x14 => ?_)
          refine S_goto 7 dX3_listHere_57 (by decide) ?_
          exact Sim.sub [3, 1, 0] rfl (ih x13 x14)
        · exact Sim.sub [] rfl (hk7_46)
set_option maxRecDepth 20000 in
set_option maxHeartbeats 4000000 in
theorem ss_X3_listHere (hs : l.stackTraces = false) (o : Nat) (h : Hp) : Sim l G 1 M_X3_listHere (fun v : Int32 => ((.inl (some (.int v)) : Oc), h)) 0 [(0, .ref o)] [] h (m_X3_listHere  o h) := by
  rw [m_X3_listHere]
  refine S_iconst 0 dX3_listHere_0 (by decide) ?_
  refine S_istore_n [(1, .int 0), (0, .ref o)] dX3_listHere_1 rfl (Nat.le_of_ble_eq_true rfl) rfl ?_
  refine S_aload_n 1 dX3_listHere_2 rfl rfl ?_
  refine S_getI kc3 (k := 7) (by decide) kw_198 dX3_listHere_3 (fun x1 _ => ?_)
  refine S_istore_n [(2, .int x1), (1, .int 0), (0, .ref o)] dX3_listHere_6 rfl (Nat.le_of_ble_eq_true rfl) rfl ?_
  refine Sim.sub [2, 1, 0] rfl (sl_X3_listHere_L7 hs o h _ _ ?_ ?_ LF (0 : Int32) x1)
  · intro v5
    refine S_iload_n 0 dX3_listHere_60 rfl rfl ?_
    exact S_ireturn rfl rfl dX3_listHere_61
  · refine S_iconst 0 dX3_listHere_46 (by decide) ?_
    exact S_ireturn rfl rfl dX3_listHere_47
theorem sm_X3_listHere (hs : l.stackTraces = false) (o : Nat) (h : Hp) : ∀ x, m_X3_listHere  o h = some x → SR l G 1 M_X3_listHere [.ref o] h (some (.int x)) h := fun x e => SR.of K_X3_listHere hs rfl (Nat.le_of_ble_eq_true rfl) (ss_X3_listHere hs o h) e rfl
end
section
variable {l : Launch} {G : Gx}
set_option maxRecDepth 20000 in
set_option maxHeartbeats 4000000 in
theorem sl_X3_advance_L8 (hs : l.stackTraces = false) (u3 : Nat) (k8_45 : Hp → Option Hp) (hk8_45 : ∀ (h4 : Hp), Sim l G 1 M_X3_advance (fun v : Hp => ((.inl none : Oc), v)) 45 [(0, .ref u3)] [] h4 (k8_45 h4)) : ∀ (f : Nat) (h : Hp), Sim l G 1 M_X3_advance (fun v : Hp => ((.inl none : Oc), v)) 8 [(0, .ref u3)] [] h (m_X3_advance_L8 u3 k8_45 f h) := by
  intro f
  induction f with
  | zero => intro h; exact S_none rfl
  | succ f ih =>
    intro h
    rw [m_X3_advance_L8]
    refine S_aload_n 0 dX3_advance_8 rfl rfl ?_
    refine S_getI kc3 (k := 7) (by decide) kw_198 dX3_advance_9 (fun x5 _ => ?_)
    refine S_aload_n 0 dX3_advance_12 rfl rfl ?_
    refine S_getI kc3 (k := 4) (by decide) kw_195 dX3_advance_13 (fun x6 _ => ?_)
    refine S_icmp_ge 45 dX3_advance_16 (by decide) (fun c12 => ?_) (fun c12 => ?_)
    · exact Sim.sub [0] rfl (hk8_45 h)
    · refine S_aload_n 0 dX3_advance_19 rfl rfl ?_
      refine S_aload_n 0 dX3_advance_20 rfl rfl ?_
      refine S_getI kc3 (k := 7) (by decide) kw_198 dX3_advance_21 (fun x7 _ => ?_)
      refine S_callV_IR (lev' := 0) (My := M_X3_byteAt) [.int x7] [] kc3 K_X3_byteAt kw_560 kw_562 kw_11 dX3_advance_24 (by decide) rfl (Nat.le_of_ble_eq_true rfl) (fun xx ee => sm_X3_byteAt hs u3 x7 h xx ee) (fun x8 _ => ?_)
      refine S_bipush 32 dX3_advance_27 (by decide) ?_
      refine S_icmp_ne 45 dX3_advance_29 (by decide) (fun c11 => ?_) (fun c11 => ?_)
      · exact Sim.sub [0] rfl (hk8_45 h)
      · refine S_aload_n 0 dX3_advance_32 rfl rfl ?_
        refine S_dup dX3_advance_33 rfl ?_
        refine S_getI kc3 (k := 7) (by decide) kw_198 dX3_advance_34 (fun x9 _ => ?_)
        refine S_iconst 1 dX3_advance_37 (by decide) ?_
        refine S_iadd dX3_advance_38 ?_
        refine S_put kc3 (k := 7) (by decide) rfl kw_198 rfl rfl dX3_advance_39 (fun h10 _ => ?_)
        refine S_goto 8 dX3_advance_42 (by decide) ?_
        exact Sim.sub [0] rfl (ih h10)
set_option maxRecDepth 20000 in
set_option maxHeartbeats 4000000 in
theorem sl_X3_advance_L155 (hs : l.stackTraces = false) (u25 : Nat) (k155_237 : Hp → Option Hp) (hk155_237 : ∀ (h26 : Hp), Sim l G 1 M_X3_advance (fun v : Hp => ((.inl none : Oc), v)) 237 [] [] h26 (k155_237 h26)) : ∀ (f : Nat) (h : Hp), Sim l G 1 M_X3_advance (fun v : Hp => ((.inl none : Oc), v)) 155 [(0, .ref u25)] [] h (m_X3_advance_L155 u25 k155_237 f h) := by
  intro f
  induction f with
  | zero => intro h; exact S_none rfl
  | succ f ih =>
    intro h
    rw [m_X3_advance_L155]
    refine S_aload_n 0 dX3_advance_155 rfl rfl ?_
    refine S_getI kc3 (k := 8) (by decide) kw_199 dX3_advance_156 (fun x27 _ => ?_)
    refine S_aload_n 0 dX3_advance_159 rfl rfl ?_
    refine S_getI kc3 (k := 4) (by decide) kw_195 dX3_advance_160 (fun x28 _ => ?_)
    refine S_icmp_ge 237 dX3_advance_163 (by decide) (fun c39 => ?_) (fun c39 => ?_)
    · exact Sim.sub [] rfl (hk155_237 h)
    · refine S_aload_n 0 dX3_advance_166 rfl rfl ?_
      refine S_aload_n 0 dX3_advance_167 rfl rfl ?_
      refine S_getI kc3 (k := 8) (by decide) kw_199 dX3_advance_168 (fun x29 _ => ?_)
      refine S_callV_IR (lev' := 0) (My := M_X3_byteAt) [.int x29] [] kc3 K_X3_byteAt kw_560 kw_562 kw_11 dX3_advance_171 (by decide) rfl (Nat.le_of_ble_eq_true rfl) (fun xx ee => sm_X3_byteAt hs u25 x29 h xx ee) (fun x30 _ => ?_)
      refine S_callS_BR (lev' := 0) (My := M_X3_isDigit) [.int x30] [] K_X3_isDigit kw_567 kw_568 dX3_advance_174 (by decide) rfl (Nat.le_of_ble_eq_true rfl) (fun xx ee => sm_X3_isDigit hs x30 _ xx ee) (fun bb31 _ => ?_)
      refine S_if_eqB 237 dX3_advance_177 (by decide) (fun c38 => ?_) (fun c38 => ?_)
      · exact Sim.sub [] rfl (hk155_237 h)
      · refine S_aload_n 0 dX3_advance_180 rfl rfl ?_
        refine S_bipush 10 dX3_advance_181 (by decide) ?_
        refine S_aload_n 0 dX3_advance_183 rfl rfl ?_
        refine S_getI kc3 (k := 9) (by decide) kw_200 dX3_advance_184 (fun x32 _ => ?_)
        refine S_imul dX3_advance_187 ?_
        refine S_aload_n 0 dX3_advance_188 rfl rfl ?_
        refine S_aload_n 0 dX3_advance_189 rfl rfl ?_
        refine S_getI kc3 (k := 8) (by decide) kw_199 dX3_advance_190 (fun x33 _ => ?_)
        refine S_callV_IR (lev' := 0) (My := M_X3_byteAt) [.int x33] [.int ((10 : Int32) * x32), .ref u25] kc3 K_X3_byteAt kw_560 kw_562 kw_11 dX3_advance_193 (by decide) rfl (Nat.le_of_ble_eq_true rfl) (fun xx ee => sm_X3_byteAt hs u25 x33 h xx ee) (fun x34 _ => ?_)
        refine S_iadd dX3_advance_196 ?_
        refine S_bipush 48 dX3_advance_197 (by decide) ?_
        refine S_isub dX3_advance_199 ?_
        refine S_sipush 1000 dX3_advance_200 (by decide) ?_
        refine S_mmin kw_570 (Nat.le_of_ble_eq_true rfl) dX3_advance_203 ?_
        refine S_put kc3 (k := 9) (by decide) rfl kw_200 rfl rfl dX3_advance_206 (fun h35 _ => ?_)
        refine S_aload_n 0 dX3_advance_209 rfl rfl ?_
        refine S_dup dX3_advance_210 rfl ?_
        refine S_getI kc3 (k := 8) (by decide) kw_199 dX3_advance_211 (fun x36 _ => ?_)
        refine S_iconst 1 dX3_advance_214 (by decide) ?_
        refine S_iadd dX3_advance_215 ?_
        refine S_put kc3 (k := 8) (by decide) rfl kw_199 rfl rfl dX3_advance_216 (fun h37 _ => ?_)
        refine S_goto 155 dX3_advance_219 (by decide) ?_
        exact Sim.sub [0] rfl (ih h37)
set_option maxRecDepth 20000 in
set_option maxHeartbeats 4000000 in
theorem sl_X3_advance_L97 (hs : l.stackTraces = false) (u42 : Nat) (k97_237 : Hp → Option Hp) (hk97_237 : ∀ (h43 : Hp), Sim l G 1 M_X3_advance (fun v : Hp => ((.inl none : Oc), v)) 237 [] [] h43 (k97_237 h43)) : ∀ (f : Nat) (h : Hp), Sim l G 1 M_X3_advance (fun v : Hp => ((.inl none : Oc), v)) 97 [(0, .ref u42)] [] h (m_X3_advance_L97 u42 k97_237 f h) := by
  intro f
  induction f with
  | zero => intro h; exact S_none rfl
  | succ f ih =>
    intro h
    rw [m_X3_advance_L97]
    refine S_aload_n 0 dX3_advance_97 rfl rfl ?_
    refine S_getI kc3 (k := 8) (by decide) kw_199 dX3_advance_98 (fun x44 _ => ?_)
    refine S_aload_n 0 dX3_advance_101 rfl rfl ?_
    refine S_getI kc3 (k := 4) (by decide) kw_195 dX3_advance_102 (fun x45 _ => ?_)
    refine S_icmp_ge 237 dX3_advance_105 (by decide) (fun c52 => ?_) (fun c52 => ?_)
    · exact Sim.sub [] rfl (hk97_237 h)
    · refine S_aload_n 0 dX3_advance_108 rfl rfl ?_
      refine S_aload_n 0 dX3_advance_109 rfl rfl ?_
      refine S_getI kc3 (k := 8) (by decide) kw_199 dX3_advance_110 (fun x46 _ => ?_)
      refine S_callV_IR (lev' := 0) (My := M_X3_byteAt) [.int x46] [] kc3 K_X3_byteAt kw_560 kw_562 kw_11 dX3_advance_113 (by decide) rfl (Nat.le_of_ble_eq_true rfl) (fun xx ee => sm_X3_byteAt hs u42 x46 h xx ee) (fun x47 _ => ?_)
      refine S_callS_BR (lev' := 0) (My := M_X3_isLetter) [.int x47] [] K_X3_isLetter kw_564 kw_565 dX3_advance_116 (by decide) rfl (Nat.le_of_ble_eq_true rfl) (fun xx ee => sm_X3_isLetter hs x47 _ xx ee) (fun bb48 _ => ?_)
      refine S_if_eqB 237 dX3_advance_119 (by decide) (fun c51 => ?_) (fun c51 => ?_)
      · exact Sim.sub [] rfl (hk97_237 h)
      · refine S_aload_n 0 dX3_advance_122 rfl rfl ?_
        refine S_dup dX3_advance_123 rfl ?_
        refine S_getI kc3 (k := 8) (by decide) kw_199 dX3_advance_124 (fun x49 _ => ?_)
        refine S_iconst 1 dX3_advance_127 (by decide) ?_
        refine S_iadd dX3_advance_128 ?_
        refine S_put kc3 (k := 8) (by decide) rfl kw_199 rfl rfl dX3_advance_129 (fun h50 _ => ?_)
        refine S_goto 97 dX3_advance_132 (by decide) ?_
        exact Sim.sub [0] rfl (ih h50)
set_option maxRecDepth 20000 in
set_option maxHeartbeats 4000000 in
theorem ss_X3_advance (hs : l.stackTraces = false) (o : Nat) (h : Hp) : Sim l G 1 M_X3_advance (fun v : Hp => ((.inl none : Oc), v)) 0 [(0, .ref o)] [] h (m_X3_advance  o h) := by
  rw [m_X3_advance]
  refine S_aload_n 0 dX3_advance_0 rfl rfl ?_
  refine S_aload_n 0 dX3_advance_1 rfl rfl ?_
  refine S_getI kc3 (k := 8) (by decide) kw_199 dX3_advance_2 (fun x1 _ => ?_)
  refine S_put kc3 (k := 7) (by decide) rfl kw_198 rfl rfl dX3_advance_5 (fun h2 _ => ?_)
  refine Sim.sub [0] rfl (sl_X3_advance_L8 hs o _ ?_ LF h2)
  · intro h4
    refine S_aload_n 0 dX3_advance_45 rfl rfl ?_
    refine S_aload_n 0 dX3_advance_46 rfl rfl ?_
    refine S_getI kc3 (k := 7) (by decide) kw_198 dX3_advance_47 (fun x13 _ => ?_)
    refine S_iconst 1 dX3_advance_50 (by decide) ?_
    refine S_iadd dX3_advance_51 ?_
    refine S_put kc3 (k := 8) (by decide) rfl kw_199 rfl rfl dX3_advance_52 (fun h14 _ => ?_)
    refine S_aload_n 0 dX3_advance_55 rfl rfl ?_
    refine S_aload_n 0 dX3_advance_56 rfl rfl ?_
    refine S_getI kc3 (k := 7) (by decide) kw_198 dX3_advance_57 (fun x15 _ => ?_)
    refine S_callV_IR (lev' := 0) (My := M_X3_byteAt) [.int x15] [] kc3 K_X3_byteAt kw_560 kw_562 kw_11 dX3_advance_60 (by decide) rfl (Nat.le_of_ble_eq_true rfl) (fun xx ee => sm_X3_byteAt hs o x15 h14 xx ee) (fun x16 _ => ?_)
    refine S_istore_n [(1, .int x16), (0, .ref o)] dX3_advance_63 rfl (Nat.le_of_ble_eq_true rfl) rfl ?_
    refine S_iload_n 0 dX3_advance_64 rfl rfl ?_
    refine S_iconst (-1) dX3_advance_65 (by decide) ?_
    refine S_icmp_ne 85 dX3_advance_66 (by decide) (fun c57 => ?_) (fun c57 => ?_)
    · refine S_iload_n 0 dX3_advance_85 rfl rfl ?_
      refine S_callS_BR (lev' := 0) (My := M_X3_isLetter) [.int x16] [] K_X3_isLetter kw_564 kw_565 dX3_advance_86 (by decide) rfl (Nat.le_of_ble_eq_true rfl) (fun xx ee => sm_X3_isLetter hs x16 _ xx ee) (fun bb17 _ => ?_)
      refine S_if_eqB 135 dX3_advance_89 (by decide) (fun c53 => ?_) (fun c53 => ?_)
      · refine S_iload_n 0 dX3_advance_135 rfl rfl ?_
        refine S_callS_BR (lev' := 0) (My := M_X3_isDigit) [.int x16] [] K_X3_isDigit kw_567 kw_568 dX3_advance_136 (by decide) rfl (Nat.le_of_ble_eq_true rfl) (fun xx ee => sm_X3_isDigit hs x16 _ xx ee) (fun bb18 _ => ?_)
        refine S_if_eqB 222 dX3_advance_139 (by decide) (fun c40 => ?_) (fun c40 => ?_)
        · refine S_aload_n 1 dX3_advance_222 rfl rfl ?_
          refine S_iload_n 0 dX3_advance_223 rfl rfl ?_
          refine S_bipush 59 dX3_advance_224 (by decide) ?_
          refine S_jK (fun (k20 : Int32 → Option Hp) => ∀ (v19 : Int32), Sim l G 1 M_X3_advance (fun v : Hp => ((.inl none : Oc), v)) 234 [] [.int v19, .ref o] h14 (k20 v19)) ?_ (fun k20 hk20 => ?_)
          · intro v19
            refine S_put kc3 (k := 6) (by decide) rfl kw_197 rfl rfl dX3_advance_234 (fun h21 _ => ?_)
            exact S_return rfl rfl dX3_advance_237
          refine S_icmp_ne 233 dX3_advance_226 (by decide) (fun c22 => ?_) (fun c22 => ?_)
          · refine S_iconst 4 dX3_advance_233 (by decide) ?_
            exact Sim.sub [] rfl (hk20 (4 : Int32))
          · refine S_iconst 3 dX3_advance_229 (by decide) ?_
            refine S_goto 234 dX3_advance_230 (by decide) ?_
            exact Sim.sub [] rfl (hk20 (3 : Int32))
        · refine S_aload_n 1 dX3_advance_142 rfl rfl ?_
          refine S_iconst 2 dX3_advance_143 (by decide) ?_
          refine S_put kc3 (k := 6) (by decide) rfl kw_197 rfl rfl dX3_advance_144 (fun h23 _ => ?_)
          refine S_aload_n 1 dX3_advance_147 rfl rfl ?_
          refine S_iload_n 0 dX3_advance_148 rfl rfl ?_
          refine S_bipush 48 dX3_advance_149 (by decide) ?_
          refine S_isub dX3_advance_151 ?_
          refine S_put kc3 (k := 9) (by decide) rfl kw_200 rfl rfl dX3_advance_152 (fun h24 _ => ?_)
          refine Sim.sub [1] rfl (sl_X3_advance_L155 hs o _ ?_ LF h24)
          · intro h26
            exact S_return rfl rfl dX3_advance_237
      · refine S_aload_n 1 dX3_advance_92 rfl rfl ?_
        refine S_iconst 1 dX3_advance_93 (by decide) ?_
        refine S_put kc3 (k := 6) (by decide) rfl kw_197 rfl rfl dX3_advance_94 (fun h41 _ => ?_)
        refine Sim.sub [1] rfl (sl_X3_advance_L97 hs o _ ?_ LF h41)
        · intro h43
          exact S_return rfl rfl dX3_advance_237
    · refine S_aload_n 1 dX3_advance_69 rfl rfl ?_
      refine S_iconst 0 dX3_advance_70 (by decide) ?_
      refine S_put kc3 (k := 6) (by decide) rfl kw_197 rfl rfl dX3_advance_71 (fun h54 _ => ?_)
      refine S_aload_n 1 dX3_advance_74 rfl rfl ?_
      refine S_aload_n 1 dX3_advance_75 rfl rfl ?_
      refine S_getI kc3 (k := 7) (by decide) kw_198 dX3_advance_76 (fun x55 _ => ?_)
      refine S_put kc3 (k := 8) (by decide) rfl kw_199 rfl rfl dX3_advance_79 (fun h56 _ => ?_)
      refine S_goto 237 dX3_advance_82 (by decide) ?_
      exact S_return rfl rfl dX3_advance_237
theorem sm_X3_advance (hs : l.stackTraces = false) (o : Nat) (h : Hp) : ∀ h1, m_X3_advance  o h = some h1 → SR l G 1 M_X3_advance [.ref o] h none h1 := fun h1 e => SR.of K_X3_advance hs rfl (Nat.le_of_ble_eq_true rfl) (ss_X3_advance hs o h) e rfl
end
section
variable {l : Launch} {G : Gx}
set_option maxRecDepth 20000 in
set_option maxHeartbeats 4000000 in
theorem ss_X4_init (hs : l.stackTraces = false) (o : Nat) (h : Hp) : Sim l G 1 M_X4_init (fun v : Hp => ((.inl none : Oc), v)) 0 [(0, .ref o)] [] h (m_X4_init  o h) := by
  rw [m_X4_init]
  refine S_aload_n 0 dX4_init_0 rfl rfl ?_
  refine S_obj kw_115 k_oi k_oc (Nat.le_of_ble_eq_true rfl) dX4_init_1 ?_
  refine S_aload_n 0 dX4_init_4 rfl rfl ?_
  refine S_newN kc0 rfl kd0 kw_116 kw_117 kw_84 dX4_init_5 (fun a1 h2 => ?_)
  refine S_dup dX4_init_8 rfl ?_
  refine S_callI_VW (lev' := 0) (My := M_X0_init) [] [.ref a1, .ref o] K_X0_init rfl rfl kw_118 kw_119 dX4_init_9 (by decide) rfl (Nat.le_of_ble_eq_true rfl) (fun xx ee => sm_X0_init hs a1 h2 xx ee) (fun h3 _ => ?_)
  refine S_putF kc4 (k := 0) (by decide) rfl rfl rfl kw_168 rfl rfl dX4_init_12 (fun h4 _ => ?_)
  refine S_aload_n 0 dX4_init_15 rfl rfl ?_
  refine S_ldc 32768 kw_167 dX4_init_16 ?_
  refine S_newarr1 (N := 32768) (by decide) (by decide) (by decide) kw_179 dX4_init_18 (fun a5 h6 => ?_)
  refine S_putF kc4 (k := 1) (by decide) rfl rfl rfl kw_170 rfl rfl dX4_init_20 (fun h7 _ => ?_)
  refine S_aload_n 0 dX4_init_23 rfl rfl ?_
  refine S_ldc 32768 kw_167 dX4_init_24 ?_
  refine S_newarr0 (N := 32768) (by decide) (by decide) (by decide) kw_166 dX4_init_26 (fun a8 h9 => ?_)
  refine S_putF kc4 (k := 2) (by decide) rfl rfl rfl kw_171 rfl rfl dX4_init_28 (fun h10 _ => ?_)
  exact S_return rfl rfl dX4_init_31
theorem sm_X4_init (hs : l.stackTraces = false) (o : Nat) (h : Hp) : ∀ h1, m_X4_init  o h = some h1 → SR l G 1 M_X4_init [.ref o] h none h1 := fun h1 e => SR.of K_X4_init hs rfl (Nat.le_of_ble_eq_true rfl) (ss_X4_init hs o h) e rfl
end
section
variable {l : Launch} {G : Gx}
set_option maxRecDepth 20000 in
set_option maxHeartbeats 4000000 in
theorem ss_X4_behind (hs : l.stackTraces = false) (o : Nat) (p1 : Int64) (p2 : Int32) (p3 : Int32) (h : Hp) : Sim l G 1 M_X4_behind (fun v : Int64 => ((.inl (some (.long v)) : Oc), h)) 0 [(0, .ref o), (1, .long p1), (3, .int p2), (4, .int p3)] [] h (m_X4_behind  o p1 p2 p3 h) := by
  rw [m_X4_behind]
  refine S_aload_n 0 dX4_behind_0 rfl rfl ?_
  refine S_getR kc4 (k := 0) (by decide) kw_168 dX4_behind_1 (fun a1 _ => ?_)
  refine S_iload_n 2 dX4_behind_4 rfl rfl ?_
  refine S_callV_IR (lev' := 0) (My := M_X0_neighbours) [.int p2] [] kc0 K_X0_neighbours kw_325 kw_326 kw_327 dX4_behind_5 (by decide) rfl (Nat.le_of_ble_eq_true rfl) (fun xx ee => sm_X0_neighbours hs a1 p2 h xx ee) (fun x2 _ => ?_)
  refine S_i2l dX4_behind_8 ?_
  refine S_iload 3 dX4_behind_9 rfl ?_
  refine S_callS_IR (lev' := 0) (My := M_X4_setShift) [.int p3] [.long (Int32.toInt64 x2)] K_X4_setShift kw_305 kw_306 dX4_behind_11 (by decide) rfl (Nat.le_of_ble_eq_true rfl) (fun xx ee => sm_X4_setShift hs p3 _ xx ee) (fun x3 _ => ?_)
  refine S_lshl dX4_behind_14 ?_
  refine S_nmJ (fun x4 => ?_)
  refine S_lstore [(5, .long x4), (0, .ref o), (1, .long p1), (3, .int p2), (4, .int p3)] dX4_behind_15 (Nat.le_of_ble_eq_true rfl) rfl ?_
  refine S_lload_n 2 dX4_behind_17 rfl rfl ?_
  refine S_ldc2 134480385 kw_329 dX4_behind_18 ?_
  refine S_iload_n 3 dX4_behind_21 rfl rfl ?_
  refine S_lshl dX4_behind_22 ?_
  refine S_lload 0 dX4_behind_23 rfl ?_
  refine S_lor dX4_behind_25 ?_
  refine S_ldc2 206158430208 kw_330 dX4_behind_26 ?_
  refine S_lor dX4_behind_29 ?_
  refine S_ldc2 (-1) kw_331 dX4_behind_30 ?_
  refine S_lxor dX4_behind_33 ?_
  refine S_land dX4_behind_34 ?_
  refine S_iload 4 dX4_behind_35 rfl ?_
  refine S_iconst 1 dX4_behind_37 (by decide) ?_
  refine S_iadd dX4_behind_38 ?_
  refine S_i2l dX4_behind_39 ?_
  refine S_bipush 36 dX4_behind_40 (by decide) ?_
  refine S_lshl dX4_behind_42 ?_
  refine S_lor dX4_behind_43 ?_
  exact S_lreturn rfl rfl dX4_behind_44
theorem sm_X4_behind (hs : l.stackTraces = false) (o : Nat) (p1 : Int64) (p2 : Int32) (p3 : Int32) (h : Hp) : ∀ x, m_X4_behind  o p1 p2 p3 h = some x → SR l G 1 M_X4_behind [.ref o, .long p1, .int p2, .int p3] h (some (.long x)) h := fun x e => SR.of K_X4_behind hs rfl (Nat.le_of_ble_eq_true rfl) (ss_X4_behind hs o p1 p2 p3 h) e rfl
end
section
variable {l : Launch} {G : Gx}
set_option maxRecDepth 20000 in
set_option maxHeartbeats 4000000 in
theorem ss_X5_init (hs : l.stackTraces = false) (o : Nat) (h : Hp) : Sim l G 2 M_X5_init (fun v : Hp => ((.inl none : Oc), v)) 0 [(0, .ref o)] [] h (m_X5_init  o h) := by
  rw [m_X5_init]
  refine S_aload_n 0 dX5_init_0 rfl rfl ?_
  refine S_obj kw_107 k_oi k_oc (Nat.le_of_ble_eq_true rfl) dX5_init_1 ?_
  refine S_aload_n 0 dX5_init_4 rfl rfl ?_
  refine S_newN kc4 rfl kd4 kw_110 kw_111 kw_83 dX5_init_5 (fun a1 h2 => ?_)
  refine S_dup dX5_init_8 rfl ?_
  refine S_callIN_VW (lev' := 1) (My := M_X4_init) [] [.ref a1, .ref o] K_X4_init rfl rfl kn_112 kw_113 dX5_init_9 (by decide) rfl (Nat.le_of_ble_eq_true rfl) (fun xx ee => sm_X4_init hs a1 h2 xx ee) (fun h3 _ => ?_)
  refine S_putF kc5 (k := 1) (by decide) rfl rfl rfl kw_244 rfl rfl dX5_init_12 (fun h4 _ => ?_)
  refine S_aload_n 0 dX5_init_15 rfl rfl ?_
  refine S_aload_n 0 dX5_init_16 rfl rfl ?_
  refine S_getR kc5 (k := 1) (by decide) kw_244 dX5_init_17 (fun a5 _ => ?_)
  refine S_getR kc4 (k := 0) (by decide) kw_169 dX5_init_20 (fun a6 _ => ?_)
  refine S_putF kc5 (k := 0) (by decide) rfl rfl rfl kw_243 rfl rfl dX5_init_23 (fun h7 _ => ?_)
  refine S_aload_n 0 dX5_init_26 rfl rfl ?_
  refine S_newN kc3 rfl kd3 kw_180 kw_181 kw_85 dX5_init_27 (fun a8 h9 => ?_)
  refine S_dup dX5_init_30 rfl ?_
  refine S_callIN_VW (lev' := 1) (My := M_X3_init) [] [.ref a8, .ref o] K_X3_init rfl rfl kn_182 kw_183 dX5_init_31 (by decide) rfl (Nat.le_of_ble_eq_true rfl) (fun xx ee => sm_X3_init hs a8 h9 xx ee) (fun h10 _ => ?_)
  refine S_putF kc5 (k := 2) (by decide) rfl rfl rfl kw_245 rfl rfl dX5_init_34 (fun h11 _ => ?_)
  refine S_aload_n 0 dX5_init_37 rfl rfl ?_
  refine S_newN kc1 rfl kd1 kw_223 kw_224 kw_86 dX5_init_38 (fun a12 h13 => ?_)
  refine S_dup dX5_init_41 rfl ?_
  refine S_callIN_VW (lev' := 0) (My := M_X1_init) [] [.ref a12, .ref o] K_X1_init rfl rfl kn_225 kw_226 dX5_init_42 (by decide) rfl (Nat.le_of_ble_eq_true rfl) (fun xx ee => sm_X1_init hs a12 h13 xx ee) (fun h14 _ => ?_)
  refine S_putF kc5 (k := 3) (by decide) rfl rfl rfl kw_246 rfl rfl dX5_init_45 (fun h15 _ => ?_)
  refine S_aload_n 0 dX5_init_48 rfl rfl ?_
  refine S_iconst 2 dX5_init_49 (by decide) ?_
  refine S_anewN (N := 2) (by decide) (by decide) (by decide) kw_242 dX5_init_50 (fun a16 h17 => ?_)
  refine S_putF kc5 (k := 4) (by decide) rfl rfl rfl kw_247 rfl rfl dX5_init_53 (fun h18 _ => ?_)
  refine S_aload_n 0 dX5_init_56 rfl rfl ?_
  refine S_bipush 13 dX5_init_57 (by decide) ?_
  refine S_newarr2 (N := 13) (by decide) (by decide) (by decide) kw_222 dX5_init_59 (fun a19 h20 => ?_)
  refine S_putF kc5 (k := 5) (by decide) rfl rfl rfl kw_248 rfl rfl dX5_init_61 (fun h21 _ => ?_)
  exact S_return rfl rfl dX5_init_64
theorem sm_X5_init (hs : l.stackTraces = false) (o : Nat) (h : Hp) : ∀ h1, m_X5_init  o h = some h1 → SR l G 2 M_X5_init [.ref o] h none h1 := fun h1 e => SR.of K_X5_init hs rfl (Nat.le_of_ble_eq_true rfl) (ss_X5_init hs o h) e rfl
end
