/-! printed by wip/whole/emit.py: walks -/
section
variable {l : Launch} {G : Gx}
set_option maxRecDepth 20000 in
set_option maxHeartbeats 4000000 in
theorem ss_X6_pass (hs : l.stackTraces = false) (o : Nat) (h : Hp) : Sim l G 4 M_X6_pass (fun p : Int32 × Hp => ((.inl (some (.int p.1)) : Oc), p.2)) 0 [(0, .ref o)] [] h (m_X6_pass  o h) := by
  rw [m_X6_pass]
  refine S_aload_n 0 dX6_pass_0 rfl rfl ?_
  refine S_aload_n 0 dX6_pass_1 rfl rfl ?_
  refine S_getR kc6 (k := 0) (by decide) kw_1040 dX6_pass_2 (fun a1 _ => ?_)
  refine S_iconst 2 dX6_pass_5 (by decide) ?_
  refine S_iaload dX6_pass_6 (fun x2 _ => ?_)
  refine S_jK (fun (k4 : Bool → Option (Int32 × Hp)) => ∀ (v3 : Bool), Sim l G 4 M_X6_pass (fun p : Int32 × Hp => ((.inl (some (.int p.1)) : Oc), p.2)) 15 [(0, .ref o)] [.int (bI v3), .ref o] h (k4 v3)) ?_ (fun k4 hk4 => ?_)
  · intro v3
    refine S_put kc6 (k := 7) (by decide) rfl kw_1047 rfl rfl dX6_pass_15 (fun h5 _ => ?_)
    refine S_aload_n 0 dX6_pass_18 rfl rfl ?_
    refine S_getI kc6 (k := 7) (by decide) kw_1047 dX6_pass_19 (fun x6 _ => ?_)
    refine S_if_le 27 dX6_pass_22 (by decide) (fun c11 => ?_) (fun c11 => ?_)
    · refine S_aload_n 0 dX6_pass_27 rfl rfl ?_
      refine S_callV_VW (lev' := 1) (My := M_X6_keeps) [] [] kc6 K_X6_keeps kw_1260 kw_1262 kw_57 dX6_pass_28 (by decide) rfl (Nat.le_of_ble_eq_true rfl) (fun xx ee => sm_X6_keeps hs o h5 xx ee) (fun h7 _ => ?_)
      refine S_aload_n 0 dX6_pass_31 rfl rfl ?_
      refine S_callV_VW (lev' := 3) (My := M_X6_passes) [] [] kc6 K_X6_passes kw_1256 kw_1258 kw_56 dX6_pass_32 (by decide) rfl (Nat.le_of_ble_eq_true rfl) (fun xx ee => sm_X6_passes hs o h7 xx ee) (fun h8 _ => ?_)
      refine S_aload_n 0 dX6_pass_35 rfl rfl ?_
      refine S_getR kc6 (k := 0) (by decide) kw_1040 dX6_pass_36 (fun a9 _ => ?_)
      refine S_iconst 2 dX6_pass_39 (by decide) ?_
      refine S_iaload dX6_pass_40 (fun x10 _ => ?_)
      exact S_ireturn rfl rfl dX6_pass_41
    · refine S_iconst 0 dX6_pass_25 (by decide) ?_
      exact S_ireturn rfl rfl dX6_pass_26
  refine S_if_ne 14 dX6_pass_7 (by decide) (fun c12 => ?_) (fun c12 => ?_)
  · refine S_iconst 0 dX6_pass_14 (by decide) ?_
    exact Sim.sub [0] rfl (hk4 false)
  · refine S_iconst 1 dX6_pass_10 (by decide) ?_
    refine S_goto 15 dX6_pass_11 (by decide) ?_
    exact Sim.sub [0] rfl (hk4 true)
theorem sm_X6_pass (hs : l.stackTraces = false) (o : Nat) (h : Hp) : ∀ x h1, m_X6_pass  o h = some (x, h1) → SR l G 4 M_X6_pass [.ref o] h (some (.int x)) h1 := fun x h1 e => SR.of K_X6_pass hs rfl (Nat.le_of_ble_eq_true rfl) (ss_X6_pass hs o h) e rfl
end
section
variable {l : Launch} {G : Gx}
set_option maxRecDepth 20000 in
set_option maxHeartbeats 4000000 in
theorem sl_X0_choicesIn_L4 (hs : l.stackTraces = false) (u1 : Nat) (u2 : Int32) (h : Hp) (k4_35 : Int32 → Option Int32) (hk4_35 : ∀ (v5 : Int32), Sim l G 4 M_X0_choicesIn (fun v : Int32 => ((.inl (some (.int v)) : Oc), h)) 35 [(2, .int v5)] [] h (k4_35 v5)) : ∀ (f : Nat) (w3 : Int32) (w4 : Int32), Sim l G 4 M_X0_choicesIn (fun v : Int32 => ((.inl (some (.int v)) : Oc), h)) 4 [(0, .ref u1), (1, .int u2), (2, .int w3), (3, .int w4)] [] h (m_X0_choicesIn_L4 u1 u2 h k4_35 f w3 w4) := by
  intro f
  induction f with
  | zero => intro w3 w4; exact S_none rfl
  | succ f ih =>
    intro w3 w4
    rw [m_X0_choicesIn_L4]
    refine S_iload_n 3 dX0_choicesIn_4 rfl rfl ?_
    refine S_bipush 9 dX0_choicesIn_5 (by decide) ?_
    refine S_icmp_ge 35 dX0_choicesIn_7 (by decide) (fun c14 => ?_) (fun c14 => ?_)
    · exact Sim.sub [2] rfl (hk4_35 w3)
    · refine S_iload_n 1 dX0_choicesIn_10 rfl rfl ?_
      refine S_iload_n 3 dX0_choicesIn_11 rfl rfl ?_
      refine S_callSN_BR (lev' := 0) (My := M_X5_has) [.int u2, .int w4] [] K_X5_has kn_391 kw_319 dX0_choicesIn_12 (by decide) rfl (Nat.le_of_ble_eq_true rfl) (fun xx ee => sm_X5_has hs u2 w4 _ xx ee) (fun bb6 _ => ?_)
      refine S_jK (fun (k8 : Int32 → Option Int32) => ∀ (v7 : Int32), Sim l G 4 M_X0_choicesIn (fun v : Int32 => ((.inl (some (.int v)) : Oc), h)) 29 [(0, .ref u1), (1, .int u2), (2, .int v7), (3, .int w4)] [] h (k8 v7)) ?_ (fun k8 hk8 => ?_)
      · intro v7
        refine S_iincN (c := 1) 3 (fun x9 => [(3, .int x9), (0, .ref u1), (1, .int u2), (2, .int v7)]) dX0_choicesIn_29 rfl (by decide) (Nat.le_of_ble_eq_true rfl) (fun _ => rfl) (fun x9 => ?_)
        refine S_goto 4 dX0_choicesIn_32 (by decide) ?_
        exact Sim.sub [1, 2, 3, 0] rfl (ih v7 x9)
      refine S_if_eqB 29 dX0_choicesIn_15 (by decide) (fun c13 => ?_) (fun c13 => ?_)
      · exact Sim.sub [0, 1, 2, 3] rfl (hk8 w3)
      · refine S_iload_n 2 dX0_choicesIn_18 rfl rfl ?_
        refine S_aload_n 0 dX0_choicesIn_19 rfl rfl ?_
        refine S_iload_n 3 dX0_choicesIn_20 rfl rfl ?_
        refine S_callV_IR (lev' := 3) (My := M_X0_choicesOn) [.int w4] [.int w3] kc0 K_X0_choicesOn kw_792 kw_380 kw_381 dX0_choicesIn_21 (by decide) rfl (Nat.le_of_ble_eq_true rfl) (fun xx ee => sm_X0_choicesOn hs u1 w4 h xx ee) (fun x10 _ => ?_)
        refine S_callS_IR (lev' := 0) (My := M_J6_bitCount) [.int x10] [.int w3] K_J6_bitCount kw_284 kw_285 dX0_choicesIn_24 (by decide) rfl (Nat.le_of_ble_eq_true rfl) (fun xx ee => sm_J6_bitCount hs x10 _ xx ee) (fun x11 _ => ?_)
        refine S_iadd dX0_choicesIn_27 ?_
        refine S_nmI (fun x12 => ?_)
        refine S_istore_n [(2, .int x12), (0, .ref u1), (1, .int u2), (3, .int w4)] dX0_choicesIn_28 rfl (Nat.le_of_ble_eq_true rfl) rfl ?_
        exact Sim.sub [1, 2, 0, 3] rfl (hk8 x12)
set_option maxRecDepth 20000 in
set_option maxHeartbeats 4000000 in
theorem ss_X0_choicesIn (hs : l.stackTraces = false) (o : Nat) (p1 : Int32) (h : Hp) : Sim l G 4 M_X0_choicesIn (fun v : Int32 => ((.inl (some (.int v)) : Oc), h)) 0 [(0, .ref o), (1, .int p1)] [] h (m_X0_choicesIn  o p1 h) := by
  rw [m_X0_choicesIn]
  refine S_iconst 0 dX0_choicesIn_0 (by decide) ?_
  refine S_istore_n [(2, .int 0), (0, .ref o), (1, .int p1)] dX0_choicesIn_1 rfl (Nat.le_of_ble_eq_true rfl) rfl ?_
  refine S_iconst 0 dX0_choicesIn_2 (by decide) ?_
  refine S_istore_n [(3, .int 0), (2, .int 0), (0, .ref o), (1, .int p1)] dX0_choicesIn_3 rfl (Nat.le_of_ble_eq_true rfl) rfl ?_
  refine Sim.sub [2, 3, 1, 0] rfl (sl_X0_choicesIn_L4 hs o p1 h _ ?_ LF (0 : Int32) (0 : Int32))
  · intro v5
    refine S_iload_n 0 dX0_choicesIn_35 rfl rfl ?_
    exact S_ireturn rfl rfl dX0_choicesIn_36
theorem sm_X0_choicesIn (hs : l.stackTraces = false) (o : Nat) (p1 : Int32) (h : Hp) : ∀ x, m_X0_choicesIn  o p1 h = some x → SR l G 4 M_X0_choicesIn [.ref o, .int p1] h (some (.int x)) h := fun x e => SR.of K_X0_choicesIn hs rfl (Nat.le_of_ble_eq_true rfl) (ss_X0_choicesIn hs o p1 h) e rfl
end
section
variable {l : Launch} {G : Gx}
set_option maxRecDepth 20000 in
set_option maxHeartbeats 4000000 in
theorem sl_X0_stuckVertices_L4 (hs : l.stackTraces = false) (u1 : Nat) (h : Hp) (k4_35 : Int32 → Option Int32) (hk4_35 : ∀ (v4 : Int32), Sim l G 4 M_X0_stuckVertices (fun v : Int32 => ((.inl (some (.int v)) : Oc), h)) 35 [(1, .int v4)] [] h (k4_35 v4)) : ∀ (f : Nat) (w2 : Int32) (w3 : Int32), Sim l G 4 M_X0_stuckVertices (fun v : Int32 => ((.inl (some (.int v)) : Oc), h)) 4 [(0, .ref u1), (1, .int w2), (2, .int w3)] [] h (m_X0_stuckVertices_L4 u1 h k4_35 f w2 w3) := by
  intro f
  induction f with
  | zero => intro w2 w3; exact S_none rfl
  | succ f ih =>
    intro w2 w3
    rw [m_X0_stuckVertices_L4]
    refine S_iload_n 2 dX0_stuckVertices_4 rfl rfl ?_
    refine S_bipush 9 dX0_stuckVertices_5 (by decide) ?_
    refine S_icmp_ge 35 dX0_stuckVertices_7 (by decide) (fun c13 => ?_) (fun c13 => ?_)
    · exact Sim.sub [1] rfl (hk4_35 w2)
    · refine S_aload_n 0 dX0_stuckVertices_10 rfl rfl ?_
      refine S_iload_n 2 dX0_stuckVertices_11 rfl rfl ?_
      refine S_callV_BR (lev' := 1) (My := M_X0_isFree) [.int w3] [] kc0 K_X0_isFree kw_387 kw_388 kw_389 dX0_stuckVertices_12 (by decide) rfl (Nat.le_of_ble_eq_true rfl) (fun xx ee => sm_X0_isFree hs u1 w3 h xx ee) (fun bb5 _ => ?_)
      refine S_jK (fun (k7 : Int32 → Option Int32) => ∀ (v6 : Int32), Sim l G 4 M_X0_stuckVertices (fun v : Int32 => ((.inl (some (.int v)) : Oc), h)) 29 [(0, .ref u1), (1, .int v6), (2, .int w3)] [] h (k7 v6)) ?_ (fun k7 hk7 => ?_)
      · intro v6
        refine S_iincN (c := 1) 2 (fun x8 => [(2, .int x8), (0, .ref u1), (1, .int v6)]) dX0_stuckVertices_29 rfl (by decide) (Nat.le_of_ble_eq_true rfl) (fun _ => rfl) (fun x8 => ?_)
        refine S_goto 4 dX0_stuckVertices_32 (by decide) ?_
        exact Sim.sub [1, 2, 0] rfl (ih v6 x8)
      refine S_if_eqB 29 dX0_stuckVertices_15 (by decide) (fun c12 => ?_) (fun c12 => ?_)
      · exact Sim.sub [0, 1, 2] rfl (hk7 w2)
      · refine S_aload_n 0 dX0_stuckVertices_18 rfl rfl ?_
        refine S_iload_n 2 dX0_stuckVertices_19 rfl rfl ?_
        refine S_callV_IR (lev' := 3) (My := M_X0_choicesOn) [.int w3] [] kc0 K_X0_choicesOn kw_792 kw_380 kw_381 dX0_stuckVertices_20 (by decide) rfl (Nat.le_of_ble_eq_true rfl) (fun xx ee => sm_X0_choicesOn hs u1 w3 h xx ee) (fun x9 _ => ?_)
        refine S_if_ne 29 dX0_stuckVertices_23 (by decide) (fun c11 => ?_) (fun c11 => ?_)
        · exact Sim.sub [0, 1, 2] rfl (hk7 w2)
        · refine S_iincN (c := 1) 1 (fun x10 => [(1, .int x10), (0, .ref u1), (2, .int w3)]) dX0_stuckVertices_26 rfl (by decide) (Nat.le_of_ble_eq_true rfl) (fun _ => rfl) (fun x10 => ?_)
          exact Sim.sub [1, 0, 2] rfl (hk7 x10)
set_option maxRecDepth 20000 in
set_option maxHeartbeats 4000000 in
theorem ss_X0_stuckVertices (hs : l.stackTraces = false) (o : Nat) (h : Hp) : Sim l G 4 M_X0_stuckVertices (fun v : Int32 => ((.inl (some (.int v)) : Oc), h)) 0 [(0, .ref o)] [] h (m_X0_stuckVertices  o h) := by
  rw [m_X0_stuckVertices]
  refine S_iconst 0 dX0_stuckVertices_0 (by decide) ?_
  refine S_istore_n [(1, .int 0), (0, .ref o)] dX0_stuckVertices_1 rfl (Nat.le_of_ble_eq_true rfl) rfl ?_
  refine S_iconst 0 dX0_stuckVertices_2 (by decide) ?_
  refine S_istore_n [(2, .int 0), (1, .int 0), (0, .ref o)] dX0_stuckVertices_3 rfl (Nat.le_of_ble_eq_true rfl) rfl ?_
  refine Sim.sub [2, 1, 0] rfl (sl_X0_stuckVertices_L4 hs o h _ ?_ LF (0 : Int32) (0 : Int32))
  · intro v4
    refine S_iload_n 0 dX0_stuckVertices_35 rfl rfl ?_
    exact S_ireturn rfl rfl dX0_stuckVertices_36
theorem sm_X0_stuckVertices (hs : l.stackTraces = false) (o : Nat) (h : Hp) : ∀ x, m_X0_stuckVertices  o h = some x → SR l G 4 M_X0_stuckVertices [.ref o] h (some (.int x)) h := fun x e => SR.of K_X0_stuckVertices hs rfl (Nat.le_of_ble_eq_true rfl) (ss_X0_stuckVertices hs o h) e rfl
end
section
variable {l : Launch} {G : Gx}
set_option maxRecDepth 20000 in
set_option maxHeartbeats 4000000 in
theorem ss_X6_readsLay (hs : l.stackTraces = false) (o : Nat) (h : Hp) : Sim l G 5 M_X6_readsLay (fun v : Hp => ((.inl none : Oc), v)) 0 [(0, .ref o)] [] h (m_X6_readsLay  o h) := by
  rw [m_X6_readsLay]
  refine S_aload_n 0 dX6_readsLay_0 rfl rfl ?_
  refine S_iconst 1 dX6_readsLay_1 (by decide) ?_
  refine S_callV_VW (lev' := 2) (My := M_X6_must) [.int 1] [] kc6 K_X6_must kw_1149 kw_1151 kw_32 dX6_readsLay_2 (by decide) rfl (Nat.le_of_ble_eq_true rfl) (fun xx ee => sm_X6_must hs o true h xx ee) (fun h1 _ => ?_)
  refine S_aload_n 0 dX6_readsLay_5 rfl rfl ?_
  refine S_iconst 0 dX6_readsLay_6 (by decide) ?_
  refine S_aload_n 0 dX6_readsLay_7 rfl rfl ?_
  refine S_getR kc6 (k := 0) (by decide) kw_1040 dX6_readsLay_8 (fun a2 _ => ?_)
  refine S_iconst 0 dX6_readsLay_11 (by decide) ?_
  refine S_iaload dX6_readsLay_12 (fun x3 _ => ?_)
  refine S_iconst 1 dX6_readsLay_13 (by decide) ?_
  refine S_isub dX6_readsLay_14 ?_
  refine S_callV_IW (lev' := 2) (My := M_X6_takes) [.int 0, .int (x3 - (1 : Int32))] [] kc6 K_X6_takes kw_1157 kw_1159 kw_34 dX6_readsLay_15 (by decide) rfl (Nat.le_of_ble_eq_true rfl) (fun xx yy ee => sm_X6_takes hs o (0 : Int32) (x3 - (1 : Int32)) h1 xx yy ee) (fun x4 h5 _ => ?_)
  refine S_istore_n [(1, .int x4), (0, .ref o)] dX6_readsLay_18 rfl (Nat.le_of_ble_eq_true rfl) rfl ?_
  refine S_aload_n 1 dX6_readsLay_19 rfl rfl ?_
  refine S_getI kc6 (k := 15) (by decide) kw_1055 dX6_readsLay_20 (fun x6 _ => ?_)
  refine S_jK (fun (k8 : Hp → Option Hp) => ∀ (h7 : Hp), Sim l G 5 M_X6_readsLay (fun v : Hp => ((.inl none : Oc), v)) 39 [(0, .ref o), (1, .int x4)] [] h7 (k8 h7)) ?_ (fun k8 hk8 => ?_)
  · intro h7
    refine S_aload_n 0 dX6_readsLay_39 rfl rfl ?_
    refine S_getI kc6 (k := 15) (by decide) kw_1055 dX6_readsLay_40 (fun x9 _ => ?_)
    refine S_jK (fun (k11 : Int32 → Option Hp) => ∀ (v10 : Int32), Sim l G 5 M_X6_readsLay (fun v : Hp => ((.inl none : Oc), v)) 54 [(0, .ref o), (1, .int x4)] [.int v10] h7 (k11 v10)) ?_ (fun k11 hk11 => ?_)
    · intro v10
      refine S_istore_n [(2, .int v10), (0, .ref o), (1, .int x4)] dX6_readsLay_54 rfl (Nat.le_of_ble_eq_true rfl) rfl ?_
      refine S_iload_n 0 dX6_readsLay_55 rfl rfl ?_
      refine S_iconst 1 dX6_readsLay_56 (by decide) ?_
      refine S_jK (fun (k13 : Int32 → Option Hp) => ∀ (v12 : Int32), Sim l G 5 M_X6_readsLay (fun v : Hp => ((.inl none : Oc), v)) 83 [(0, .ref o), (1, .int x4)] [.int v12] h7 (k13 v12)) ?_ (fun k13 hk13 => ?_)
      · intro v12
        refine S_istore_n [(3, .int v12), (0, .ref o), (1, .int x4)] dX6_readsLay_83 rfl (Nat.le_of_ble_eq_true rfl) rfl ?_
        refine S_iload_n 0 dX6_readsLay_84 rfl rfl ?_
        refine S_iconst (-1) dX6_readsLay_85 (by decide) ?_
        refine S_jK (fun (k15 : Hp → Option Hp) => ∀ (h14 : Hp), Sim l G 5 M_X6_readsLay (fun v : Hp => ((.inl none : Oc), v)) 95 [(0, .ref o), (1, .int x4), (3, .int v12)] [] h14 (k15 h14)) ?_ (fun k15 hk15 => ?_)
        · intro h14
          refine S_aload_n 0 dX6_readsLay_95 rfl rfl ?_
          refine S_getI kc6 (k := 15) (by decide) kw_1055 dX6_readsLay_96 (fun x16 _ => ?_)
          refine S_jK (fun (k18 : Hp → Option Hp) => ∀ (h17 : Hp), Sim l G 5 M_X6_readsLay (fun v : Hp => ((.inl none : Oc), v)) 117 [(0, .ref o), (1, .int x4), (3, .int v12)] [] h17 (k18 h17)) ?_ (fun k18 hk18 => ?_)
          · intro h17
            refine S_aload_n 0 dX6_readsLay_117 rfl rfl ?_
            refine S_getI kc6 (k := 15) (by decide) kw_1055 dX6_readsLay_118 (fun x19 _ => ?_)
            refine S_jK (fun (k21 : Hp → Option Hp) => ∀ (h20 : Hp), Sim l G 5 M_X6_readsLay (fun v : Hp => ((.inl none : Oc), v)) 130 [(0, .ref o)] [] h20 (k21 h20)) ?_ (fun k21 hk21 => ?_)
            · intro h20
              refine S_aload_n 0 dX6_readsLay_130 rfl rfl ?_
              refine S_iconst 1 dX6_readsLay_131 (by decide) ?_
              refine S_callV_VW (lev' := 2) (My := M_X6_must) [.int 1] [] kc6 K_X6_must kw_1149 kw_1151 kw_32 dX6_readsLay_132 (by decide) rfl (Nat.le_of_ble_eq_true rfl) (fun xx ee => sm_X6_must hs o true h20 xx ee) (fun h22 _ => ?_)
              refine S_aload_n 0 dX6_readsLay_135 rfl rfl ?_
              refine S_callV_VW (lev' := 3) (My := M_X6_mustEnd) [] [] kc6 K_X6_mustEnd kw_1162 kw_1164 kw_35 dX6_readsLay_136 (by decide) rfl (Nat.le_of_ble_eq_true rfl) (fun xx ee => sm_X6_mustEnd hs o h22 xx ee) (fun h23 _ => ?_)
              exact S_return rfl rfl dX6_readsLay_139
            refine S_if_ne 130 dX6_readsLay_121 (by decide) (fun c25 => ?_) (fun c25 => ?_)
            · exact Sim.sub [0] rfl (hk21 h17)
            · refine S_aload_n 0 dX6_readsLay_124 rfl rfl ?_
              refine S_iload_n 1 dX6_readsLay_125 rfl rfl ?_
              refine S_iload_n 2 dX6_readsLay_126 rfl rfl ?_
              refine S_callV_VW (lev' := 3) (My := M_X6_lays) [.int x4, .int v12] [] kc6 K_X6_lays kw_1233 kw_1235 kw_51 dX6_readsLay_127 (by decide) rfl (Nat.le_of_ble_eq_true rfl) (fun xx ee => sm_X6_lays hs o x4 v12 h17 xx ee) (fun h24 _ => ?_)
              exact Sim.sub [0] rfl (hk21 h24)
          refine S_if_ne 117 dX6_readsLay_99 (by decide) (fun c29 => ?_) (fun c29 => ?_)
          · exact Sim.sub [0, 1, 2] rfl (hk18 h14)
          · refine S_aload_n 0 dX6_readsLay_102 rfl rfl ?_
            refine S_iload_n 1 dX6_readsLay_103 rfl rfl ?_
            refine S_iload_n 2 dX6_readsLay_104 rfl rfl ?_
            refine S_callV_IR (lev' := 4) (My := M_X6_whyNot) [.int x4, .int v12] [] kc6 K_X6_whyNot kw_1194 kw_1196 kw_42 dX6_readsLay_105 (by decide) rfl (Nat.le_of_ble_eq_true rfl) (fun xx ee => sm_X6_whyNot hs o x4 v12 h14 xx ee) (fun x26 _ => ?_)
            refine S_if_le 117 dX6_readsLay_108 (by decide) (fun c28 => ?_) (fun c28 => ?_)
            · exact Sim.sub [0, 1, 2] rfl (hk18 h14)
            · refine S_aload_n 0 dX6_readsLay_111 rfl rfl ?_
              refine S_bipush (-5) dX6_readsLay_112 (by decide) ?_
              refine S_callV_VW (lev' := 0) (My := M_X6_fails) [.int (-5)] [] kc6 K_X6_fails kw_1153 kw_1155 kw_33 dX6_readsLay_114 (by decide) rfl (Nat.le_of_ble_eq_true rfl) (fun xx ee => sm_X6_fails hs o (-5 : Int32) h14 xx ee) (fun h27 _ => ?_)
              exact Sim.sub [0, 1, 2] rfl (hk18 h27)
        refine S_icmp_ne 95 dX6_readsLay_86 (by decide) (fun c31 => ?_) (fun c31 => ?_)
        · exact Sim.sub [1, 2, 0] rfl (hk15 h7)
        · refine S_aload_n 1 dX6_readsLay_89 rfl rfl ?_
          refine S_bipush (-3) dX6_readsLay_90 (by decide) ?_
          refine S_callV_VW (lev' := 0) (My := M_X6_fails) [.int (-3)] [] kc6 K_X6_fails kw_1153 kw_1155 kw_33 dX6_readsLay_92 (by decide) rfl (Nat.le_of_ble_eq_true rfl) (fun xx ee => sm_X6_fails hs o (-3 : Int32) h7 xx ee) (fun h30 _ => ?_)
          exact Sim.sub [1, 2, 0] rfl (hk15 h30)
      refine S_icmp_ne 64 dX6_readsLay_57 (by decide) (fun c34 => ?_) (fun c34 => ?_)
      · refine S_iload_n 0 dX6_readsLay_64 rfl rfl ?_
        refine S_iconst 2 dX6_readsLay_65 (by decide) ?_
        refine S_icmp_ne 73 dX6_readsLay_66 (by decide) (fun c33 => ?_) (fun c33 => ?_)
        · refine S_iload_n 0 dX6_readsLay_73 rfl rfl ?_
          refine S_iconst 4 dX6_readsLay_74 (by decide) ?_
          refine S_icmp_ne 82 dX6_readsLay_75 (by decide) (fun c32 => ?_) (fun c32 => ?_)
          · refine S_iconst (-1) dX6_readsLay_82 (by decide) ?_
            exact Sim.sub [1, 2] rfl (hk13 (-1 : Int32))
          · refine S_iconst 2 dX6_readsLay_78 (by decide) ?_
            refine S_goto 83 dX6_readsLay_79 (by decide) ?_
            exact Sim.sub [1, 2] rfl (hk13 (2 : Int32))
        · refine S_iconst 1 dX6_readsLay_69 (by decide) ?_
          refine S_goto 83 dX6_readsLay_70 (by decide) ?_
          exact Sim.sub [1, 2] rfl (hk13 (1 : Int32))
      · refine S_iconst 0 dX6_readsLay_60 (by decide) ?_
        refine S_goto 83 dX6_readsLay_61 (by decide) ?_
        exact Sim.sub [1, 2] rfl (hk13 (0 : Int32))
    refine S_if_ne 53 dX6_readsLay_43 (by decide) (fun c36 => ?_) (fun c36 => ?_)
    · refine S_iconst 0 dX6_readsLay_53 (by decide) ?_
      exact Sim.sub [0, 1] rfl (hk11 (0 : Int32))
    · refine S_aload_n 0 dX6_readsLay_46 rfl rfl ?_
      refine S_callV_IR (lev' := 0) (My := M_X6_lettersHere) [] [] kc6 K_X6_lettersHere kw_1175 kw_1177 kw_38 dX6_readsLay_47 (by decide) rfl (Nat.le_of_ble_eq_true rfl) (fun xx ee => sm_X6_lettersHere hs o h7 xx ee) (fun x35 _ => ?_)
      refine S_goto 54 dX6_readsLay_50 (by decide) ?_
      exact Sim.sub [0, 1] rfl (hk11 x35)
  refine S_if_ne 39 dX6_readsLay_23 (by decide) (fun c40 => ?_) (fun c40 => ?_)
  · exact Sim.sub [1, 0] rfl (hk8 h5)
  · refine S_aload_n 1 dX6_readsLay_26 rfl rfl ?_
    refine S_getI kc6 (k := 13) (by decide) kw_1053 dX6_readsLay_27 (fun x37 _ => ?_)
    refine S_if_eq 39 dX6_readsLay_30 (by decide) (fun c39 => ?_) (fun c39 => ?_)
    · exact Sim.sub [1, 0] rfl (hk8 h5)
    · refine S_aload_n 1 dX6_readsLay_33 rfl rfl ?_
      refine S_bipush (-2) dX6_readsLay_34 (by decide) ?_
      refine S_callV_VW (lev' := 0) (My := M_X6_fails) [.int (-2)] [] kc6 K_X6_fails kw_1153 kw_1155 kw_33 dX6_readsLay_36 (by decide) rfl (Nat.le_of_ble_eq_true rfl) (fun xx ee => sm_X6_fails hs o (-2 : Int32) h5 xx ee) (fun h38 _ => ?_)
      exact Sim.sub [1, 0] rfl (hk8 h38)
theorem sm_X6_readsLay (hs : l.stackTraces = false) (o : Nat) (h : Hp) : ∀ h1, m_X6_readsLay  o h = some h1 → SR l G 5 M_X6_readsLay [.ref o] h none h1 := fun h1 e => SR.of K_X6_readsLay hs rfl (Nat.le_of_ble_eq_true rfl) (ss_X6_readsLay hs o h) e rfl
end
section
variable {l : Launch} {G : Gx}
set_option maxRecDepth 20000 in
set_option maxHeartbeats 4000000 in
theorem ss_X6_isOver (hs : l.stackTraces = false) (o : Nat) (h : Hp) : Sim l G 5 M_X6_isOver (fun v : Bool => ((.inl (some (.int (bI v))) : Oc), h)) 0 [(0, .ref o)] [] h (m_X6_isOver  o h) := by
  rw [m_X6_isOver]
  refine S_aload_n 0 dX6_isOver_0 rfl rfl ?_
  refine S_callV_IR (lev' := 4) (My := M_X6_pairs) [] [] kc6 K_X6_pairs kw_1280 kw_1282 kw_60 dX6_isOver_1 (by decide) rfl (Nat.le_of_ble_eq_true rfl) (fun xx ee => sm_X6_pairs hs o h xx ee) (fun x1 _ => ?_)
  refine S_if_ne 20 dX6_isOver_4 (by decide) (fun c5 => ?_) (fun c5 => ?_)
  · refine S_iconst 0 dX6_isOver_20 (by decide) ?_
    exact S_zreturn (b := false) rfl rfl dX6_isOver_21
  · refine S_aload_n 0 dX6_isOver_7 rfl rfl ?_
    refine S_getR kc6 (k := 0) (by decide) kw_1040 dX6_isOver_8 (fun a2 _ => ?_)
    refine S_iconst 2 dX6_isOver_11 (by decide) ?_
    refine S_iaload dX6_isOver_12 (fun x3 _ => ?_)
    refine S_if_ne 20 dX6_isOver_13 (by decide) (fun c4 => ?_) (fun c4 => ?_)
    · refine S_iconst 0 dX6_isOver_20 (by decide) ?_
      exact S_zreturn (b := false) rfl rfl dX6_isOver_21
    · refine S_iconst 1 dX6_isOver_16 (by decide) ?_
      refine S_goto 21 dX6_isOver_17 (by decide) ?_
      exact S_zreturn (b := true) rfl rfl dX6_isOver_21
theorem sm_X6_isOver (hs : l.stackTraces = false) (o : Nat) (h : Hp) : ∀ x, m_X6_isOver  o h = some x → SR l G 5 M_X6_isOver [.ref o] h (some (.int (bI x))) h := fun x e => SR.of K_X6_isOver hs rfl (Nat.le_of_ble_eq_true rfl) (ss_X6_isOver hs o h) e rfl
end
section
variable {l : Launch} {G : Gx}
set_option maxRecDepth 20000 in
set_option maxHeartbeats 4000000 in
theorem ss_X6_reason (hs : l.stackTraces = false) (o : Nat) (p1 : Int32) (p2 : Int32) (h : Hp) : Sim l G 5 M_X6_reason (fun p : Int32 × Hp => ((.inl (some (.int p.1)) : Oc), p.2)) 0 [(0, .ref o), (1, .int p1), (2, .int p2)] [] h (m_X6_reason  o p1 p2 h) := by
  rw [m_X6_reason]
  refine S_aload_n 0 dX6_reason_0 rfl rfl ?_
  refine S_aload_n 0 dX6_reason_1 rfl rfl ?_
  refine S_iload_n 1 dX6_reason_2 rfl rfl ?_
  refine S_callV_BR (lev' := 1) (My := M_X6_isVertex) [.int p1] [.ref o] kc6 K_X6_isVertex kw_1292 kw_1294 kw_62 dX6_reason_3 (by decide) rfl (Nat.le_of_ble_eq_true rfl) (fun xx ee => sm_X6_isVertex hs o p1 h xx ee) (fun bb1 _ => ?_)
  refine S_jK (fun (k3 : Bool → Option (Int32 × Hp)) => ∀ (v2 : Bool), Sim l G 5 M_X6_reason (fun p : Int32 × Hp => ((.inl (some (.int p.1)) : Oc), p.2)) 22 [(0, .ref o), (1, .int p1), (2, .int p2)] [.int (bI v2), .ref o] h (k3 v2)) ?_ (fun k3 hk3 => ?_)
  · intro v2
    refine S_put kc6 (k := 7) (by decide) rfl kw_1047 rfl rfl dX6_reason_22 (fun h4 _ => ?_)
    refine S_aload_n 0 dX6_reason_25 rfl rfl ?_
    refine S_getI kc6 (k := 7) (by decide) kw_1047 dX6_reason_26 (fun x5 _ => ?_)
    refine S_if_le 36 dX6_reason_29 (by decide) (fun c7 => ?_) (fun c7 => ?_)
    · refine S_aload_n 0 dX6_reason_36 rfl rfl ?_
      refine S_iload_n 1 dX6_reason_37 rfl rfl ?_
      refine S_iload_n 2 dX6_reason_38 rfl rfl ?_
      refine S_callV_IR (lev' := 4) (My := M_X6_whyNot) [.int p1, .int p2] [] kc6 K_X6_whyNot kw_1194 kw_1196 kw_42 dX6_reason_39 (by decide) rfl (Nat.le_of_ble_eq_true rfl) (fun xx ee => sm_X6_whyNot hs o p1 p2 h4 xx ee) (fun x6 _ => ?_)
      exact S_ireturn rfl rfl dX6_reason_42
    · refine S_iconst 0 dX6_reason_32 (by decide) ?_
      refine S_goto 42 dX6_reason_33 (by decide) ?_
      exact S_ireturn rfl rfl dX6_reason_42
  refine S_if_eqB 21 dX6_reason_6 (by decide) (fun c10 => ?_) (fun c10 => ?_)
  · refine S_iconst 1 dX6_reason_21 (by decide) ?_
    exact Sim.sub [0, 1, 2] rfl (hk3 true)
  · refine S_aload_n 0 dX6_reason_9 rfl rfl ?_
    refine S_iload_n 2 dX6_reason_10 rfl rfl ?_
    refine S_callV_BR (lev' := 1) (My := M_X6_isColour) [.int p2] [.ref o] kc6 K_X6_isColour kw_1304 kw_1306 kw_64 dX6_reason_11 (by decide) rfl (Nat.le_of_ble_eq_true rfl) (fun xx ee => sm_X6_isColour hs o p2 h xx ee) (fun bb8 _ => ?_)
    refine S_if_eqB 21 dX6_reason_14 (by decide) (fun c9 => ?_) (fun c9 => ?_)
    · refine S_iconst 1 dX6_reason_21 (by decide) ?_
      exact Sim.sub [0, 1, 2] rfl (hk3 true)
    · refine S_iconst 0 dX6_reason_17 (by decide) ?_
      refine S_goto 22 dX6_reason_18 (by decide) ?_
      exact Sim.sub [0, 1, 2] rfl (hk3 false)
theorem sm_X6_reason (hs : l.stackTraces = false) (o : Nat) (p1 : Int32) (p2 : Int32) (h : Hp) : ∀ x h1, m_X6_reason  o p1 p2 h = some (x, h1) → SR l G 5 M_X6_reason [.ref o, .int p1, .int p2] h (some (.int x)) h1 := fun x h1 e => SR.of K_X6_reason hs rfl (Nat.le_of_ble_eq_true rfl) (ss_X6_reason hs o p1 p2 h) e rfl
end
section
variable {l : Launch} {G : Gx}
set_option maxRecDepth 20000 in
set_option maxHeartbeats 4000000 in
theorem ss_X6_lay (hs : l.stackTraces = false) (o : Nat) (p1 : Int32) (p2 : Int32) (h : Hp) : Sim l G 5 M_X6_lay (fun p : Int32 × Hp => ((.inl (some (.int p.1)) : Oc), p.2)) 0 [(0, .ref o), (1, .int p1), (2, .int p2)] [] h (m_X6_lay  o p1 p2 h) := by
  rw [m_X6_lay]
  refine S_aload_n 0 dX6_lay_0 rfl rfl ?_
  refine S_aload_n 0 dX6_lay_1 rfl rfl ?_
  refine S_iload_n 1 dX6_lay_2 rfl rfl ?_
  refine S_callV_BR (lev' := 1) (My := M_X6_isVertex) [.int p1] [.ref o] kc6 K_X6_isVertex kw_1292 kw_1294 kw_62 dX6_lay_3 (by decide) rfl (Nat.le_of_ble_eq_true rfl) (fun xx ee => sm_X6_isVertex hs o p1 h xx ee) (fun bb1 _ => ?_)
  refine S_jK (fun (k3 : Int32 → Option (Int32 × Hp)) => ∀ (v2 : Int32), Sim l G 5 M_X6_lay (fun p : Int32 × Hp => ((.inl (some (.int p.1)) : Oc), p.2)) 35 [(0, .ref o), (1, .int p1), (2, .int p2)] [.int v2, .ref o] h (k3 v2)) ?_ (fun k3 hk3 => ?_)
  · intro v2
    refine S_put kc6 (k := 7) (by decide) rfl kw_1047 rfl rfl dX6_lay_35 (fun h4 _ => ?_)
    refine S_aload_n 0 dX6_lay_38 rfl rfl ?_
    refine S_getI kc6 (k := 7) (by decide) kw_1047 dX6_lay_39 (fun x5 _ => ?_)
    refine S_if_le 47 dX6_lay_42 (by decide) (fun c10 => ?_) (fun c10 => ?_)
    · refine S_aload_n 0 dX6_lay_47 rfl rfl ?_
      refine S_callV_VW (lev' := 1) (My := M_X6_keeps) [] [] kc6 K_X6_keeps kw_1260 kw_1262 kw_57 dX6_lay_48 (by decide) rfl (Nat.le_of_ble_eq_true rfl) (fun xx ee => sm_X6_keeps hs o h4 xx ee) (fun h6 _ => ?_)
      refine S_aload_n 0 dX6_lay_51 rfl rfl ?_
      refine S_iload_n 1 dX6_lay_52 rfl rfl ?_
      refine S_iload_n 2 dX6_lay_53 rfl rfl ?_
      refine S_callV_VW (lev' := 3) (My := M_X6_lays) [.int p1, .int p2] [] kc6 K_X6_lays kw_1233 kw_1235 kw_51 dX6_lay_54 (by decide) rfl (Nat.le_of_ble_eq_true rfl) (fun xx ee => sm_X6_lays hs o p1 p2 h6 xx ee) (fun h7 _ => ?_)
      refine S_aload_n 0 dX6_lay_57 rfl rfl ?_
      refine S_aload_n 0 dX6_lay_58 rfl rfl ?_
      refine S_callV_IR (lev' := 1) (My := M_X6_freeSet) [] [.ref o] kc6 K_X6_freeSet kw_1214 kw_1216 kw_47 dX6_lay_59 (by decide) rfl (Nat.le_of_ble_eq_true rfl) (fun xx ee => sm_X6_freeSet hs o h7 xx ee) (fun x8 _ => ?_)
      refine S_callV_IR (lev' := 1) (My := M_X6_partsIn) [.int x8] [] kc6 K_X6_partsIn kw_1237 kw_1239 kw_52 dX6_lay_62 (by decide) rfl (Nat.le_of_ble_eq_true rfl) (fun xx ee => sm_X6_partsIn hs o x8 h7 xx ee) (fun x9 _ => ?_)
      exact S_ireturn rfl rfl dX6_lay_65
    · refine S_iconst 0 dX6_lay_45 (by decide) ?_
      exact S_ireturn rfl rfl dX6_lay_46
  refine S_if_eqB 17 dX6_lay_6 (by decide) (fun c15 => ?_) (fun c15 => ?_)
  · refine S_iconst 1 dX6_lay_17 (by decide) ?_
    refine S_goto 35 dX6_lay_18 (by decide) ?_
    exact Sim.sub [0, 1, 2] rfl (hk3 (1 : Int32))
  · refine S_aload_n 0 dX6_lay_9 rfl rfl ?_
    refine S_iload_n 2 dX6_lay_10 rfl rfl ?_
    refine S_callV_BR (lev' := 1) (My := M_X6_isColour) [.int p2] [.ref o] kc6 K_X6_isColour kw_1304 kw_1306 kw_64 dX6_lay_11 (by decide) rfl (Nat.le_of_ble_eq_true rfl) (fun xx ee => sm_X6_isColour hs o p2 h xx ee) (fun bb11 _ => ?_)
    refine S_if_neB 21 dX6_lay_14 (by decide) (fun c14 => ?_) (fun c14 => ?_)
    · refine S_aload_n 0 dX6_lay_21 rfl rfl ?_
      refine S_iload_n 1 dX6_lay_22 rfl rfl ?_
      refine S_iload_n 2 dX6_lay_23 rfl rfl ?_
      refine S_callV_IR (lev' := 4) (My := M_X6_whyNot) [.int p1, .int p2] [.ref o] kc6 K_X6_whyNot kw_1194 kw_1196 kw_42 dX6_lay_24 (by decide) rfl (Nat.le_of_ble_eq_true rfl) (fun xx ee => sm_X6_whyNot hs o p1 p2 h xx ee) (fun x12 _ => ?_)
      refine S_if_le 34 dX6_lay_27 (by decide) (fun c13 => ?_) (fun c13 => ?_)
      · refine S_iconst 0 dX6_lay_34 (by decide) ?_
        exact Sim.sub [0, 1, 2] rfl (hk3 (0 : Int32))
      · refine S_iconst 2 dX6_lay_30 (by decide) ?_
        refine S_goto 35 dX6_lay_31 (by decide) ?_
        exact Sim.sub [0, 1, 2] rfl (hk3 (2 : Int32))
    · refine S_iconst 1 dX6_lay_17 (by decide) ?_
      refine S_goto 35 dX6_lay_18 (by decide) ?_
      exact Sim.sub [0, 1, 2] rfl (hk3 (1 : Int32))
theorem sm_X6_lay (hs : l.stackTraces = false) (o : Nat) (p1 : Int32) (p2 : Int32) (h : Hp) : ∀ x h1, m_X6_lay  o p1 p2 h = some (x, h1) → SR l G 5 M_X6_lay [.ref o, .int p1, .int p2] h (some (.int x)) h1 := fun x h1 e => SR.of K_X6_lay hs rfl (Nat.le_of_ble_eq_true rfl) (ss_X6_lay hs o p1 p2 h) e rfl
end
section
variable {l : Launch} {G : Gx}
set_option maxRecDepth 20000 in
set_option maxHeartbeats 4000000 in
theorem ss_X0_isOver (hs : l.stackTraces = false) (o : Nat) (h : Hp) : Sim l G 5 M_X0_isOver (fun v : Bool => ((.inl (some (.int (bI v))) : Oc), h)) 0 [(0, .ref o)] [] h (m_X0_isOver  o h) := by
  rw [m_X0_isOver]
  refine S_aload_n 0 dX0_isOver_0 rfl rfl ?_
  refine S_getI kc0 (k := 3) (by decide) kw_130 dX0_isOver_1 (fun x1 _ => ?_)
  refine S_if_ne 22 dX0_isOver_4 (by decide) (fun c5 => ?_) (fun c5 => ?_)
  · refine S_iconst 0 dX0_isOver_22 (by decide) ?_
    exact S_zreturn (b := false) rfl rfl dX0_isOver_23
  · refine S_aload_n 0 dX0_isOver_7 rfl rfl ?_
    refine S_aload_n 0 dX0_isOver_8 rfl rfl ?_
    refine S_getI kc0 (k := 4) (by decide) kw_133 dX0_isOver_9 (fun x2 _ => ?_)
    refine S_callV_IR (lev' := 4) (My := M_X0_choicesIn) [.int x2] [] kc0 K_X0_choicesIn kw_788 kw_789 kw_790 dX0_isOver_12 (by decide) rfl (Nat.le_of_ble_eq_true rfl) (fun xx ee => sm_X0_choicesIn hs o x2 h xx ee) (fun x3 _ => ?_)
    refine S_if_ne 22 dX0_isOver_15 (by decide) (fun c4 => ?_) (fun c4 => ?_)
    · refine S_iconst 0 dX0_isOver_22 (by decide) ?_
      exact S_zreturn (b := false) rfl rfl dX0_isOver_23
    · refine S_iconst 1 dX0_isOver_18 (by decide) ?_
      refine S_goto 23 dX0_isOver_19 (by decide) ?_
      exact S_zreturn (b := true) rfl rfl dX0_isOver_23
theorem sm_X0_isOver (hs : l.stackTraces = false) (o : Nat) (h : Hp) : ∀ x, m_X0_isOver  o h = some x → SR l G 5 M_X0_isOver [.ref o] h (some (.int (bI x))) h := fun x e => SR.of K_X0_isOver hs rfl (Nat.le_of_ble_eq_true rfl) (ss_X0_isOver hs o h) e rfl
end
section
variable {l : Launch} {G : Gx}
set_option maxRecDepth 20000 in
set_option maxHeartbeats 4000000 in
theorem ss_X5_count (hs : l.stackTraces = false) (o : Nat) (p1 : Int32) (h : Hp) : Sim l G 6 M_X5_count finX 0 [(0, .ref o), (1, .int p1)] [] h (m_X5_count  o p1 h) := by
  rw [m_X5_count]
  refine S_iload_n 1 dX5_count_0 rfl rfl ?_
  refine S_sw 220 [68, 76, 91, 99, 107, 118, 133, 141, 149, 165, 189, 204, 212] dX5_count_1 (by decide) (by decide) rfl (by decide) ?_ ⟨?_, ?_, ?_, ?_, ?_, ?_, ?_, ?_, ?_, ?_, ?_, ?_, ?_, trivial⟩
  · exact S_throw1 rfl (by decide +kernel) kw_536 kn_798 kw_546 dX5_count_220 dX5_count_223 dX5_count_224 dX5_count_226 dX5_count_229
  · refine S_aload_n 0 dX5_count_68 rfl rfl ?_
    refine S_getR kc5 (k := 0) (by decide) kw_243 dX5_count_69 (fun a1 _ => ?_)
    refine S_getI kc0 (k := 2) (by decide) kw_128 dX5_count_72 (fun x2 _ => ?_)
    exact S_ireturn rfl rfl dX5_count_75
  · refine S_aload_n 0 dX5_count_76 rfl rfl ?_
    refine S_getR kc5 (k := 0) (by decide) kw_243 dX5_count_77 (fun a3 _ => ?_)
    refine S_aload_n 0 dX5_count_80 rfl rfl ?_
    refine S_getR kc5 (k := 0) (by decide) kw_243 dX5_count_81 (fun a4 _ => ?_)
    refine S_callV_IR (lev' := 0) (My := M_X0_everyVertex) [] [.ref a3] kc0 K_X0_everyVertex kw_776 kw_777 kw_778 dX5_count_84 (by decide) rfl (Nat.le_of_ble_eq_true rfl) (fun xx ee => sm_X0_everyVertex hs a4 h xx ee) (fun x5 _ => ?_)
    refine S_callV_IR (lev' := 1) (My := M_X0_edgesIn) [.int x5] [] kc0 K_X0_edgesIn kw_780 kw_781 kw_782 dX5_count_87 (by decide) rfl (Nat.le_of_ble_eq_true rfl) (fun xx ee => sm_X0_edgesIn hs a3 x5 h xx ee) (fun x6 _ => ?_)
    exact S_ireturn rfl rfl dX5_count_90
  · refine S_aload_n 0 dX5_count_91 rfl rfl ?_
    refine S_getR kc5 (k := 0) (by decide) kw_243 dX5_count_92 (fun a7 _ => ?_)
    refine S_getI kc0 (k := 1) (by decide) kw_126 dX5_count_95 (fun x8 _ => ?_)
    exact S_ireturn rfl rfl dX5_count_98
  · refine S_aload_n 0 dX5_count_99 rfl rfl ?_
    refine S_getR kc5 (k := 0) (by decide) kw_243 dX5_count_100 (fun a9 _ => ?_)
    refine S_getI kc0 (k := 3) (by decide) kw_132 dX5_count_103 (fun x10 _ => ?_)
    exact S_ireturn rfl rfl dX5_count_106
  · refine S_aload_n 0 dX5_count_107 rfl rfl ?_
    refine S_getR kc5 (k := 0) (by decide) kw_243 dX5_count_108 (fun a11 _ => ?_)
    refine S_getI kc0 (k := 4) (by decide) kw_135 dX5_count_111 (fun x12 _ => ?_)
    refine S_callS_IR (lev' := 0) (My := M_J6_bitCount) [.int x12] [] K_J6_bitCount kw_358 kw_285 dX5_count_114 (by decide) rfl (Nat.le_of_ble_eq_true rfl) (fun xx ee => sm_J6_bitCount hs x12 _ xx ee) (fun x13 _ => ?_)
    exact S_ireturn rfl rfl dX5_count_117
  · refine S_aload_n 0 dX5_count_118 rfl rfl ?_
    refine S_getR kc5 (k := 0) (by decide) kw_243 dX5_count_119 (fun a14 _ => ?_)
    refine S_aload_n 0 dX5_count_122 rfl rfl ?_
    refine S_getR kc5 (k := 0) (by decide) kw_243 dX5_count_123 (fun a15 _ => ?_)
    refine S_getI kc0 (k := 4) (by decide) kw_135 dX5_count_126 (fun x16 _ => ?_)
    refine S_callV_IR (lev' := 2) (My := M_X0_partsIn) [.int x16] [] kc0 K_X0_partsIn kw_418 kw_419 kw_420 dX5_count_129 (by decide) rfl (Nat.le_of_ble_eq_true rfl) (fun xx ee => sm_X0_partsIn hs a14 x16 h xx ee) (fun x17 _ => ?_)
    exact S_ireturn rfl rfl dX5_count_132
  · refine S_aload_n 0 dX5_count_133 rfl rfl ?_
    refine S_getR kc5 (k := 0) (by decide) kw_243 dX5_count_134 (fun a18 _ => ?_)
    refine S_callV_IR (lev' := 0) (My := M_X0_turn) [] [] kc0 K_X0_turn kw_444 kw_445 kw_446 dX5_count_137 (by decide) rfl (Nat.le_of_ble_eq_true rfl) (fun xx ee => sm_X0_turn hs a18 h xx ee) (fun x19 _ => ?_)
    exact S_ireturn rfl rfl dX5_count_140
  · refine S_aload_n 0 dX5_count_141 rfl rfl ?_
    refine S_getR kc5 (k := 0) (by decide) kw_243 dX5_count_142 (fun a20 _ => ?_)
    refine S_getI kc0 (k := 5) (by decide) kw_137 dX5_count_145 (fun x21 _ => ?_)
    exact S_ireturn rfl rfl dX5_count_148
  · refine S_aload_n 0 dX5_count_149 rfl rfl ?_
    refine S_getR kc5 (k := 0) (by decide) kw_243 dX5_count_150 (fun a22 _ => ?_)
    refine S_callV_BR (lev' := 5) (My := M_X0_isOver) [] [] kc0 K_X0_isOver kw_784 kw_785 kw_786 dX5_count_153 (by decide) rfl (Nat.le_of_ble_eq_true rfl) (fun xx ee => sm_X0_isOver hs a22 h xx ee) (fun bb23 _ => ?_)
    refine S_if_eqB 163 dX5_count_156 (by decide) (fun c24 => ?_) (fun c24 => ?_)
    · refine S_iconst 0 dX5_count_163 (by decide) ?_
      exact S_ireturn rfl rfl dX5_count_164
    · refine S_iconst 1 dX5_count_159 (by decide) ?_
      refine S_goto 164 dX5_count_160 (by decide) ?_
      exact S_ireturn rfl rfl dX5_count_164
  · refine S_aload_n 0 dX5_count_165 rfl rfl ?_
    refine S_getR kc5 (k := 0) (by decide) kw_243 dX5_count_166 (fun a25 _ => ?_)
    refine S_callV_BR (lev' := 5) (My := M_X0_isOver) [] [] kc0 K_X0_isOver kw_784 kw_785 kw_786 dX5_count_169 (by decide) rfl (Nat.le_of_ble_eq_true rfl) (fun xx ee => sm_X0_isOver hs a25 h xx ee) (fun bb26 _ => ?_)
    refine S_if_eqB 187 dX5_count_172 (by decide) (fun c29 => ?_) (fun c29 => ?_)
    · refine S_iconst (-1) dX5_count_187 (by decide) ?_
      exact S_ireturn rfl rfl dX5_count_188
    · refine S_iconst 1 dX5_count_175 (by decide) ?_
      refine S_aload_n 0 dX5_count_176 rfl rfl ?_
      refine S_getR kc5 (k := 0) (by decide) kw_243 dX5_count_177 (fun a27 _ => ?_)
      refine S_callV_IR (lev' := 0) (My := M_X0_turn) [] [.int 1] kc0 K_X0_turn kw_444 kw_445 kw_446 dX5_count_180 (by decide) rfl (Nat.le_of_ble_eq_true rfl) (fun xx ee => sm_X0_turn hs a27 h xx ee) (fun x28 _ => ?_)
      refine S_isub dX5_count_183 ?_
      refine S_goto 188 dX5_count_184 (by decide) ?_
      exact S_ireturn rfl rfl dX5_count_188
  · refine S_aload_n 0 dX5_count_189 rfl rfl ?_
    refine S_getR kc5 (k := 0) (by decide) kw_243 dX5_count_190 (fun a30 _ => ?_)
    refine S_aload_n 0 dX5_count_193 rfl rfl ?_
    refine S_getR kc5 (k := 0) (by decide) kw_243 dX5_count_194 (fun a31 _ => ?_)
    refine S_getI kc0 (k := 4) (by decide) kw_135 dX5_count_197 (fun x32 _ => ?_)
    refine S_callV_IR (lev' := 4) (My := M_X0_choicesIn) [.int x32] [] kc0 K_X0_choicesIn kw_793 kw_789 kw_790 dX5_count_200 (by decide) rfl (Nat.le_of_ble_eq_true rfl) (fun xx ee => sm_X0_choicesIn hs a30 x32 h xx ee) (fun x33 _ => ?_)
    exact S_ireturn rfl rfl dX5_count_203
  · refine S_aload_n 0 dX5_count_204 rfl rfl ?_
    refine S_getR kc5 (k := 0) (by decide) kw_243 dX5_count_205 (fun a34 _ => ?_)
    refine S_callV_IR (lev' := 4) (My := M_X0_stuckVertices) [] [] kc0 K_X0_stuckVertices kw_794 kw_795 kw_796 dX5_count_208 (by decide) rfl (Nat.le_of_ble_eq_true rfl) (fun xx ee => sm_X0_stuckVertices hs a34 h xx ee) (fun x35 _ => ?_)
    exact S_ireturn rfl rfl dX5_count_211
  · refine S_aload_n 0 dX5_count_212 rfl rfl ?_
    refine S_getR kc5 (k := 0) (by decide) kw_243 dX5_count_213 (fun a36 _ => ?_)
    refine S_callV_IR (lev' := 0) (My := M_X0_passValue) [] [] kc0 K_X0_passValue kw_363 kw_364 kw_365 dX5_count_216 (by decide) rfl (Nat.le_of_ble_eq_true rfl) (fun xx ee => sm_X0_passValue hs a36 h xx ee) (fun x37 _ => ?_)
    exact S_ireturn rfl rfl dX5_count_219
end
section
variable {l : Launch} {G : Gx}
set_option maxRecDepth 20000 in
set_option maxHeartbeats 4000000 in
theorem ss_X6_count (hs : l.stackTraces = false) (o : Nat) (p1 : Int32) (h : Hp) : Sim l G 6 M_X6_count (fun p : Int32 × Hp => ((.inl (some (.int p.1)) : Oc), p.2)) 0 [(0, .ref o), (1, .int p1)] [] h (m_X6_count  o p1 h) := by
  rw [m_X6_count]
  refine S_aload_n 0 dX6_count_0 rfl rfl ?_
  refine S_iload_n 1 dX6_count_1 rfl rfl ?_
  refine S_iconst 0 dX6_count_2 (by decide) ?_
  refine S_bipush 12 dX6_count_3 (by decide) ?_
  refine S_callS_BR (lev' := 0) (My := M_X6_isIn) [.int p1, .int 0, .int 12] [.ref o] K_X6_isIn kw_1127 kw_1128 dX6_count_5 (by decide) rfl (Nat.le_of_ble_eq_true rfl) (fun xx ee => sm_X6_isIn hs p1 (0 : Int32) (12 : Int32) _ xx ee) (fun bb1 _ => ?_)
  refine S_jK (fun (k3 : Bool → Option (Int32 × Hp)) => ∀ (v2 : Bool), Sim l G 6 M_X6_count (fun p : Int32 × Hp => ((.inl (some (.int p.1)) : Oc), p.2)) 16 [(0, .ref o), (1, .int p1)] [.int (bI v2), .ref o] h (k3 v2)) ?_ (fun k3 hk3 => ?_)
  · intro v2
    refine S_put kc6 (k := 7) (by decide) rfl kw_1047 rfl rfl dX6_count_16 (fun h4 _ => ?_)
    refine S_aload_n 0 dX6_count_19 rfl rfl ?_
    refine S_getI kc6 (k := 7) (by decide) kw_1047 dX6_count_20 (fun x5 _ => ?_)
    refine S_if_le 28 dX6_count_23 (by decide) (fun c31 => ?_) (fun c31 => ?_)
    · refine S_iload_n 1 dX6_count_28 rfl rfl ?_
      refine S_sw 198 [92, 99, 114, 121, 128, 136, 145, 150, 157, 170, 188, 193] dX6_count_29 (by decide) (by decide) rfl (by decide) ?_ ⟨?_, ?_, ?_, ?_, ?_, ?_, ?_, ?_, ?_, ?_, ?_, ?_, trivial⟩
      · refine S_aload_n 0 dX6_count_198 rfl rfl ?_
        refine S_getR kc6 (k := 0) (by decide) kw_1040 dX6_count_199 (fun a29 _ => ?_)
        refine S_iconst 2 dX6_count_202 (by decide) ?_
        refine S_iaload dX6_count_203 (fun x30 _ => ?_)
        refine S_iconst 2 dX6_count_204 (by decide) ?_
        refine S_iremC dX6_count_205 (by decide) ?_
        exact S_ireturn rfl rfl dX6_count_206
      · refine S_aload_n 0 dX6_count_92 rfl rfl ?_
        refine S_getR kc6 (k := 0) (by decide) kw_1040 dX6_count_93 (fun a6 _ => ?_)
        refine S_iconst 0 dX6_count_96 (by decide) ?_
        refine S_iaload dX6_count_97 (fun x7 _ => ?_)
        exact S_ireturn rfl rfl dX6_count_98
      · refine S_aload_n 0 dX6_count_99 rfl rfl ?_
        refine S_iconst 1 dX6_count_100 (by decide) ?_
        refine S_aload_n 0 dX6_count_101 rfl rfl ?_
        refine S_getR kc6 (k := 0) (by decide) kw_1040 dX6_count_102 (fun a8 _ => ?_)
        refine S_iconst 0 dX6_count_105 (by decide) ?_
        refine S_iaload dX6_count_106 (fun x9 _ => ?_)
        refine S_ishl dX6_count_107 ?_
        refine S_iconst 1 dX6_count_108 (by decide) ?_
        refine S_isub dX6_count_109 ?_
        refine S_callV_IR (lev' := 1) (My := M_X6_edgesIn) [.int (((1 : Int32) <<< (x9 &&& 31)) - (1 : Int32))] [] kc6 K_X6_edgesIn kw_1272 kw_1274 kw_58 dX6_count_110 (by decide) rfl (Nat.le_of_ble_eq_true rfl) (fun xx ee => sm_X6_edgesIn hs o (((1 : Int32) <<< (x9 &&& 31)) - (1 : Int32)) h4 xx ee) (fun x10 _ => ?_)
        exact S_ireturn rfl rfl dX6_count_113
      · refine S_aload_n 0 dX6_count_114 rfl rfl ?_
        refine S_getR kc6 (k := 0) (by decide) kw_1040 dX6_count_115 (fun a11 _ => ?_)
        refine S_iconst 1 dX6_count_118 (by decide) ?_
        refine S_iaload dX6_count_119 (fun x12 _ => ?_)
        exact S_ireturn rfl rfl dX6_count_120
      · refine S_aload_n 0 dX6_count_121 rfl rfl ?_
        refine S_getR kc6 (k := 0) (by decide) kw_1040 dX6_count_122 (fun a13 _ => ?_)
        refine S_iconst 2 dX6_count_125 (by decide) ?_
        refine S_iaload dX6_count_126 (fun x14 _ => ?_)
        exact S_ireturn rfl rfl dX6_count_127
      · refine S_aload_n 0 dX6_count_128 rfl rfl ?_
        refine S_callV_IR (lev' := 1) (My := M_X6_freeSet) [] [] kc6 K_X6_freeSet kw_1214 kw_1216 kw_47 dX6_count_129 (by decide) rfl (Nat.le_of_ble_eq_true rfl) (fun xx ee => sm_X6_freeSet hs o h4 xx ee) (fun x15 _ => ?_)
        refine S_callS_IR (lev' := 0) (My := M_X6_bits) [.int x15] [] K_X6_bits kw_1230 kw_1231 dX6_count_132 (by decide) rfl (Nat.le_of_ble_eq_true rfl) (fun xx ee => sm_X6_bits hs x15 _ xx ee) (fun x16 _ => ?_)
        exact S_ireturn rfl rfl dX6_count_135
      · refine S_aload_n 0 dX6_count_136 rfl rfl ?_
        refine S_aload_n 0 dX6_count_137 rfl rfl ?_
        refine S_callV_IR (lev' := 1) (My := M_X6_freeSet) [] [.ref o] kc6 K_X6_freeSet kw_1214 kw_1216 kw_47 dX6_count_138 (by decide) rfl (Nat.le_of_ble_eq_true rfl) (fun xx ee => sm_X6_freeSet hs o h4 xx ee) (fun x17 _ => ?_)
        refine S_callV_IR (lev' := 1) (My := M_X6_partsIn) [.int x17] [] kc6 K_X6_partsIn kw_1237 kw_1239 kw_52 dX6_count_141 (by decide) rfl (Nat.le_of_ble_eq_true rfl) (fun xx ee => sm_X6_partsIn hs o x17 h4 xx ee) (fun x18 _ => ?_)
        exact S_ireturn rfl rfl dX6_count_144
      · refine S_aload_n 0 dX6_count_145 rfl rfl ?_
        refine S_callV_IR (lev' := 0) (My := M_X6_turn) [] [] kc6 K_X6_turn kw_1248 kw_1250 kw_54 dX6_count_146 (by decide) rfl (Nat.le_of_ble_eq_true rfl) (fun xx ee => sm_X6_turn hs o h4 xx ee) (fun x19 _ => ?_)
        exact S_ireturn rfl rfl dX6_count_149
      · refine S_aload_n 0 dX6_count_150 rfl rfl ?_
        refine S_getR kc6 (k := 0) (by decide) kw_1040 dX6_count_151 (fun a20 _ => ?_)
        refine S_iconst 3 dX6_count_154 (by decide) ?_
        refine S_iaload dX6_count_155 (fun x21 _ => ?_)
        exact S_ireturn rfl rfl dX6_count_156
      · refine S_aload_n 0 dX6_count_157 rfl rfl ?_
        refine S_callV_BR (lev' := 5) (My := M_X6_isOver) [] [] kc6 K_X6_isOver kw_1276 kw_1278 kw_59 dX6_count_158 (by decide) rfl (Nat.le_of_ble_eq_true rfl) (fun xx ee => sm_X6_isOver hs o h4 xx ee) (fun bb22 _ => ?_)
        refine S_if_eqB 168 dX6_count_161 (by decide) (fun c23 => ?_) (fun c23 => ?_)
        · refine S_iconst 0 dX6_count_168 (by decide) ?_
          exact S_ireturn rfl rfl dX6_count_169
        · refine S_iconst 1 dX6_count_164 (by decide) ?_
          refine S_goto 169 dX6_count_165 (by decide) ?_
          exact S_ireturn rfl rfl dX6_count_169
      · refine S_aload_n 0 dX6_count_170 rfl rfl ?_
        refine S_callV_BR (lev' := 5) (My := M_X6_isOver) [] [] kc6 K_X6_isOver kw_1276 kw_1278 kw_59 dX6_count_171 (by decide) rfl (Nat.le_of_ble_eq_true rfl) (fun xx ee => sm_X6_isOver hs o h4 xx ee) (fun bb24 _ => ?_)
        refine S_if_eqB 186 dX6_count_174 (by decide) (fun c26 => ?_) (fun c26 => ?_)
        · refine S_iconst (-1) dX6_count_186 (by decide) ?_
          exact S_ireturn rfl rfl dX6_count_187
        · refine S_iconst 1 dX6_count_177 (by decide) ?_
          refine S_aload_n 0 dX6_count_178 rfl rfl ?_
          refine S_callV_IR (lev' := 0) (My := M_X6_turn) [] [.int 1] kc6 K_X6_turn kw_1248 kw_1250 kw_54 dX6_count_179 (by decide) rfl (Nat.le_of_ble_eq_true rfl) (fun xx ee => sm_X6_turn hs o h4 xx ee) (fun x25 _ => ?_)
          refine S_isub dX6_count_182 ?_
          refine S_goto 187 dX6_count_183 (by decide) ?_
          exact S_ireturn rfl rfl dX6_count_187
      · refine S_aload_n 0 dX6_count_188 rfl rfl ?_
        refine S_callV_IR (lev' := 4) (My := M_X6_pairs) [] [] kc6 K_X6_pairs kw_1280 kw_1282 kw_60 dX6_count_189 (by decide) rfl (Nat.le_of_ble_eq_true rfl) (fun xx ee => sm_X6_pairs hs o h4 xx ee) (fun x27 _ => ?_)
        exact S_ireturn rfl rfl dX6_count_192
      · refine S_aload_n 0 dX6_count_193 rfl rfl ?_
        refine S_callV_IR (lev' := 4) (My := M_X6_stuck) [] [] kc6 K_X6_stuck kw_1284 kw_1286 kw_61 dX6_count_194 (by decide) rfl (Nat.le_of_ble_eq_true rfl) (fun xx ee => sm_X6_stuck hs o h4 xx ee) (fun x28 _ => ?_)
        exact S_ireturn rfl rfl dX6_count_197
    · refine S_iconst 0 dX6_count_26 (by decide) ?_
      exact S_ireturn rfl rfl dX6_count_27
  refine S_if_eqB 15 dX6_count_8 (by decide) (fun c32 => ?_) (fun c32 => ?_)
  · refine S_iconst 1 dX6_count_15 (by decide) ?_
    exact Sim.sub [0, 1] rfl (hk3 true)
  · refine S_iconst 0 dX6_count_11 (by decide) ?_
    refine S_goto 16 dX6_count_12 (by decide) ?_
    exact Sim.sub [0, 1] rfl (hk3 false)
theorem sm_X6_count (hs : l.stackTraces = false) (o : Nat) (p1 : Int32) (h : Hp) : ∀ x h1, m_X6_count  o p1 h = some (x, h1) → SR l G 6 M_X6_count [.ref o, .int p1] h (some (.int x)) h1 := fun x h1 e => SR.of K_X6_count hs rfl (Nat.le_of_ble_eq_true rfl) (ss_X6_count hs o p1 h) e rfl
end
section
variable {l : Launch} {G : Gx}
set_option maxRecDepth 20000 in
set_option maxHeartbeats 4000000 in
theorem sl_X6_isWord_L34 (hs : l.stackTraces = false) (u6 : Nat) (u7 : Nat) (h : Hp) (k34_69 : Option Bool) (k34_61 : Option Bool) (hk34_69 : Sim l G 8 M_X6_isWord (fun v : Bool => ((.inl (some (.int (bI v))) : Oc), h)) 69 [] [] h (k34_69)) (hk34_61 : Sim l G 8 M_X6_isWord (fun v : Bool => ((.inl (some (.int (bI v))) : Oc), h)) 61 [] [] h (k34_61)) : ∀ (f : Nat) (w8 : Int32), Sim l G 8 M_X6_isWord (fun v : Bool => ((.inl (some (.int (bI v))) : Oc), h)) 34 [(0, .ref u6), (1, .retAddr u7), (2, .int w8)] [] h (m_X6_isWord_L34 u6 u7 h k34_69 k34_61 f w8) := by
  intro f
  induction f with
  | zero => intro w8; exact S_none rfl
  | succ f ih =>
    intro w8
    rw [m_X6_isWord_L34]
    refine S_iload_n 2 dX6_isWord_34 rfl rfl ?_
    refine S_sload_n 1 dX6_isWord_35 rfl rfl ?_
    refine S_sLen [.int w8] kw_1147 hs (Nat.le_of_ble_eq_true rfl) (by decide) dX6_isWord_36 (fun x9 _ => ?_)
    refine S_icmp_ge 69 dX6_isWord_39 (by decide) (fun c16 => ?_) (fun c16 => ?_)
    · exact Sim.sub [] rfl (hk34_69)
    · refine S_aload_n 0 dX6_isWord_42 rfl rfl ?_
      refine S_getR kc6 (k := 8) (by decide) kw_1048 dX6_isWord_43 (fun a10 _ => ?_)
      refine S_aload_n 0 dX6_isWord_46 rfl rfl ?_
      refine S_getI kc6 (k := 11) (by decide) kw_1051 dX6_isWord_47 (fun x11 _ => ?_)
      refine S_iload_n 2 dX6_isWord_50 rfl rfl ?_
      refine S_iadd dX6_isWord_51 ?_
      refine S_iaload dX6_isWord_52 (fun x12 _ => ?_)
      refine S_sload_n 1 dX6_isWord_53 rfl rfl ?_
      refine S_iload_n 2 dX6_isWord_54 rfl rfl ?_
      refine S_sChr [.int x12] kw_1148 hs (Nat.le_of_ble_eq_true rfl) (by decide) dX6_isWord_55 (fun x13 _ => ?_)
      refine S_icmp_eq 63 dX6_isWord_58 (by decide) (fun c15 => ?_) (fun c15 => ?_)
      · refine S_iincN (c := 1) 2 (fun x14 => [(2, .int x14), (0, .ref u6), (1, .retAddr u7)]) dX6_isWord_63 rfl (by decide) (Nat.le_of_ble_eq_true rfl) (fun _ => rfl) (fun x14 => ?_)
        refine S_goto 34 dX6_isWord_66 (by decide) ?_
        exact Sim.sub [1, 2, 0] rfl (ih x14)
      · exact Sim.sub [] rfl (hk34_61)
set_option maxRecDepth 20000 in
set_option maxHeartbeats 4000000 in
theorem ss_X6_isWord (hs : l.stackTraces = false) (o : Nat) (p1 : Nat) (h : Hp) : Sim l G 8 M_X6_isWord (fun v : Bool => ((.inl (some (.int (bI v))) : Oc), h)) 0 [(0, .ref o), (1, .retAddr p1)] [] h (m_X6_isWord  o p1 h) := by
  rw [m_X6_isWord]
  refine S_aload_n 0 dX6_isWord_0 rfl rfl ?_
  refine S_getI kc6 (k := 15) (by decide) kw_1055 dX6_isWord_1 (fun x1 _ => ?_)
  refine S_if_ne 30 dX6_isWord_4 (by decide) (fun c19 => ?_) (fun c19 => ?_)
  · refine S_iconst 0 dX6_isWord_30 (by decide) ?_
    exact S_zreturn (b := false) rfl rfl dX6_isWord_31
  · refine S_aload_n 0 dX6_isWord_7 rfl rfl ?_
    refine S_getI kc6 (k := 13) (by decide) kw_1053 dX6_isWord_8 (fun x2 _ => ?_)
    refine S_if_ne 30 dX6_isWord_11 (by decide) (fun c18 => ?_) (fun c18 => ?_)
    · refine S_iconst 0 dX6_isWord_30 (by decide) ?_
      exact S_zreturn (b := false) rfl rfl dX6_isWord_31
    · refine S_aload_n 0 dX6_isWord_14 rfl rfl ?_
      refine S_getI kc6 (k := 12) (by decide) kw_1052 dX6_isWord_15 (fun x3 _ => ?_)
      refine S_aload_n 0 dX6_isWord_18 rfl rfl ?_
      refine S_getI kc6 (k := 11) (by decide) kw_1051 dX6_isWord_19 (fun x4 _ => ?_)
      refine S_isub dX6_isWord_22 ?_
      refine S_sload_n 1 dX6_isWord_23 rfl rfl ?_
      refine S_sLen [.int (x3 - x4)] kw_1147 hs (Nat.le_of_ble_eq_true rfl) (by decide) dX6_isWord_24 (fun x5 _ => ?_)
      refine S_icmp_eq 32 dX6_isWord_27 (by decide) (fun c17 => ?_) (fun c17 => ?_)
      · refine S_iconst 0 dX6_isWord_32 (by decide) ?_
        refine S_istore_n [(2, .int 0), (0, .ref o), (1, .retAddr p1)] dX6_isWord_33 rfl (Nat.le_of_ble_eq_true rfl) rfl ?_
        refine Sim.sub [1, 2, 0] rfl (sl_X6_isWord_L34 hs o p1 h _ _ ?_ ?_ LF (0 : Int32))
        · refine S_iconst 1 dX6_isWord_69 (by decide) ?_
          exact S_zreturn (b := true) rfl rfl dX6_isWord_70
        · refine S_iconst 0 dX6_isWord_61 (by decide) ?_
          exact S_zreturn (b := false) rfl rfl dX6_isWord_62
      · refine S_iconst 0 dX6_isWord_30 (by decide) ?_
        exact S_zreturn (b := false) rfl rfl dX6_isWord_31
theorem sm_X6_isWord (hs : l.stackTraces = false) (o : Nat) (p1 : Nat) (h : Hp) : ∀ x, m_X6_isWord  o p1 h = some x → SR l G 8 M_X6_isWord [.ref o, .retAddr p1] h (some (.int (bI x))) h := fun x e => SR.of K_X6_isWord hs rfl (Nat.le_of_ble_eq_true rfl) (ss_X6_isWord hs o p1 h) e rfl
end
section
variable {l : Launch} {G : Gx}
set_option maxRecDepth 20000 in
set_option maxHeartbeats 4000000 in
theorem sl_X3_atWord_L28 (hs : l.stackTraces = false) (u5 : Nat) (u6 : Nat) (h : Hp) (k28_62 : Option Bool) (k28_54 : Option Bool) (hk28_62 : Sim l G 8 M_X3_atWord (fun v : Bool => ((.inl (some (.int (bI v))) : Oc), h)) 62 [] [] h (k28_62)) (hk28_54 : Sim l G 8 M_X3_atWord (fun v : Bool => ((.inl (some (.int (bI v))) : Oc), h)) 54 [] [] h (k28_54)) : ∀ (f : Nat) (w7 : Int32), Sim l G 8 M_X3_atWord (fun v : Bool => ((.inl (some (.int (bI v))) : Oc), h)) 28 [(0, .ref u5), (1, .retAddr u6), (2, .int w7)] [] h (m_X3_atWord_L28 u5 u6 h k28_62 k28_54 f w7) := by
  intro f
  induction f with
  | zero => intro w7; exact S_none rfl
  | succ f ih =>
    intro w7
    rw [m_X3_atWord_L28]
    refine S_iload_n 2 dX3_atWord_28 rfl rfl ?_
    refine S_sload_n 1 dX3_atWord_29 rfl rfl ?_
    refine S_sLen [.int w7] kw_584 hs (Nat.le_of_ble_eq_true rfl) (by decide) dX3_atWord_30 (fun x8 _ => ?_)
    refine S_icmp_ge 62 dX3_atWord_33 (by decide) (fun c14 => ?_) (fun c14 => ?_)
    · exact Sim.sub [] rfl (hk28_62)
    · refine S_aload_n 0 dX3_atWord_36 rfl rfl ?_
      refine S_aload_n 0 dX3_atWord_37 rfl rfl ?_
      refine S_getI kc3 (k := 7) (by decide) kw_198 dX3_atWord_38 (fun x9 _ => ?_)
      refine S_iload_n 2 dX3_atWord_41 rfl rfl ?_
      refine S_iadd dX3_atWord_42 ?_
      refine S_callV_IR (lev' := 0) (My := M_X3_byteAt) [.int (x9 + w7)] [] kc3 K_X3_byteAt kw_560 kw_562 kw_11 dX3_atWord_43 (by decide) rfl (Nat.le_of_ble_eq_true rfl) (fun xx ee => sm_X3_byteAt hs u5 (x9 + w7) h xx ee) (fun x10 _ => ?_)
      refine S_sload_n 1 dX3_atWord_46 rfl rfl ?_
      refine S_iload_n 2 dX3_atWord_47 rfl rfl ?_
      refine S_sChr [.int x10] kw_594 hs (Nat.le_of_ble_eq_true rfl) (by decide) dX3_atWord_48 (fun x11 _ => ?_)
      refine S_icmp_eq 56 dX3_atWord_51 (by decide) (fun c13 => ?_) (fun c13 => ?_)
      · refine S_iincN (c := 1) 2 (fun x12 => [(2, .int x12), (0, .ref u5), (1, .retAddr u6)]) dX3_atWord_56 rfl (by decide) (Nat.le_of_ble_eq_true rfl) (fun _ => rfl) (fun x12 => ?_)
        refine S_goto 28 dX3_atWord_59 (by decide) ?_
        exact Sim.sub [1, 2, 0] rfl (ih x12)
      · exact Sim.sub [] rfl (hk28_54)
set_option maxRecDepth 20000 in
set_option maxHeartbeats 4000000 in
theorem ss_X3_atWord (hs : l.stackTraces = false) (o : Nat) (p1 : Nat) (h : Hp) : Sim l G 8 M_X3_atWord (fun v : Bool => ((.inl (some (.int (bI v))) : Oc), h)) 0 [(0, .ref o), (1, .retAddr p1)] [] h (m_X3_atWord  o p1 h) := by
  rw [m_X3_atWord]
  refine S_aload_n 0 dX3_atWord_0 rfl rfl ?_
  refine S_getI kc3 (k := 6) (by decide) kw_197 dX3_atWord_1 (fun x1 _ => ?_)
  refine S_iconst 1 dX3_atWord_4 (by decide) ?_
  refine S_icmp_ne 24 dX3_atWord_5 (by decide) (fun c16 => ?_) (fun c16 => ?_)
  · refine S_iconst 0 dX3_atWord_24 (by decide) ?_
    exact S_zreturn (b := false) rfl rfl dX3_atWord_25
  · refine S_aload_n 0 dX3_atWord_8 rfl rfl ?_
    refine S_getI kc3 (k := 8) (by decide) kw_199 dX3_atWord_9 (fun x2 _ => ?_)
    refine S_aload_n 0 dX3_atWord_12 rfl rfl ?_
    refine S_getI kc3 (k := 7) (by decide) kw_198 dX3_atWord_13 (fun x3 _ => ?_)
    refine S_isub dX3_atWord_16 ?_
    refine S_sload_n 1 dX3_atWord_17 rfl rfl ?_
    refine S_sLen [.int (x2 - x3)] kw_584 hs (Nat.le_of_ble_eq_true rfl) (by decide) dX3_atWord_18 (fun x4 _ => ?_)
    refine S_icmp_eq 26 dX3_atWord_21 (by decide) (fun c15 => ?_) (fun c15 => ?_)
    · refine S_iconst 0 dX3_atWord_26 (by decide) ?_
      refine S_istore_n [(2, .int 0), (0, .ref o), (1, .retAddr p1)] dX3_atWord_27 rfl (Nat.le_of_ble_eq_true rfl) rfl ?_
      refine Sim.sub [1, 2, 0] rfl (sl_X3_atWord_L28 hs o p1 h _ _ ?_ ?_ LF (0 : Int32))
      · refine S_iconst 1 dX3_atWord_62 (by decide) ?_
        exact S_zreturn (b := true) rfl rfl dX3_atWord_63
      · refine S_iconst 0 dX3_atWord_54 (by decide) ?_
        exact S_zreturn (b := false) rfl rfl dX3_atWord_55
    · refine S_iconst 0 dX3_atWord_24 (by decide) ?_
      exact S_zreturn (b := false) rfl rfl dX3_atWord_25
theorem sm_X3_atWord (hs : l.stackTraces = false) (o : Nat) (p1 : Nat) (h : Hp) : ∀ x, m_X3_atWord  o p1 h = some x → SR l G 8 M_X3_atWord [.ref o, .retAddr p1] h (some (.int (bI x))) h := fun x e => SR.of K_X3_atWord hs rfl (Nat.le_of_ble_eq_true rfl) (ss_X3_atWord hs o p1 h) e rfl
end
section
variable {l : Launch} {G : Gx}
set_option maxRecDepth 20000 in
set_option maxHeartbeats 4000000 in
theorem sl_X6_reads_L67 (hs : l.stackTraces = false) (u14 : Nat) (k67_83 : Hp → Option Hp) (hk67_83 : ∀ (h15 : Hp), Sim l G 9 M_X6_reads (fun v : Hp => ((.inl none : Oc), v)) 83 [(0, .ref u14)] [] h15 (k67_83 h15)) : ∀ (f : Nat) (h : Hp), Sim l G 9 M_X6_reads (fun v : Hp => ((.inl none : Oc), v)) 67 [(0, .ref u14)] [] h (m_X6_reads_L67 u14 k67_83 f h) := by
  intro f
  induction f with
  | zero => intro h; exact S_none rfl
  | succ f ih =>
    intro h
    rw [m_X6_reads_L67]
    refine S_aload_n 0 dX6_reads_67 rfl rfl ?_
    refine S_ldcS 2 _ kn_1166 rfl dX6_reads_68 ?_
    refine S_callV_BR (lev' := 8) (My := M_X6_isWord) [.retAddr 2] [] kc6 K_X6_isWord kw_1143 kw_1145 kw_31 dX6_reads_70 (by decide) rfl (Nat.le_of_ble_eq_true rfl) (fun xx ee => sm_X6_isWord hs u14 2 h xx ee) (fun bb16 _ => ?_)
    refine S_if_eqB 83 dX6_reads_73 (by decide) (fun c18 => ?_) (fun c18 => ?_)
    · exact Sim.sub [0] rfl (hk67_83 h)
    · refine S_aload_n 0 dX6_reads_76 rfl rfl ?_
      refine S_callV_VW (lev' := 4) (My := M_X6_readsVertex) [] [] kc6 K_X6_readsVertex kw_1167 kw_1169 kw_36 dX6_reads_77 (by decide) rfl (Nat.le_of_ble_eq_true rfl) (fun xx ee => sm_X6_readsVertex hs u14 h xx ee) (fun h17 _ => ?_)
      refine S_goto 67 dX6_reads_80 (by decide) ?_
      exact Sim.sub [0] rfl (ih h17)
set_option maxRecDepth 20000 in
set_option maxHeartbeats 4000000 in
theorem sl_X6_reads_L83 (hs : l.stackTraces = false) (u19 : Nat) (k83_99 : Hp → Option Hp) (hk83_99 : ∀ (h20 : Hp), Sim l G 9 M_X6_reads (fun v : Hp => ((.inl none : Oc), v)) 99 [(0, .ref u19)] [] h20 (k83_99 h20)) : ∀ (f : Nat) (h : Hp), Sim l G 9 M_X6_reads (fun v : Hp => ((.inl none : Oc), v)) 83 [(0, .ref u19)] [] h (m_X6_reads_L83 u19 k83_99 f h) := by
  intro f
  induction f with
  | zero => intro h; exact S_none rfl
  | succ f ih =>
    intro h
    rw [m_X6_reads_L83]
    refine S_aload_n 0 dX6_reads_83 rfl rfl ?_
    refine S_ldcS 3 _ kn_1179 rfl dX6_reads_84 ?_
    refine S_callV_BR (lev' := 8) (My := M_X6_isWord) [.retAddr 3] [] kc6 K_X6_isWord kw_1143 kw_1145 kw_31 dX6_reads_86 (by decide) rfl (Nat.le_of_ble_eq_true rfl) (fun xx ee => sm_X6_isWord hs u19 3 h xx ee) (fun bb21 _ => ?_)
    refine S_if_eqB 99 dX6_reads_89 (by decide) (fun c23 => ?_) (fun c23 => ?_)
    · exact Sim.sub [0] rfl (hk83_99 h)
    · refine S_aload_n 0 dX6_reads_92 rfl rfl ?_
      refine S_callV_VW (lev' := 4) (My := M_X6_readsEdge) [] [] kc6 K_X6_readsEdge kw_1180 kw_1182 kw_39 dX6_reads_93 (by decide) rfl (Nat.le_of_ble_eq_true rfl) (fun xx ee => sm_X6_readsEdge hs u19 h xx ee) (fun h22 _ => ?_)
      refine S_goto 83 dX6_reads_96 (by decide) ?_
      exact Sim.sub [0] rfl (ih h22)
set_option maxRecDepth 20000 in
set_option maxHeartbeats 4000000 in
theorem sl_X6_reads_L99 (hs : l.stackTraces = false) (u24 : Nat) (k99_140 : Hp → Option Hp) (hk99_140 : ∀ (h25 : Hp), Sim l G 9 M_X6_reads (fun v : Hp => ((.inl none : Oc), v)) 140 [(0, .ref u24)] [] h25 (k99_140 h25)) : ∀ (f : Nat) (h : Hp), Sim l G 9 M_X6_reads (fun v : Hp => ((.inl none : Oc), v)) 99 [(0, .ref u24)] [] h (m_X6_reads_L99 u24 k99_140 f h) := by
  intro f
  induction f with
  | zero => intro h; exact S_none rfl
  | succ f ih =>
    intro h
    rw [m_X6_reads_L99]
    refine S_aload_n 0 dX6_reads_99 rfl rfl ?_
    refine S_ldcS 4 _ kn_1188 rfl dX6_reads_100 ?_
    refine S_callV_BR (lev' := 8) (My := M_X6_isWord) [.retAddr 4] [] kc6 K_X6_isWord kw_1143 kw_1145 kw_31 dX6_reads_102 (by decide) rfl (Nat.le_of_ble_eq_true rfl) (fun xx ee => sm_X6_isWord hs u24 4 h xx ee) (fun bb26 _ => ?_)
    refine S_jK (fun (k27 : Option Hp) => Sim l G 9 M_X6_reads (fun v : Hp => ((.inl none : Oc), v)) 117 [(0, .ref u24)] [] h (k27)) ?_ (fun k27 hk27 => ?_)
    · refine S_aload_n 0 dX6_reads_117 rfl rfl ?_
      refine S_ldcS 4 _ kn_1188 rfl dX6_reads_118 ?_
      refine S_callV_BR (lev' := 8) (My := M_X6_isWord) [.retAddr 4] [] kc6 K_X6_isWord kw_1143 kw_1145 kw_31 dX6_reads_120 (by decide) rfl (Nat.le_of_ble_eq_true rfl) (fun xx ee => sm_X6_isWord hs u24 4 h xx ee) (fun bb28 _ => ?_)
      refine S_if_eqB 133 dX6_reads_123 (by decide) (fun c31 => ?_) (fun c31 => ?_)
      · refine S_aload_n 0 dX6_reads_133 rfl rfl ?_
        refine S_callV_VW (lev' := 4) (My := M_X6_readsPass) [] [] kc6 K_X6_readsPass kw_1252 kw_1254 kw_55 dX6_reads_134 (by decide) rfl (Nat.le_of_ble_eq_true rfl) (fun xx ee => sm_X6_readsPass hs u24 h xx ee) (fun h29 _ => ?_)
        refine S_goto 99 dX6_reads_137 (by decide) ?_
        exact Sim.sub [0] rfl (ih h29)
      · refine S_aload_n 0 dX6_reads_126 rfl rfl ?_
        refine S_callV_VW (lev' := 5) (My := M_X6_readsLay) [] [] kc6 K_X6_readsLay kw_1190 kw_1192 kw_41 dX6_reads_127 (by decide) rfl (Nat.le_of_ble_eq_true rfl) (fun xx ee => sm_X6_readsLay hs u24 h xx ee) (fun h30 _ => ?_)
        refine S_goto 99 dX6_reads_130 (by decide) ?_
        exact Sim.sub [0] rfl (ih h30)
    refine S_if_neB 117 dX6_reads_105 (by decide) (fun c34 => ?_) (fun c34 => ?_)
    · exact Sim.sub [0] rfl (hk27)
    · refine S_aload_n 0 dX6_reads_108 rfl rfl ?_
      refine S_ldcS 5 _ kn_1189 rfl dX6_reads_109 ?_
      refine S_callV_BR (lev' := 8) (My := M_X6_isWord) [.retAddr 5] [] kc6 K_X6_isWord kw_1143 kw_1145 kw_31 dX6_reads_111 (by decide) rfl (Nat.le_of_ble_eq_true rfl) (fun xx ee => sm_X6_isWord hs u24 5 h xx ee) (fun bb32 _ => ?_)
      refine S_if_eqB 140 dX6_reads_114 (by decide) (fun c33 => ?_) (fun c33 => ?_)
      · exact Sim.sub [0] rfl (hk99_140 h)
      · exact Sim.sub [0] rfl (hk27)
set_option maxRecDepth 20000 in
set_option maxHeartbeats 4000000 in
theorem ss_X6_reads (hs : l.stackTraces = false) (o : Nat) (h : Hp) : Sim l G 9 M_X6_reads (fun v : Hp => ((.inl none : Oc), v)) 0 [(0, .ref o)] [] h (m_X6_reads  o h) := by
  rw [m_X6_reads]
  refine S_aload_n 0 dX6_reads_0 rfl rfl ?_
  refine S_aload_n 0 dX6_reads_1 rfl rfl ?_
  refine S_ldcS 0 _ kn_1142 rfl dX6_reads_2 ?_
  refine S_callV_BR (lev' := 8) (My := M_X6_isWord) [.retAddr 0] [.ref o] kc6 K_X6_isWord kw_1143 kw_1145 kw_31 dX6_reads_4 (by decide) rfl (Nat.le_of_ble_eq_true rfl) (fun xx ee => sm_X6_isWord hs o 0 h xx ee) (fun bb1 _ => ?_)
  refine S_callV_VW (lev' := 2) (My := M_X6_must) [.int (bI bb1)] [] kc6 K_X6_must kw_1149 kw_1151 kw_32 dX6_reads_7 (by decide) rfl (Nat.le_of_ble_eq_true rfl) (fun xx ee => sm_X6_must hs o bb1 h xx ee) (fun h2 _ => ?_)
  refine S_aload_n 0 dX6_reads_10 rfl rfl ?_
  refine S_getR kc6 (k := 0) (by decide) kw_1040 dX6_reads_11 (fun a3 _ => ?_)
  refine S_iconst 1 dX6_reads_14 (by decide) ?_
  refine S_aload_n 0 dX6_reads_15 rfl rfl ?_
  refine S_iconst 1 dX6_reads_16 (by decide) ?_
  refine S_iconst 3 dX6_reads_17 (by decide) ?_
  refine S_callV_IW (lev' := 2) (My := M_X6_takes) [.int 1, .int 3] [.int 1, .ref a3] kc6 K_X6_takes kw_1157 kw_1159 kw_34 dX6_reads_18 (by decide) rfl (Nat.le_of_ble_eq_true rfl) (fun xx yy ee => sm_X6_takes hs o (1 : Int32) (3 : Int32) h2 xx yy ee) (fun x4 h5 _ => ?_)
  refine S_iastore dX6_reads_21 (fun h6 _ => ?_)
  refine S_aload_n 0 dX6_reads_22 rfl rfl ?_
  refine S_ldcS 1 _ kn_1161 rfl dX6_reads_23 ?_
  refine S_callV_BR (lev' := 8) (My := M_X6_isWord) [.retAddr 1] [] kc6 K_X6_isWord kw_1143 kw_1145 kw_31 dX6_reads_25 (by decide) rfl (Nat.le_of_ble_eq_true rfl) (fun xx ee => sm_X6_isWord hs o 1 h6 xx ee) (fun bb7 _ => ?_)
  refine S_jK (fun (k9 : Hp → Option Hp) => ∀ (h8 : Hp), Sim l G 9 M_X6_reads (fun v : Hp => ((.inl none : Oc), v)) 48 [(0, .ref o)] [] h8 (k9 h8)) ?_ (fun k9 hk9 => ?_)
  · intro h8
    refine S_aload_n 0 dX6_reads_48 rfl rfl ?_
    refine S_callV_VW (lev' := 3) (My := M_X6_mustEnd) [] [] kc6 K_X6_mustEnd kw_1162 kw_1164 kw_35 dX6_reads_49 (by decide) rfl (Nat.le_of_ble_eq_true rfl) (fun xx ee => sm_X6_mustEnd hs o h8 xx ee) (fun h10 _ => ?_)
    refine S_aload_n 0 dX6_reads_52 rfl rfl ?_
    refine S_ldcS 2 _ kn_1166 rfl dX6_reads_53 ?_
    refine S_callV_BR (lev' := 8) (My := M_X6_isWord) [.retAddr 2] [] kc6 K_X6_isWord kw_1143 kw_1145 kw_31 dX6_reads_55 (by decide) rfl (Nat.le_of_ble_eq_true rfl) (fun xx ee => sm_X6_isWord hs o 2 h10 xx ee) (fun bb11 _ => ?_)
    refine S_jK (fun (k13 : Hp → Option Hp) => ∀ (h12 : Hp), Sim l G 9 M_X6_reads (fun v : Hp => ((.inl none : Oc), v)) 67 [(0, .ref o)] [] h12 (k13 h12)) ?_ (fun k13 hk13 => ?_)
    · intro h12
      refine Sim.sub [0] rfl (sl_X6_reads_L67 hs o _ ?_ LF h12)
      · intro h15
        refine Sim.sub [0] rfl (sl_X6_reads_L83 hs o _ ?_ LF h15)
        · intro h20
          refine Sim.sub [0] rfl (sl_X6_reads_L99 hs o _ ?_ LF h20)
          · intro h25
            refine S_aload_n 0 dX6_reads_140 rfl rfl ?_
            refine S_getI kc6 (k := 15) (by decide) kw_1055 dX6_reads_141 (fun x35 _ => ?_)
            refine S_if_ne 161 dX6_reads_144 (by decide) (fun c39 => ?_) (fun c39 => ?_)
            · exact S_return rfl rfl dX6_reads_161
            · refine S_aload_n 0 dX6_reads_147 rfl rfl ?_
              refine S_getI kc6 (k := 13) (by decide) kw_1053 dX6_reads_148 (fun x36 _ => ?_)
              refine S_iconst 3 dX6_reads_151 (by decide) ?_
              refine S_icmp_eq 161 dX6_reads_152 (by decide) (fun c38 => ?_) (fun c38 => ?_)
              · exact S_return rfl rfl dX6_reads_161
              · refine S_aload_n 0 dX6_reads_155 rfl rfl ?_
                refine S_bipush (-2) dX6_reads_156 (by decide) ?_
                refine S_callV_VW (lev' := 0) (My := M_X6_fails) [.int (-2)] [] kc6 K_X6_fails kw_1153 kw_1155 kw_33 dX6_reads_158 (by decide) rfl (Nat.le_of_ble_eq_true rfl) (fun xx ee => sm_X6_fails hs o (-2 : Int32) h25 xx ee) (fun h37 _ => ?_)
                exact S_return rfl rfl dX6_reads_161
    refine S_if_neB 67 dX6_reads_58 (by decide) (fun c41 => ?_) (fun c41 => ?_)
    · exact Sim.sub [0] rfl (hk13 h10)
    · refine S_aload_n 0 dX6_reads_61 rfl rfl ?_
      refine S_bipush (-2) dX6_reads_62 (by decide) ?_
      refine S_callV_VW (lev' := 0) (My := M_X6_fails) [.int (-2)] [] kc6 K_X6_fails kw_1153 kw_1155 kw_33 dX6_reads_64 (by decide) rfl (Nat.le_of_ble_eq_true rfl) (fun xx ee => sm_X6_fails hs o (-2 : Int32) h10 xx ee) (fun h40 _ => ?_)
      exact Sim.sub [0] rfl (hk13 h40)
  refine S_if_eqB 48 dX6_reads_28 (by decide) (fun c47 => ?_) (fun c47 => ?_)
  · exact Sim.sub [0] rfl (hk9 h6)
  · refine S_aload_n 0 dX6_reads_31 rfl rfl ?_
    refine S_callV_VW (lev' := 1) (My := M_X6_next) [] [] kc6 K_X6_next kw_1130 kw_1132 kw_28 dX6_reads_32 (by decide) rfl (Nat.le_of_ble_eq_true rfl) (fun xx ee => sm_X6_next hs o h6 xx ee) (fun h42 _ => ?_)
    refine S_aload_n 0 dX6_reads_35 rfl rfl ?_
    refine S_getR kc6 (k := 0) (by decide) kw_1040 dX6_reads_36 (fun a43 _ => ?_)
    refine S_iconst 2 dX6_reads_39 (by decide) ?_
    refine S_aload_n 0 dX6_reads_40 rfl rfl ?_
    refine S_iconst 0 dX6_reads_41 (by decide) ?_
    refine S_bipush 9 dX6_reads_42 (by decide) ?_
    refine S_callV_IW (lev' := 2) (My := M_X6_takes) [.int 0, .int 9] [.int 2, .ref a43] kc6 K_X6_takes kw_1157 kw_1159 kw_34 dX6_reads_44 (by decide) rfl (Nat.le_of_ble_eq_true rfl) (fun xx yy ee => sm_X6_takes hs o (0 : Int32) (9 : Int32) h42 xx yy ee) (fun x44 h45 _ => ?_)
    refine S_iastore dX6_reads_47 (fun h46 _ => ?_)
    exact Sim.sub [0] rfl (hk9 h46)
theorem sm_X6_reads (hs : l.stackTraces = false) (o : Nat) (h : Hp) : ∀ h1, m_X6_reads  o h = some h1 → SR l G 9 M_X6_reads [.ref o] h none h1 := fun h1 e => SR.of K_X6_reads hs rfl (Nat.le_of_ble_eq_true rfl) (ss_X6_reads hs o h) e rfl
end
