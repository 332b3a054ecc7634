/-! printed by wip/whole/emit.py: walks -/
section
variable {l : Launch} {G : Gx}
set_option maxRecDepth 20000 in
set_option maxHeartbeats 4000000 in
theorem ss_X5_valueIf (hs : l.stackTraces = false) (o : Nat) (p1 : Int32) (p2 : Int32) (h : Hp) : Sim l G 185 M_X5_valueIf finX 0 [(0, .ref o), (1, .int p1), (2, .int p2)] [] h (m_X5_valueIf  o p1 p2 h) := by
  rw [m_X5_valueIf]
  refine S_aload_n 0 dX5_valueIf_0 rfl rfl ?_
  refine S_getR kc5 (k := 0) (by decide) kw_243 dX5_valueIf_1 (fun a1 _ => ?_)
  refine S_iload_n 1 dX5_valueIf_4 rfl rfl ?_
  refine S_iload_n 2 dX5_valueIf_5 rfl rfl ?_
  refine S_callV_BR (lev' := 1) (My := M_X0_hasPair) [.int p1, .int p2] [] kc0 K_X0_hasPair kw_845 kw_846 kw_847 dX5_valueIf_6 (by decide) rfl (Nat.le_of_ble_eq_true rfl) (fun xx ee => sm_X0_hasPair hs a1 p1 p2 h xx ee) (fun bb2 _ => ?_)
  refine S_if_neB 22 dX5_valueIf_9 (by decide) (fun c12 => ?_) (fun c12 => ?_)
  · refine S_aload_n 0 dX5_valueIf_22 rfl rfl ?_
    refine S_getR kc5 (k := 0) (by decide) kw_243 dX5_valueIf_23 (fun a3 _ => ?_)
    refine S_iload_n 1 dX5_valueIf_26 rfl rfl ?_
    refine S_iload_n 2 dX5_valueIf_27 rfl rfl ?_
    refine S_callV_IR (lev' := 2) (My := M_X0_whyNot) [.int p1, .int p2] [] kc0 K_X0_whyNot kw_851 kw_384 kw_385 dX5_valueIf_28 (by decide) rfl (Nat.le_of_ble_eq_true rfl) (fun xx ee => sm_X0_whyNot hs a3 p1 p2 h xx ee) (fun x4 _ => ?_)
    refine S_if_eq 44 dX5_valueIf_31 (by decide) (fun c11 => ?_) (fun c11 => ?_)
    · refine S_aload_n 0 dX5_valueIf_44 rfl rfl ?_
      refine S_getR kc5 (k := 1) (by decide) kw_244 dX5_valueIf_45 (fun a5 _ => ?_)
      refine S_iload_n 1 dX5_valueIf_48 rfl rfl ?_
      refine S_iload_n 2 dX5_valueIf_49 rfl rfl ?_
      refine S_callV_IW (lev' := 184) (My := M_X4_behindLay) [.int p1, .int p2] [] kc4 K_X4_behindLay kw_394 kw_395 kw_396 dX5_valueIf_50 (by decide) rfl (Nat.le_of_ble_eq_true rfl) (fun xx yy ee => sm_X4_behindLay hs a5 p1 p2 h xx yy ee) (fun x6 h7 _ => ?_)
      refine S_callS_IR (lev' := 0) (My := M_X5_valueIn) [.int x6] [] K_X5_valueIn kw_362 kw_341 dX5_valueIf_53 (by decide) rfl (Nat.le_of_ble_eq_true rfl) (fun xx ee => sm_X5_valueIn hs x6 _ xx ee) (fun x8 _ => ?_)
      refine S_aload_n 0 dX5_valueIf_56 rfl rfl ?_
      refine S_getR kc5 (k := 0) (by decide) kw_243 dX5_valueIf_57 (fun a9 _ => ?_)
      refine S_callV_IR (lev' := 0) (My := M_X0_passValue) [] [.int x8] kc0 K_X0_passValue kw_363 kw_364 kw_365 dX5_valueIf_60 (by decide) rfl (Nat.le_of_ble_eq_true rfl) (fun xx ee => sm_X0_passValue hs a9 h7 xx ee) (fun x10 _ => ?_)
      refine S_ixor dX5_valueIf_63 ?_
      exact S_ireturn rfl rfl dX5_valueIf_64
    · exact S_throw3 rfl (by decide +kernel) kw_871 kn_880 kw_881 dX5_valueIf_34 dX5_valueIf_37 dX5_valueIf_38 dX5_valueIf_40 dX5_valueIf_43
  · exact S_throw2 rfl (by decide +kernel) kw_811 kn_850 kw_821 dX5_valueIf_12 dX5_valueIf_15 dX5_valueIf_16 dX5_valueIf_18 dX5_valueIf_21
end
section
variable {l : Launch} {G : Gx}
set_option maxRecDepth 20000 in
set_option maxHeartbeats 4000000 in
theorem ss_X5_valueWithout (hs : l.stackTraces = false) (o : Nat) (p1 : Int32) (h : Hp) : Sim l G 185 M_X5_valueWithout finX 0 [(0, .ref o), (1, .int p1)] [] h (m_X5_valueWithout  o p1 h) := by
  rw [m_X5_valueWithout]
  refine S_aload_n 0 dX5_valueWithout_0 rfl rfl ?_
  refine S_getR kc5 (k := 0) (by decide) kw_243 dX5_valueWithout_1 (fun a1 _ => ?_)
  refine S_iload_n 1 dX5_valueWithout_4 rfl rfl ?_
  refine S_callV_BR (lev' := 0) (My := M_X0_hasVertex) [.int p1] [] kc0 K_X0_hasVertex kw_807 kw_808 kw_809 dX5_valueWithout_5 (by decide) rfl (Nat.le_of_ble_eq_true rfl) (fun xx ee => sm_X0_hasVertex hs a1 p1 h xx ee) (fun bb2 _ => ?_)
  refine S_if_neB 21 dX5_valueWithout_8 (by decide) (fun c12 => ?_) (fun c12 => ?_)
  · refine S_aload_n 0 dX5_valueWithout_21 rfl rfl ?_
    refine S_getR kc5 (k := 0) (by decide) kw_243 dX5_valueWithout_22 (fun a3 _ => ?_)
    refine S_iload_n 1 dX5_valueWithout_25 rfl rfl ?_
    refine S_callV_BR (lev' := 1) (My := M_X0_isFree) [.int p1] [] kc0 K_X0_isFree kw_430 kw_388 kw_389 dX5_valueWithout_26 (by decide) rfl (Nat.le_of_ble_eq_true rfl) (fun xx ee => sm_X0_isFree hs a3 p1 h xx ee) (fun bb4 _ => ?_)
    refine S_if_neB 42 dX5_valueWithout_29 (by decide) (fun c11 => ?_) (fun c11 => ?_)
    · refine S_aload_n 0 dX5_valueWithout_42 rfl rfl ?_
      refine S_getR kc5 (k := 1) (by decide) kw_244 dX5_valueWithout_43 (fun a5 _ => ?_)
      refine S_iload_n 1 dX5_valueWithout_46 rfl rfl ?_
      refine S_callV_IW (lev' := 184) (My := M_X4_without) [.int p1] [] kc4 K_X4_without kw_923 kw_924 kw_925 dX5_valueWithout_47 (by decide) rfl (Nat.le_of_ble_eq_true rfl) (fun xx yy ee => sm_X4_without hs a5 p1 h xx yy ee) (fun x6 h7 _ => ?_)
      refine S_callS_IR (lev' := 0) (My := M_X5_valueIn) [.int x6] [] K_X5_valueIn kw_362 kw_341 dX5_valueWithout_50 (by decide) rfl (Nat.le_of_ble_eq_true rfl) (fun xx ee => sm_X5_valueIn hs x6 _ xx ee) (fun x8 _ => ?_)
      refine S_aload_n 0 dX5_valueWithout_53 rfl rfl ?_
      refine S_getR kc5 (k := 0) (by decide) kw_243 dX5_valueWithout_54 (fun a9 _ => ?_)
      refine S_callV_IR (lev' := 0) (My := M_X0_passValue) [] [.int x8] kc0 K_X0_passValue kw_363 kw_364 kw_365 dX5_valueWithout_57 (by decide) rfl (Nat.le_of_ble_eq_true rfl) (fun xx ee => sm_X0_passValue hs a9 h7 xx ee) (fun x10 _ => ?_)
      refine S_ixor dX5_valueWithout_60 ?_
      exact S_ireturn rfl rfl dX5_valueWithout_61
    · exact S_throw3 rfl (by decide +kernel) kw_871 kn_914 kw_881 dX5_valueWithout_32 dX5_valueWithout_35 dX5_valueWithout_36 dX5_valueWithout_38 dX5_valueWithout_41
  · exact S_throw2 rfl (by decide +kernel) kw_811 kn_820 kw_821 dX5_valueWithout_11 dX5_valueWithout_14 dX5_valueWithout_15 dX5_valueWithout_17 dX5_valueWithout_20
end
section
variable {l : Launch} {G : Gx}
set_option maxRecDepth 20000 in
set_option maxHeartbeats 4000000 in
theorem sl_X5_winnersOn_L14 (hs : l.stackTraces = false) (u3 : Nat) (u4 : Int32) (u5 : Int32) (k14_65 : Int32 → Hp → Option (Int32 × Hp)) (hk14_65 : ∀ (v8 : Int32) (h9 : Hp), Sim l G 185 M_X5_winnersOn (fun p : Int32 × Hp => ((.inl (some (.int p.1)) : Oc), p.2)) 65 [(3, .int v8)] [] h9 (k14_65 v8 h9)) : ∀ (f : Nat) (w6 : Int32) (w7 : Int32) (h : Hp), Sim l G 185 M_X5_winnersOn (fun p : Int32 × Hp => ((.inl (some (.int p.1)) : Oc), p.2)) 14 [(0, .ref u3), (1, .int u4), (2, .int u5), (3, .int w6), (4, .int w7)] [] h (m_X5_winnersOn_L14 u3 u4 u5 k14_65 f w6 w7 h) := by
  intro f
  induction f with
  | zero => intro w6 w7 h; exact S_none rfl
  | succ f ih =>
    intro w6 w7 h
    rw [m_X5_winnersOn_L14]
    refine S_iload 4 dX5_winnersOn_14 rfl ?_
    refine S_iconst 3 dX5_winnersOn_16 (by decide) ?_
    refine S_icmp_ge 65 dX5_winnersOn_17 (by decide) (fun c24 => ?_) (fun c24 => ?_)
    · exact Sim.sub [3] rfl (hk14_65 w6 h)
    · refine S_iload_n 2 dX5_winnersOn_20 rfl rfl ?_
      refine S_iload 4 dX5_winnersOn_21 rfl ?_
      refine S_callS_BR (lev' := 0) (My := M_X5_has) [.int u5, .int w7] [] K_X5_has kw_393 kw_319 dX5_winnersOn_23 (by decide) rfl (Nat.le_of_ble_eq_true rfl) (fun xx ee => sm_X5_has hs u5 w7 _ xx ee) (fun bb10 _ => ?_)
      refine S_jK (fun (k13 : Int32 → Hp → Option (Int32 × Hp)) => ∀ (v11 : Int32) (h12 : Hp), Sim l G 185 M_X5_winnersOn (fun p : Int32 × Hp => ((.inl (some (.int p.1)) : Oc), p.2)) 59 [(0, .ref u3), (1, .int u4), (2, .int u5), (3, .int v11), (4, .int w7)] [] h12 (k13 v11 h12)) ?_ (fun k13 hk13 => ?_)
      · intro v11 h12
        refine S_iincN (c := 1) 4 (fun x14 => [(4, .int x14), (0, .ref u3), (1, .int u4), (2, .int u5), (3, .int v11)]) dX5_winnersOn_59 rfl (by decide) (Nat.le_of_ble_eq_true rfl) (fun _ => rfl) (fun x14 => ?_)
        refine S_goto 14 dX5_winnersOn_62 (by decide) ?_
        exact Sim.sub [1, 2, 3, 4, 0] rfl (ih v11 x14 h12)
      refine S_if_eqB 59 dX5_winnersOn_26 (by decide) (fun c23 => ?_) (fun c23 => ?_)
      · exact Sim.sub [0, 1, 2, 3, 4] rfl (hk13 w6 h)
      · refine S_aload_n 0 dX5_winnersOn_29 rfl rfl ?_
        refine S_getR kc5 (k := 1) (by decide) kw_244 dX5_winnersOn_30 (fun a15 _ => ?_)
        refine S_iload_n 1 dX5_winnersOn_33 rfl rfl ?_
        refine S_iload 4 dX5_winnersOn_34 rfl ?_
        refine S_callV_IW (lev' := 184) (My := M_X4_behindLay) [.int u4, .int w7] [] kc4 K_X4_behindLay kw_394 kw_395 kw_396 dX5_winnersOn_36 (by decide) rfl (Nat.le_of_ble_eq_true rfl) (fun xx yy ee => sm_X4_behindLay hs a15 u4 w7 h xx yy ee) (fun x16 h17 _ => ?_)
        refine S_callS_IR (lev' := 0) (My := M_X5_valueIn) [.int x16] [] K_X5_valueIn kw_362 kw_341 dX5_winnersOn_39 (by decide) rfl (Nat.le_of_ble_eq_true rfl) (fun xx ee => sm_X5_valueIn hs x16 _ xx ee) (fun x18 _ => ?_)
        refine S_aload_n 0 dX5_winnersOn_42 rfl rfl ?_
        refine S_getR kc5 (k := 0) (by decide) kw_243 dX5_winnersOn_43 (fun a19 _ => ?_)
        refine S_callV_IR (lev' := 0) (My := M_X0_passValue) [] [.int x18] kc0 K_X0_passValue kw_363 kw_364 kw_365 dX5_winnersOn_46 (by decide) rfl (Nat.le_of_ble_eq_true rfl) (fun xx ee => sm_X0_passValue hs a19 h17 xx ee) (fun x20 _ => ?_)
        refine S_icmp_ne 59 dX5_winnersOn_49 (by decide) (fun c22 => ?_) (fun c22 => ?_)
        · exact Sim.sub [0, 1, 2, 3, 4] rfl (hk13 w6 h17)
        · refine S_iload_n 3 dX5_winnersOn_52 rfl rfl ?_
          refine S_iconst 1 dX5_winnersOn_53 (by decide) ?_
          refine S_iload 4 dX5_winnersOn_54 rfl ?_
          refine S_ishl dX5_winnersOn_56 ?_
          refine S_ior dX5_winnersOn_57 ?_
          refine S_nmI (fun x21 => ?_)
          refine S_istore_n [(3, .int x21), (0, .ref u3), (1, .int u4), (2, .int u5), (4, .int w7)] dX5_winnersOn_58 rfl (Nat.le_of_ble_eq_true rfl) rfl ?_
          exact Sim.sub [1, 2, 3, 0, 4] rfl (hk13 x21 h17)
set_option maxRecDepth 20000 in
set_option maxHeartbeats 4000000 in
theorem ss_X5_winnersOn (hs : l.stackTraces = false) (o : Nat) (p1 : Int32) (h : Hp) : Sim l G 185 M_X5_winnersOn (fun p : Int32 × Hp => ((.inl (some (.int p.1)) : Oc), p.2)) 0 [(0, .ref o), (1, .int p1)] [] h (m_X5_winnersOn  o p1 h) := by
  rw [m_X5_winnersOn]
  refine S_aload_n 0 dX5_winnersOn_0 rfl rfl ?_
  refine S_getR kc5 (k := 0) (by decide) kw_243 dX5_winnersOn_1 (fun a1 _ => ?_)
  refine S_iload_n 1 dX5_winnersOn_4 rfl rfl ?_
  refine S_callV_IR (lev' := 3) (My := M_X0_choicesOn) [.int p1] [] kc0 K_X0_choicesOn kw_379 kw_380 kw_381 dX5_winnersOn_5 (by decide) rfl (Nat.le_of_ble_eq_true rfl) (fun xx ee => sm_X0_choicesOn hs a1 p1 h xx ee) (fun x2 _ => ?_)
  refine S_istore_n [(2, .int x2), (0, .ref o), (1, .int p1)] dX5_winnersOn_8 rfl (Nat.le_of_ble_eq_true rfl) rfl ?_
  refine S_iconst 0 dX5_winnersOn_9 (by decide) ?_
  refine S_istore_n [(3, .int 0), (2, .int x2), (0, .ref o), (1, .int p1)] dX5_winnersOn_10 rfl (Nat.le_of_ble_eq_true rfl) rfl ?_
  refine S_iconst 0 dX5_winnersOn_11 (by decide) ?_
  refine S_istore [(4, .int 0), (3, .int 0), (2, .int x2), (0, .ref o), (1, .int p1)] dX5_winnersOn_12 (Nat.le_of_ble_eq_true rfl) rfl ?_
  refine Sim.sub [3, 4, 2, 1, 0] rfl (sl_X5_winnersOn_L14 hs o p1 x2 _ ?_ LF (0 : Int32) (0 : Int32) h)
  · intro v8 h9
    refine S_iload_n 0 dX5_winnersOn_65 rfl rfl ?_
    exact S_ireturn rfl rfl dX5_winnersOn_66
theorem sm_X5_winnersOn (hs : l.stackTraces = false) (o : Nat) (p1 : Int32) (h : Hp) : ∀ x h1, m_X5_winnersOn  o p1 h = some (x, h1) → SR l G 185 M_X5_winnersOn [.ref o, .int p1] h (some (.int x)) h1 := fun x h1 e => SR.of K_X5_winnersOn hs rfl (Nat.le_of_ble_eq_true rfl) (ss_X5_winnersOn hs o p1 h) e rfl
end
section
variable {l : Launch} {G : Gx}
set_option maxRecDepth 20000 in
set_option maxHeartbeats 4000000 in
theorem sl_X5_chosenMove_L31 (hs : l.stackTraces = false) (u15 : Nat) (u18 : Int32) (u19 : Int32) (k31_125 : Int32 → Int32 → Hp → Option (Int32 × Hp)) (k31_74 : Int32 → Hp → Option (Int32 × Hp)) (hk31_125 : ∀ (v21 : Int32) (v22 : Int32) (h23 : Hp), Sim l G 185 M_X5_chosenMove (fun p : Int32 × Hp => ((.inl (some (.int p.1)) : Oc), p.2)) 125 [(0, .ref u15), (1, .int v21), (2, .int v22), (3, .int u18)] [] h23 (k31_125 v21 v22 h23)) (hk31_74 : ∀ (v24 : Int32) (h25 : Hp), Sim l G 185 M_X5_chosenMove (fun p : Int32 × Hp => ((.inl (some (.int p.1)) : Oc), p.2)) 74 [(3, .int u18), (5, .int v24)] [] h25 (k31_74 v24 h25)) : ∀ (f : Nat) (w16 : Int32) (w17 : Int32) (w20 : Int32) (h : Hp), Sim l G 185 M_X5_chosenMove (fun p : Int32 × Hp => ((.inl (some (.int p.1)) : Oc), p.2)) 31 [(0, .ref u15), (1, .int w16), (2, .int w17), (3, .int u18), (4, .int u19), (5, .int w20)] [] h (m_X5_chosenMove_L31 u15 u18 u19 k31_125 k31_74 f w16 w17 w20 h) := by
  intro f
  induction f with
  | zero => intro w16 w17 w20 h; exact S_none rfl
  | succ f ih =>
    intro w16 w17 w20 h
    rw [m_X5_chosenMove_L31]
    refine S_iload 5 dX5_chosenMove_31 rfl ?_
    refine S_iconst 3 dX5_chosenMove_33 (by decide) ?_
    refine S_icmp_ge 125 dX5_chosenMove_34 (by decide) (fun c49 => ?_) (fun c49 => ?_)
    · exact Sim.sub [0, 1, 2, 3] rfl (hk31_125 w16 w17 h)
    · refine S_iload 4 dX5_chosenMove_37 rfl ?_
      refine S_iload 5 dX5_chosenMove_39 rfl ?_
      refine S_callS_BR (lev' := 0) (My := M_X5_has) [.int u19, .int w20] [] K_X5_has kw_393 kw_319 dX5_chosenMove_41 (by decide) rfl (Nat.le_of_ble_eq_true rfl) (fun xx ee => sm_X5_has hs u19 w20 _ xx ee) (fun bb26 _ => ?_)
      refine S_jK (fun (k30 : Int32 → Int32 → Hp → Option (Int32 × Hp)) => ∀ (v27 : Int32) (v28 : Int32) (h29 : Hp), Sim l G 185 M_X5_chosenMove (fun p : Int32 × Hp => ((.inl (some (.int p.1)) : Oc), p.2)) 119 [(0, .ref u15), (1, .int v27), (2, .int v28), (3, .int u18), (4, .int u19), (5, .int w20)] [] h29 (k30 v27 v28 h29)) ?_ (fun k30 hk30 => ?_)
      · intro v27 v28 h29
        refine S_iincN (c := 1) 5 (fun x31 => [(5, .int x31), (0, .ref u15), (1, .int v27), (2, .int v28), (3, .int u18), (4, .int u19)]) dX5_chosenMove_119 rfl (by decide) (Nat.le_of_ble_eq_true rfl) (fun _ => rfl) (fun x31 => ?_)
        refine S_goto 31 dX5_chosenMove_122 (by decide) ?_
        exact Sim.sub [1, 2, 3, 4, 5, 0] rfl (ih v27 v28 x31 h29)
      refine S_if_eqB 119 dX5_chosenMove_44 (by decide) (fun c48 => ?_) (fun c48 => ?_)
      · exact Sim.sub [0, 1, 2, 3, 4, 5] rfl (hk30 w16 w17 h)
      · refine S_aload_n 0 dX5_chosenMove_47 rfl rfl ?_
        refine S_getR kc5 (k := 1) (by decide) kw_244 dX5_chosenMove_48 (fun a32 _ => ?_)
        refine S_iload_n 3 dX5_chosenMove_51 rfl rfl ?_
        refine S_iload 5 dX5_chosenMove_52 rfl ?_
        refine S_callV_IW (lev' := 184) (My := M_X4_behindLay) [.int u18, .int w20] [] kc4 K_X4_behindLay kw_394 kw_395 kw_396 dX5_chosenMove_54 (by decide) rfl (Nat.le_of_ble_eq_true rfl) (fun xx yy ee => sm_X4_behindLay hs a32 u18 w20 h xx yy ee) (fun x33 h34 _ => ?_)
        refine S_istore [(6, .int x33), (0, .ref u15), (1, .int w16), (2, .int w17), (3, .int u18), (4, .int u19), (5, .int w20)] dX5_chosenMove_57 (Nat.le_of_ble_eq_true rfl) rfl ?_
        refine S_iload 0 dX5_chosenMove_59 rfl ?_
        refine S_callS_IR (lev' := 0) (My := M_X5_valueIn) [.int x33] [] K_X5_valueIn kw_362 kw_341 dX5_chosenMove_61 (by decide) rfl (Nat.le_of_ble_eq_true rfl) (fun xx ee => sm_X5_valueIn hs x33 _ xx ee) (fun x35 _ => ?_)
        refine S_aload_n 1 dX5_chosenMove_64 rfl rfl ?_
        refine S_getR kc5 (k := 0) (by decide) kw_243 dX5_chosenMove_65 (fun a36 _ => ?_)
        refine S_callV_IR (lev' := 0) (My := M_X0_passValue) [] [.int x35] kc0 K_X0_passValue kw_363 kw_364 kw_365 dX5_chosenMove_68 (by decide) rfl (Nat.le_of_ble_eq_true rfl) (fun xx ee => sm_X0_passValue hs a36 h34 xx ee) (fun x37 _ => ?_)
        refine S_icmp_ne 81 dX5_chosenMove_71 (by decide) (fun c47 => ?_) (fun c47 => ?_)
        · refine S_iload 0 dX5_chosenMove_81 rfl ?_
          refine S_callS_IR (lev' := 0) (My := M_X5_longestIn) [.int x33] [] K_X5_longestIn kw_408 kw_344 dX5_chosenMove_83 (by decide) rfl (Nat.le_of_ble_eq_true rfl) (fun xx ee => sm_X5_longestIn hs x33 _ xx ee) (fun x38 _ => ?_)
          refine S_aload_n 1 dX5_chosenMove_86 rfl rfl ?_
          refine S_getR kc5 (k := 0) (by decide) kw_243 dX5_chosenMove_87 (fun a39 _ => ?_)
          refine S_getI kc0 (k := 3) (by decide) kw_132 dX5_chosenMove_90 (fun x40 _ => ?_)
          refine S_iadd dX5_chosenMove_93 ?_
          refine S_iload_n 3 dX5_chosenMove_94 rfl rfl ?_
          refine S_icmp_le 119 dX5_chosenMove_95 (by decide) (fun c46 => ?_) (fun c46 => ?_)
          · exact Sim.sub [1, 2, 3, 4, 5, 6] rfl (hk30 w16 w17 h34)
          · refine S_iload 0 dX5_chosenMove_98 rfl ?_
            refine S_callS_IR (lev' := 0) (My := M_X5_longestIn) [.int x33] [] K_X5_longestIn kw_408 kw_344 dX5_chosenMove_100 (by decide) rfl (Nat.le_of_ble_eq_true rfl) (fun xx ee => sm_X5_longestIn hs x33 _ xx ee) (fun x41 _ => ?_)
            refine S_aload_n 1 dX5_chosenMove_103 rfl rfl ?_
            refine S_getR kc5 (k := 0) (by decide) kw_243 dX5_chosenMove_104 (fun a42 _ => ?_)
            refine S_getI kc0 (k := 3) (by decide) kw_132 dX5_chosenMove_107 (fun x43 _ => ?_)
            refine S_iadd dX5_chosenMove_110 ?_
            refine S_nmI (fun x44 => ?_)
            refine S_istore_n [(2, .int x44), (6, .int x33), (0, .ref u15), (1, .int w16), (3, .int u18), (4, .int u19), (5, .int w20)] dX5_chosenMove_111 rfl (Nat.le_of_ble_eq_true rfl) rfl ?_
            refine S_iconst 4 dX5_chosenMove_112 (by decide) ?_
            refine S_iload_n 4 dX5_chosenMove_113 rfl rfl ?_
            refine S_imul dX5_chosenMove_114 ?_
            refine S_iload 6 dX5_chosenMove_115 rfl ?_
            refine S_iadd dX5_chosenMove_117 ?_
            refine S_nmI (fun x45 => ?_)
            refine S_istore_n [(1, .int x45), (2, .int x44), (6, .int x33), (0, .ref u15), (3, .int u18), (4, .int u19), (5, .int w20)] dX5_chosenMove_118 rfl (Nat.le_of_ble_eq_true rfl) rfl ?_
            exact Sim.sub [3, 0, 1, 4, 5, 6] rfl (hk30 x45 x44 h34)
        · exact Sim.sub [4, 6] rfl (hk31_74 w20 h34)
set_option maxRecDepth 20000 in
set_option maxHeartbeats 4000000 in
theorem sl_X5_chosenMove_L7 (hs : l.stackTraces = false) (u1 : Nat) (k7_131 : Int32 → Int32 → Hp → Option (Int32 × Hp)) (k7_74 : Int32 → Int32 → Hp → Option (Int32 × Hp)) (hk7_131 : ∀ (v5 : Int32) (v6 : Int32) (h7 : Hp), Sim l G 185 M_X5_chosenMove (fun p : Int32 × Hp => ((.inl (some (.int p.1)) : Oc), p.2)) 131 [(0, .ref u1), (1, .int v5), (2, .int v6)] [] h7 (k7_131 v5 v6 h7)) (hk7_74 : ∀ (v8 : Int32) (v9 : Int32) (h10 : Hp), Sim l G 185 M_X5_chosenMove (fun p : Int32 × Hp => ((.inl (some (.int p.1)) : Oc), p.2)) 74 [(3, .int v8), (5, .int v9)] [] h10 (k7_74 v8 v9 h10)) : ∀ (f : Nat) (w2 : Int32) (w3 : Int32) (w4 : Int32) (h : Hp), Sim l G 185 M_X5_chosenMove (fun p : Int32 × Hp => ((.inl (some (.int p.1)) : Oc), p.2)) 7 [(0, .ref u1), (1, .int w2), (2, .int w3), (3, .int w4)] [] h (m_X5_chosenMove_L7 u1 k7_131 k7_74 f w2 w3 w4 h) := by
  intro f
  induction f with
  | zero => intro w2 w3 w4 h; exact S_none rfl
  | succ f ih =>
    intro w2 w3 w4 h
    rw [m_X5_chosenMove_L7]
    refine S_iload_n 3 dX5_chosenMove_7 rfl rfl ?_
    refine S_aload_n 0 dX5_chosenMove_8 rfl rfl ?_
    refine S_getR kc5 (k := 0) (by decide) kw_243 dX5_chosenMove_9 (fun a11 _ => ?_)
    refine S_getI kc0 (k := 2) (by decide) kw_128 dX5_chosenMove_12 (fun x12 _ => ?_)
    refine S_icmp_ge 131 dX5_chosenMove_15 (by decide) (fun c51 => ?_) (fun c51 => ?_)
    · exact Sim.sub [0, 1, 2] rfl (hk7_131 w2 w3 h)
    · refine S_aload_n 0 dX5_chosenMove_18 rfl rfl ?_
      refine S_getR kc5 (k := 0) (by decide) kw_243 dX5_chosenMove_19 (fun a13 _ => ?_)
      refine S_iload_n 3 dX5_chosenMove_22 rfl rfl ?_
      refine S_callV_IR (lev' := 3) (My := M_X0_choicesOn) [.int w4] [] kc0 K_X0_choicesOn kw_379 kw_380 kw_381 dX5_chosenMove_23 (by decide) rfl (Nat.le_of_ble_eq_true rfl) (fun xx ee => sm_X0_choicesOn hs a13 w4 h xx ee) (fun x14 _ => ?_)
      refine S_istore [(4, .int x14), (0, .ref u1), (1, .int w2), (2, .int w3), (3, .int w4)] dX5_chosenMove_26 (Nat.le_of_ble_eq_true rfl) rfl ?_
      refine S_iconst 0 dX5_chosenMove_28 (by decide) ?_
      refine S_istore [(5, .int 0), (4, .int x14), (0, .ref u1), (1, .int w2), (2, .int w3), (3, .int w4)] dX5_chosenMove_29 (Nat.le_of_ble_eq_true rfl) rfl ?_
      refine Sim.sub [2, 3, 4, 5, 1, 0] rfl (sl_X5_chosenMove_L31 hs u1 w4 x14 _ _ ?_ ?_ LF w2 w3 (0 : Int32) h)
      · intro v21 v22 h23
        refine S_iincN (c := 1) 3 (fun x50 => [(3, .int x50), (0, .ref u1), (1, .int v21), (2, .int v22)]) dX5_chosenMove_125 rfl (by decide) (Nat.le_of_ble_eq_true rfl) (fun _ => rfl) (fun x50 => ?_)
        refine S_goto 7 dX5_chosenMove_128 (by decide) ?_
        exact Sim.sub [1, 2, 3, 0] rfl (ih v21 v22 x50 h23)
      · intro v24 h25
        exact Sim.sub [0, 1] rfl (hk7_74 w4 v24 h25)
set_option maxRecDepth 20000 in
set_option maxHeartbeats 4000000 in
theorem ss_X5_chosenMove (hs : l.stackTraces = false) (o : Nat) (h : Hp) : Sim l G 185 M_X5_chosenMove (fun p : Int32 × Hp => ((.inl (some (.int p.1)) : Oc), p.2)) 0 [(0, .ref o)] [] h (m_X5_chosenMove  o h) := by
  rw [m_X5_chosenMove]
  refine S_bipush 100 dX5_chosenMove_0 (by decide) ?_
  refine S_istore_n [(1, .int 100), (0, .ref o)] dX5_chosenMove_2 rfl (Nat.le_of_ble_eq_true rfl) rfl ?_
  refine S_iconst (-1) dX5_chosenMove_3 (by decide) ?_
  refine S_istore_n [(2, .int (-1)), (1, .int 100), (0, .ref o)] dX5_chosenMove_4 rfl (Nat.le_of_ble_eq_true rfl) rfl ?_
  refine S_iconst 0 dX5_chosenMove_5 (by decide) ?_
  refine S_istore_n [(3, .int 0), (2, .int (-1)), (1, .int 100), (0, .ref o)] dX5_chosenMove_6 rfl (Nat.le_of_ble_eq_true rfl) rfl ?_
  refine Sim.sub [3, 2, 1, 0] rfl (sl_X5_chosenMove_L7 hs o _ _ ?_ ?_ LF (100 : Int32) (-1 : Int32) (0 : Int32) h)
  · intro v5 v6 h7
    refine S_aload_n 0 dX5_chosenMove_131 rfl rfl ?_
    refine S_callV_BW (lev' := 184) (My := M_X5_passWins) [] [] kc5 K_X5_passWins kw_371 kw_373 kw_5 dX5_chosenMove_132 (by decide) rfl (Nat.le_of_ble_eq_true rfl) (fun xx yy ee => sm_X5_passWins hs o h7 xx yy ee) (fun bb52 h53 _ => ?_)
    refine S_jK (fun (k56 : Bool → Hp → Option (Int32 × Hp)) => ∀ (v54 : Bool) (h55 : Hp), Sim l G 185 M_X5_chosenMove (fun p : Int32 × Hp => ((.inl (some (.int p.1)) : Oc), p.2)) 153 [(0, .ref o), (1, .int v5)] [.int (bI v54)] h55 (k56 v54 h55)) ?_ (fun k56 hk56 => ?_)
    · intro v54 h55
      refine S_istore_n [(3, .int (bI v54)), (0, .ref o), (1, .int v5)] dX5_chosenMove_153 rfl (Nat.le_of_ble_eq_true rfl) rfl ?_
      refine S_aload_n 1 dX5_chosenMove_154 rfl rfl ?_
      refine S_getR kc5 (k := 0) (by decide) kw_243 dX5_chosenMove_155 (fun a57 _ => ?_)
      refine S_getI kc0 (k := 3) (by decide) kw_132 dX5_chosenMove_158 (fun x58 _ => ?_)
      refine S_if_le 173 dX5_chosenMove_161 (by decide) (fun c60 => ?_) (fun c60 => ?_)
      · refine S_iload_n 2 dX5_chosenMove_173 rfl rfl ?_
        exact S_ireturn rfl rfl dX5_chosenMove_174
      · refine S_iload_n 0 dX5_chosenMove_164 rfl rfl ?_
        refine S_if_eqB 173 dX5_chosenMove_165 (by decide) (fun c59 => ?_) (fun c59 => ?_)
        · refine S_iload_n 2 dX5_chosenMove_173 rfl rfl ?_
          exact S_ireturn rfl rfl dX5_chosenMove_174
        · refine S_bipush 100 dX5_chosenMove_168 (by decide) ?_
          refine S_goto 174 dX5_chosenMove_170 (by decide) ?_
          exact S_ireturn rfl rfl dX5_chosenMove_174
    refine S_if_neB 148 dX5_chosenMove_135 (by decide) (fun c64 => ?_) (fun c64 => ?_)
    · refine S_iconst 1 dX5_chosenMove_148 (by decide) ?_
      refine S_goto 153 dX5_chosenMove_149 (by decide) ?_
      exact Sim.sub [0, 1] rfl (hk56 true h53)
    · refine S_aload_n 0 dX5_chosenMove_138 rfl rfl ?_
      refine S_callV_IW (lev' := 184) (My := M_X5_longest) [] [] kc5 K_X5_longest kw_899 kw_405 kw_406 dX5_chosenMove_139 (by decide) rfl (Nat.le_of_ble_eq_true rfl) (fun xx yy ee => sm_X5_longest hs o h53 xx yy ee) (fun x61 h62 _ => ?_)
      refine S_iconst 1 dX5_chosenMove_142 (by decide) ?_
      refine S_isub dX5_chosenMove_143 ?_
      refine S_iload_n 2 dX5_chosenMove_144 rfl rfl ?_
      refine S_icmp_le 152 dX5_chosenMove_145 (by decide) (fun c63 => ?_) (fun c63 => ?_)
      · refine S_iconst 0 dX5_chosenMove_152 (by decide) ?_
        exact Sim.sub [0, 1] rfl (hk56 false h62)
      · refine S_iconst 1 dX5_chosenMove_148 (by decide) ?_
        refine S_goto 153 dX5_chosenMove_149 (by decide) ?_
        exact Sim.sub [0, 1] rfl (hk56 true h62)
  · intro v8 v9 h10
    refine S_iconst 4 dX5_chosenMove_74 (by decide) ?_
    refine S_iload_n 0 dX5_chosenMove_75 rfl rfl ?_
    refine S_imul dX5_chosenMove_76 ?_
    refine S_iload 1 dX5_chosenMove_77 rfl ?_
    refine S_iadd dX5_chosenMove_79 ?_
    exact S_ireturn rfl rfl dX5_chosenMove_80
theorem sm_X5_chosenMove (hs : l.stackTraces = false) (o : Nat) (h : Hp) : ∀ x h1, m_X5_chosenMove  o h = some (x, h1) → SR l G 185 M_X5_chosenMove [.ref o] h (some (.int x)) h1 := fun x h1 e => SR.of K_X5_chosenMove hs rfl (Nat.le_of_ble_eq_true rfl) (ss_X5_chosenMove hs o h) e rfl
end
section
variable {l : Launch} {G : Gx}
set_option maxRecDepth 20000 in
set_option maxHeartbeats 4000000 in
theorem sl_X5_winningMoves_L15 (hs : l.stackTraces = false) (u5 : Nat) (k15_43 : Int32 → Hp → Option (Int32 × Hp)) (hk15_43 : ∀ (v8 : Int32) (h9 : Hp), Sim l G 186 M_X5_winningMoves (fun p : Int32 × Hp => ((.inl (some (.int p.1)) : Oc), p.2)) 43 [(1, .int v8)] [] h9 (k15_43 v8 h9)) : ∀ (f : Nat) (w6 : Int32) (w7 : Int32) (h : Hp), Sim l G 186 M_X5_winningMoves (fun p : Int32 × Hp => ((.inl (some (.int p.1)) : Oc), p.2)) 15 [(0, .ref u5), (1, .int w6), (2, .int w7)] [] h (m_X5_winningMoves_L15 u5 k15_43 f w6 w7 h) := by
  intro f
  induction f with
  | zero => intro w6 w7 h; exact S_none rfl
  | succ f ih =>
    intro w6 w7 h
    rw [m_X5_winningMoves_L15]
    refine S_iload_n 2 dX5_winningMoves_15 rfl rfl ?_
    refine S_aload_n 0 dX5_winningMoves_16 rfl rfl ?_
    refine S_getR kc5 (k := 0) (by decide) kw_243 dX5_winningMoves_17 (fun a10 _ => ?_)
    refine S_getI kc0 (k := 2) (by decide) kw_128 dX5_winningMoves_20 (fun x11 _ => ?_)
    refine S_icmp_ge 43 dX5_winningMoves_23 (by decide) (fun c17 => ?_) (fun c17 => ?_)
    · exact Sim.sub [1] rfl (hk15_43 w6 h)
    · refine S_iload_n 1 dX5_winningMoves_26 rfl rfl ?_
      refine S_aload_n 0 dX5_winningMoves_27 rfl rfl ?_
      refine S_iload_n 2 dX5_winningMoves_28 rfl rfl ?_
      refine S_callV_IW (lev' := 185) (My := M_X5_winnersOn) [.int w7] [.int w6] kc5 K_X5_winnersOn kw_375 kw_377 kw_6 dX5_winningMoves_29 (by decide) rfl (Nat.le_of_ble_eq_true rfl) (fun xx yy ee => sm_X5_winnersOn hs u5 w7 h xx yy ee) (fun x12 h13 _ => ?_)
      refine S_callS_IR (lev' := 0) (My := M_J6_bitCount) [.int x12] [.int w6] K_J6_bitCount kw_358 kw_285 dX5_winningMoves_32 (by decide) rfl (Nat.le_of_ble_eq_true rfl) (fun xx ee => sm_J6_bitCount hs x12 _ xx ee) (fun x14 _ => ?_)
      refine S_iadd dX5_winningMoves_35 ?_
      refine S_nmI (fun x15 => ?_)
      refine S_istore_n [(1, .int x15), (0, .ref u5), (2, .int w7)] dX5_winningMoves_36 rfl (Nat.le_of_ble_eq_true rfl) rfl ?_
      refine S_iincN (c := 1) 2 (fun x16 => [(2, .int x16), (1, .int x15), (0, .ref u5)]) dX5_winningMoves_37 rfl (by decide) (Nat.le_of_ble_eq_true rfl) (fun _ => rfl) (fun x16 => ?_)
      refine S_goto 15 dX5_winningMoves_40 (by decide) ?_
      exact Sim.sub [2, 1, 0] rfl (ih x15 x16 h13)
set_option maxRecDepth 20000 in
set_option maxHeartbeats 4000000 in
theorem ss_X5_winningMoves (hs : l.stackTraces = false) (o : Nat) (h : Hp) : Sim l G 186 M_X5_winningMoves (fun p : Int32 × Hp => ((.inl (some (.int p.1)) : Oc), p.2)) 0 [(0, .ref o)] [] h (m_X5_winningMoves  o h) := by
  rw [m_X5_winningMoves]
  refine S_aload_n 0 dX5_winningMoves_0 rfl rfl ?_
  refine S_callV_BW (lev' := 184) (My := M_X5_passWins) [] [] kc5 K_X5_passWins kw_371 kw_373 kw_5 dX5_winningMoves_1 (by decide) rfl (Nat.le_of_ble_eq_true rfl) (fun xx yy ee => sm_X5_passWins hs o h xx yy ee) (fun bb1 h2 _ => ?_)
  refine S_jK (fun (k4 : Bool → Option (Int32 × Hp)) => ∀ (v3 : Bool), Sim l G 186 M_X5_winningMoves (fun p : Int32 × Hp => ((.inl (some (.int p.1)) : Oc), p.2)) 12 [(0, .ref o)] [.int (bI v3)] h2 (k4 v3)) ?_ (fun k4 hk4 => ?_)
  · intro v3
    refine S_istore_n [(1, .int (bI v3)), (0, .ref o)] dX5_winningMoves_12 rfl (Nat.le_of_ble_eq_true rfl) rfl ?_
    refine S_iconst 0 dX5_winningMoves_13 (by decide) ?_
    refine S_istore_n [(2, .int 0), (1, .int (bI v3)), (0, .ref o)] dX5_winningMoves_14 rfl (Nat.le_of_ble_eq_true rfl) rfl ?_
    refine Sim.sub [2, 1, 0] rfl (sl_X5_winningMoves_L15 hs o _ ?_ LF (bI v3) (0 : Int32) h2)
    · intro v8 h9
      refine S_iload_n 0 dX5_winningMoves_43 rfl rfl ?_
      exact S_ireturn rfl rfl dX5_winningMoves_44
  refine S_if_eqB 11 dX5_winningMoves_4 (by decide) (fun c18 => ?_) (fun c18 => ?_)
  · refine S_iconst 0 dX5_winningMoves_11 (by decide) ?_
    exact Sim.sub [0] rfl (hk4 false)
  · refine S_iconst 1 dX5_winningMoves_7 (by decide) ?_
    refine S_goto 12 dX5_winningMoves_8 (by decide) ?_
    exact Sim.sub [0] rfl (hk4 true)
theorem sm_X5_winningMoves (hs : l.stackTraces = false) (o : Nat) (h : Hp) : ∀ x h1, m_X5_winningMoves  o h = some (x, h1) → SR l G 186 M_X5_winningMoves [.ref o] h (some (.int x)) h1 := fun x h1 e => SR.of K_X5_winningMoves hs rfl (Nat.le_of_ble_eq_true rfl) (ss_X5_winningMoves hs o h) e rfl
end
section
variable {l : Launch} {G : Gx}
set_option maxRecDepth 20000 in
set_option maxHeartbeats 4000000 in
theorem ss_X5_bestMove (hs : l.stackTraces = false) (o : Nat) (h : Hp) : Sim l G 186 M_X5_bestMove finX 0 [(0, .ref o)] [] h (m_X5_bestMove  o h) := by
  rw [m_X5_bestMove]
  refine S_aload_n 0 dX5_bestMove_0 rfl rfl ?_
  refine S_getR kc5 (k := 0) (by decide) kw_243 dX5_bestMove_1 (fun a1 _ => ?_)
  refine S_callV_BR (lev' := 5) (My := M_X0_isOver) [] [] kc0 K_X0_isOver kw_784 kw_785 kw_786 dX5_bestMove_4 (by decide) rfl (Nat.le_of_ble_eq_true rfl) (fun xx ee => sm_X0_isOver hs a1 h xx ee) (fun bb2 _ => ?_)
  refine S_if_eqB 20 dX5_bestMove_7 (by decide) (fun c5 => ?_) (fun c5 => ?_)
  · refine S_aload_n 0 dX5_bestMove_20 rfl rfl ?_
    refine S_callV_IW (lev' := 185) (My := M_X5_chosenMove) [] [] kc5 K_X5_chosenMove kw_895 kw_897 kw_27 dX5_bestMove_21 (by decide) rfl (Nat.le_of_ble_eq_true rfl) (fun xx yy ee => sm_X5_chosenMove hs o h xx yy ee) (fun x3 h4 _ => ?_)
    exact S_ireturn rfl rfl dX5_bestMove_24
  · exact S_throw3 rfl (by decide +kernel) kw_871 kn_894 kw_881 dX5_bestMove_10 dX5_bestMove_13 dX5_bestMove_14 dX5_bestMove_16 dX5_bestMove_19
end
section
variable {l : Launch} {G : Gx}
set_option maxRecDepth 20000 in
set_option maxHeartbeats 4000000 in
theorem ss_X5_winningColours (hs : l.stackTraces = false) (o : Nat) (p1 : Int32) (h : Hp) : Sim l G 186 M_X5_winningColours finX 0 [(0, .ref o), (1, .int p1)] [] h (m_X5_winningColours  o p1 h) := by
  rw [m_X5_winningColours]
  refine S_aload_n 0 dX5_winningColours_0 rfl rfl ?_
  refine S_getR kc5 (k := 0) (by decide) kw_243 dX5_winningColours_1 (fun a1 _ => ?_)
  refine S_iload_n 1 dX5_winningColours_4 rfl rfl ?_
  refine S_callV_BR (lev' := 0) (My := M_X0_hasVertex) [.int p1] [] kc0 K_X0_hasVertex kw_807 kw_808 kw_809 dX5_winningColours_5 (by decide) rfl (Nat.le_of_ble_eq_true rfl) (fun xx ee => sm_X0_hasVertex hs a1 p1 h xx ee) (fun bb2 _ => ?_)
  refine S_if_neB 21 dX5_winningColours_8 (by decide) (fun c5 => ?_) (fun c5 => ?_)
  · refine S_aload_n 0 dX5_winningColours_21 rfl rfl ?_
    refine S_iload_n 1 dX5_winningColours_22 rfl rfl ?_
    refine S_callV_IW (lev' := 185) (My := M_X5_winnersOn) [.int p1] [] kc5 K_X5_winnersOn kw_375 kw_377 kw_6 dX5_winningColours_23 (by decide) rfl (Nat.le_of_ble_eq_true rfl) (fun xx yy ee => sm_X5_winnersOn hs o p1 h xx yy ee) (fun x3 h4 _ => ?_)
    exact S_ireturn rfl rfl dX5_winningColours_26
  · exact S_throw2 rfl (by decide +kernel) kw_811 kn_820 kw_821 dX5_winningColours_11 dX5_winningColours_14 dX5_winningColours_15 dX5_winningColours_17 dX5_winningColours_20
end
section
variable {l : Launch} {G : Gx}
set_option maxRecDepth 20000 in
set_option maxHeartbeats 4000000 in
theorem sl_X5_playOut_L34 (hs : l.stackTraces = false) (u4 : Nat) (u5 : Int32) (k34_89 : Int32 → Hp → Option ((Int32 ⊕ Nat) × Hp)) (hk34_89 : ∀ (v7 : Int32) (h8 : Hp), Sim l G 186 M_X5_playOut finX 89 [(2, .int v7)] [] h8 (k34_89 v7 h8)) : ∀ (f : Nat) (w6 : Int32) (h : Hp), Sim l G 186 M_X5_playOut finX 34 [(0, .ref u4), (1, .int u5), (2, .int w6)] [] h (m_X5_playOut_L34 u4 u5 k34_89 f w6 h) := by
  intro f
  induction f with
  | zero => intro w6 h; exact S_none rfl
  | succ f ih =>
    intro w6 h
    rw [m_X5_playOut_L34]
    refine S_iload_n 2 dX5_playOut_34 rfl rfl ?_
    refine S_iload_n 1 dX5_playOut_35 rfl rfl ?_
    refine S_icmp_ge 89 dX5_playOut_36 (by decide) (fun c22 => ?_) (fun c22 => ?_)
    · exact Sim.sub [2] rfl (hk34_89 w6 h)
    · refine S_aload_n 0 dX5_playOut_39 rfl rfl ?_
      refine S_getR kc5 (k := 0) (by decide) kw_243 dX5_playOut_40 (fun a9 _ => ?_)
      refine S_callV_BR (lev' := 5) (My := M_X0_isOver) [] [] kc0 K_X0_isOver kw_784 kw_785 kw_786 dX5_playOut_43 (by decide) rfl (Nat.le_of_ble_eq_true rfl) (fun xx ee => sm_X0_isOver hs a9 h xx ee) (fun bb10 _ => ?_)
      refine S_if_neB 89 dX5_playOut_46 (by decide) (fun c21 => ?_) (fun c21 => ?_)
      · exact Sim.sub [2] rfl (hk34_89 w6 h)
      · refine S_aload_n 0 dX5_playOut_49 rfl rfl ?_
        refine S_callV_IW (lev' := 185) (My := M_X5_chosenMove) [] [] kc5 K_X5_chosenMove kw_895 kw_897 kw_27 dX5_playOut_50 (by decide) rfl (Nat.le_of_ble_eq_true rfl) (fun xx yy ee => sm_X5_chosenMove hs u4 h xx yy ee) (fun x11 h12 _ => ?_)
        refine S_istore_n [(3, .int x11), (0, .ref u4), (1, .int u5), (2, .int w6)] dX5_playOut_53 rfl (Nat.le_of_ble_eq_true rfl) rfl ?_
        refine S_iload_n 0 dX5_playOut_54 rfl rfl ?_
        refine S_bipush 100 dX5_playOut_55 (by decide) ?_
        refine S_jK (fun (k14 : Hp → Option ((Int32 ⊕ Nat) × Hp)) => ∀ (h13 : Hp), Sim l G 186 M_X5_playOut finX 83 [(0, .ref u4), (1, .int u5), (2, .int w6)] [] h13 (k14 h13)) ?_ (fun k14 hk14 => ?_)
        · intro h13
          refine S_iincN (c := 1) 2 (fun x15 => [(2, .int x15), (0, .ref u4), (1, .int u5)]) dX5_playOut_83 rfl (by decide) (Nat.le_of_ble_eq_true rfl) (fun _ => rfl) (fun x15 => ?_)
          refine S_goto 34 dX5_playOut_86 (by decide) ?_
          exact Sim.sub [1, 2, 0] rfl (ih x15 h13)
        refine S_icmp_ne 70 dX5_playOut_57 (by decide) (fun c20 => ?_) (fun c20 => ?_)
        · refine S_aload_n 1 dX5_playOut_70 rfl rfl ?_
          refine S_getR kc5 (k := 0) (by decide) kw_243 dX5_playOut_71 (fun a16 _ => ?_)
          refine S_iload_n 0 dX5_playOut_74 rfl rfl ?_
          refine S_iconst 4 dX5_playOut_75 (by decide) ?_
          refine S_idivC dX5_playOut_76 (by decide) ?_
          refine S_iload_n 0 dX5_playOut_77 rfl rfl ?_
          refine S_iconst 4 dX5_playOut_78 (by decide) ?_
          refine S_iremC dX5_playOut_79 (by decide) ?_
          refine S_callV_VW (lev' := 3) (My := M_X0_paint) [.int (jdiv x11 (4 : Int32)), .int (jrem x11 (4 : Int32))] [] kc0 K_X0_paint kw_934 kw_709 kw_710 dX5_playOut_80 (by decide) rfl (Nat.le_of_ble_eq_true rfl) (fun xx ee => sm_X0_paint hs a16 (jdiv x11 (4 : Int32)) (jrem x11 (4 : Int32)) h12 xx ee) (fun h17 _ => ?_)
          exact Sim.sub [1, 2, 3] rfl (hk14 h17)
        · refine S_aload_n 1 dX5_playOut_60 rfl rfl ?_
          refine S_getR kc5 (k := 0) (by decide) kw_243 dX5_playOut_61 (fun a18 _ => ?_)
          refine S_callV_VW (lev' := 3) (My := M_X0_spendPass) [] [] kc0 K_X0_spendPass kw_943 kw_746 kw_747 dX5_playOut_64 (by decide) rfl (Nat.le_of_ble_eq_true rfl) (fun xx ee => sm_X0_spendPass hs a18 h12 xx ee) (fun h19 _ => ?_)
          refine S_goto 83 dX5_playOut_67 (by decide) ?_
          exact Sim.sub [1, 2, 3] rfl (hk14 h19)
set_option maxRecDepth 20000 in
set_option maxHeartbeats 4000000 in
theorem ss_X5_playOut (hs : l.stackTraces = false) (o : Nat) (p1 : Int32) (h : Hp) : Sim l G 186 M_X5_playOut finX 0 [(0, .ref o), (1, .int p1)] [] h (m_X5_playOut  o p1 h) := by
  rw [m_X5_playOut]
  refine S_iload_n 1 dX5_playOut_0 rfl rfl ?_
  refine S_iconst 1 dX5_playOut_1 (by decide) ?_
  refine S_icmp_lt 11 dX5_playOut_2 (by decide) (fun c24 => ?_) (fun c24 => ?_)
  · exact S_throw1 rfl (by decide +kernel) kw_536 kn_951 kw_546 dX5_playOut_11 dX5_playOut_14 dX5_playOut_15 dX5_playOut_17 dX5_playOut_20
  · refine S_iload_n 1 dX5_playOut_5 rfl rfl ?_
    refine S_bipush 20 dX5_playOut_6 (by decide) ?_
    refine S_icmp_le 21 dX5_playOut_8 (by decide) (fun c23 => ?_) (fun c23 => ?_)
    · refine S_aload_n 0 dX5_playOut_21 rfl rfl ?_
      refine S_getR kc5 (k := 3) (by decide) kw_246 dX5_playOut_22 (fun a1 _ => ?_)
      refine S_aload_n 0 dX5_playOut_25 rfl rfl ?_
      refine S_getR kc5 (k := 0) (by decide) kw_243 dX5_playOut_26 (fun a2 _ => ?_)
      refine S_callV_VW (lev' := 3) (My := M_X1_keep) [.ref a2] [] kc1 K_X1_keep kw_753 kw_754 kw_755 dX5_playOut_29 (by decide) rfl (Nat.le_of_ble_eq_true rfl) (fun xx ee => sm_X1_keep hs a1 a2 h xx ee) (fun h3 _ => ?_)
      refine S_iconst 0 dX5_playOut_32 (by decide) ?_
      refine S_istore_n [(2, .int 0), (0, .ref o), (1, .int p1)] dX5_playOut_33 rfl (Nat.le_of_ble_eq_true rfl) rfl ?_
      refine Sim.sub [1, 2, 0] rfl (sl_X5_playOut_L34 hs o p1 _ ?_ LF (0 : Int32) h3)
      · intro v7 h8
        refine S_iload_n 0 dX5_playOut_89 rfl rfl ?_
        exact S_ireturn rfl rfl dX5_playOut_90
    · exact S_throw1 rfl (by decide +kernel) kw_536 kn_951 kw_546 dX5_playOut_11 dX5_playOut_14 dX5_playOut_15 dX5_playOut_17 dX5_playOut_20
end
