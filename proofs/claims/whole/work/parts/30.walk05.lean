/-! printed by wip/whole/emit.py: walks -/
section
variable {l : Launch} {G : Gx}
set_option maxRecDepth 20000 in
set_option maxHeartbeats 4000000 in
theorem ss_X5_account (hs : l.stackTraces = false) (o : Nat) (p1 : Int32) (p2 : Int32) (h : Hp) : Sim l G 2 M_X5_account finX 0 [(0, .ref o), (1, .int p1), (2, .int p2)] [] h (m_X5_account  o p1 p2 h) := by
  rw [m_X5_account]
  refine S_iload_n 1 dX5_account_0 rfl rfl ?_
  refine S_if_lt 9 dX5_account_1 (by decide) (fun c10 => ?_) (fun c10 => ?_)
  · exact S_throwW2 rfl (by decide +kernel) kw_811 kn_980 kw_821 dX5_account_9 dX5_account_12 dX5_account_13 dX5_account_16 dX5_account_19
  · refine S_iload_n 1 dX5_account_4 rfl rfl ?_
    refine S_iconst 1 dX5_account_5 (by decide) ?_
    refine S_icmp_le 20 dX5_account_6 (by decide) (fun c9 => ?_) (fun c9 => ?_)
    · refine S_iload_n 2 dX5_account_20 rfl rfl ?_
      refine S_if_lt 29 dX5_account_21 (by decide) (fun c8 => ?_) (fun c8 => ?_)
      · exact S_throwW1 rfl (by decide +kernel) kw_536 kn_981 kw_546 dX5_account_29 dX5_account_32 dX5_account_33 dX5_account_36 dX5_account_39
      · refine S_iload_n 2 dX5_account_24 rfl rfl ?_
        refine S_iconst 4 dX5_account_25 (by decide) ?_
        refine S_icmp_le 40 dX5_account_26 (by decide) (fun c7 => ?_) (fun c7 => ?_)
        · refine S_iload_n 2 dX5_account_40 rfl rfl ?_
          refine S_iconst 4 dX5_account_41 (by decide) ?_
          refine S_icmp_ne 59 dX5_account_42 (by decide) (fun c6 => ?_) (fun c6 => ?_)
          · refine S_aload_n 0 dX5_account_59 rfl rfl ?_
            refine S_getR kc5 (k := 0) (by decide) kw_243 dX5_account_60 (fun a1 _ => ?_)
            refine S_iload_n 1 dX5_account_63 rfl rfl ?_
            refine S_iload_n 2 dX5_account_64 rfl rfl ?_
            refine S_callV_IR (lev' := 1) (My := M_X0_movesBy) [.int p1, .int p2] [] kc0 K_X0_movesBy kw_986 kw_987 kw_988 dX5_account_65 (by decide) rfl (Nat.le_of_ble_eq_true rfl) (fun xx ee => sm_X0_movesBy hs a1 p1 p2 h xx ee) (fun x2 _ => ?_)
            exact S_ireturn rfl rfl dX5_account_68
          · refine S_aload_n 0 dX5_account_45 rfl rfl ?_
            refine S_getR kc5 (k := 0) (by decide) kw_243 dX5_account_46 (fun a3 _ => ?_)
            refine S_iload_n 1 dX5_account_49 rfl rfl ?_
            refine S_callV_IR (lev' := 0) (My := M_X0_coloursLaidBy) [.int p1] [] kc0 K_X0_coloursLaidBy kw_982 kw_983 kw_984 dX5_account_50 (by decide) rfl (Nat.le_of_ble_eq_true rfl) (fun xx ee => sm_X0_coloursLaidBy hs a3 p1 h xx ee) (fun x4 _ => ?_)
            refine S_callS_IR (lev' := 0) (My := M_J6_bitCount) [.int x4] [] K_J6_bitCount kw_358 kw_285 dX5_account_53 (by decide) rfl (Nat.le_of_ble_eq_true rfl) (fun xx ee => sm_J6_bitCount hs x4 _ xx ee) (fun x5 _ => ?_)
            refine S_goto 68 dX5_account_56 (by decide) ?_
            exact S_ireturn rfl rfl dX5_account_68
        · exact S_throwW1 rfl (by decide +kernel) kw_536 kn_981 kw_546 dX5_account_29 dX5_account_32 dX5_account_33 dX5_account_36 dX5_account_39
    · exact S_throwW2 rfl (by decide +kernel) kw_811 kn_980 kw_821 dX5_account_9 dX5_account_12 dX5_account_13 dX5_account_16 dX5_account_19
end
section
variable {l : Launch} {G : Gx}
set_option maxRecDepth 20000 in
set_option maxHeartbeats 4000000 in
theorem ss_X5_keepCopy (hs : l.stackTraces = false) (p0 : Nat) (p1 : Int32) (p2 : Nat) (h : Hp) : Sim l G 2 M_X5_keepCopy (fun v : Hp => ((.inl none : Oc), v)) 0 [(0, .ref p0), (1, .int p1), (2, .ref p2)] [] h (m_X5_keepCopy  p0 p1 p2 h) := by
  rw [m_X5_keepCopy]
  refine S_iload_n 1 dX5_keepCopy_0 rfl rfl ?_
  refine S_if_lt 39 dX5_keepCopy_1 (by decide) (fun c15 => ?_) (fun c15 => ?_)
  · exact S_return rfl rfl dX5_keepCopy_39
  · refine S_iload_n 1 dX5_keepCopy_4 rfl rfl ?_
    refine S_aload_n 0 dX5_keepCopy_5 rfl rfl ?_
    refine S_alen (t := 4) (ty := .object "ColourDuel$Board") rfl dX5_keepCopy_6 (fun x1 _ => ?_)
    refine S_icmp_ge 39 dX5_keepCopy_7 (by decide) (fun c14 => ?_) (fun c14 => ?_)
    · exact S_return rfl rfl dX5_keepCopy_39
    · refine S_aload_n 0 dX5_keepCopy_10 rfl rfl ?_
      refine S_iload_n 1 dX5_keepCopy_11 rfl rfl ?_
      refine S_aaload dX5_keepCopy_12 (fun q2 _ => ?_)
      refine S_jK (fun (k5 : (Option Nat) → Hp → Option Hp) => ∀ (v3 : (Option Nat)) (h4 : Hp), Sim l G 2 M_X5_keepCopy (fun v : Hp => ((.inl none : Oc), v)) 29 [(0, .ref p0), (1, .int p1), (2, .ref p2)] [va_rf v3] h4 (k5 v3 h4)) ?_ (fun k5 hk5 => ?_)
      · intro v3 h4
        refine S_qstore_n [(3, va_rf v3), (0, .ref p0), (1, .int p1), (2, .ref p2)] dX5_keepCopy_29 rfl (Nat.le_of_ble_eq_true rfl) (by cases v3 <;> rfl) ?_
        refine S_qload_n 0 dX5_keepCopy_30 rfl rfl ?_
        refine S_aload_n 3 dX5_keepCopy_31 rfl rfl ?_
        refine S_deref (fun a6 ha6 => ?_)
        subst ha6
        refine S_callV_VW (lev' := 1) (My := M_X0_takeFrom) [.ref p2] [] kc0 K_X0_takeFrom kw_761 kw_762 kw_763 dX5_keepCopy_32 (by decide) rfl (Nat.le_of_ble_eq_true rfl) (fun xx ee => sm_X0_takeFrom hs a6 p2 h4 xx ee) (fun h7 _ => ?_)
        refine S_aload_n 1 dX5_keepCopy_35 rfl rfl ?_
        refine S_iload_n 2 dX5_keepCopy_36 rfl rfl ?_
        refine S_aload_n 0 dX5_keepCopy_37 rfl rfl ?_
        refine S_aastore dX5_keepCopy_38 (fun h8 _ => ?_)
        exact S_return rfl rfl dX5_keepCopy_39
      refine S_ifnonnull 26 dX5_keepCopy_13 (by decide) ?_ ?_
      · intro a9 ha9
        subst ha9
        refine S_aload_n 0 dX5_keepCopy_26 rfl rfl ?_
        refine S_iload_n 1 dX5_keepCopy_27 rfl rfl ?_
        refine S_aaload dX5_keepCopy_28 (fun q10 _ => ?_)
        exact Sim.sub [0, 1, 2] rfl (hk5 q10 h)
      · intro _
        refine S_newN kc0 rfl kd0 kw_242 kw_117 kw_84 dX5_keepCopy_16 (fun a11 h12 => ?_)
        refine S_dup dX5_keepCopy_19 rfl ?_
        refine S_callI_VW (lev' := 0) (My := M_X0_init) [] [.ref a11] K_X0_init rfl rfl kw_760 kw_119 dX5_keepCopy_20 (by decide) rfl (Nat.le_of_ble_eq_true rfl) (fun xx ee => sm_X0_init hs a11 h12 xx ee) (fun h13 _ => ?_)
        refine S_goto 29 dX5_keepCopy_23 (by decide) ?_
        exact Sim.sub [0, 1, 2] rfl (hk5 (some a11) h13)
theorem sm_X5_keepCopy (hs : l.stackTraces = false) (p0 : Nat) (p1 : Int32) (p2 : Nat) (h : Hp) : ∀ h1, m_X5_keepCopy  p0 p1 p2 h = some h1 → SR l G 2 M_X5_keepCopy [.ref p0, .int p1, .ref p2] h none h1 := fun h1 e => SR.of K_X5_keepCopy hs rfl (Nat.le_of_ble_eq_true rfl) (ss_X5_keepCopy hs p0 p1 p2 h) e rfl
end
section
variable {l : Launch} {G : Gx}
set_option maxRecDepth 20000 in
set_option maxHeartbeats 4000000 in
theorem ss_X6_must (hs : l.stackTraces = false) (o : Nat) (p1 : Bool) (h : Hp) : Sim l G 2 M_X6_must (fun v : Hp => ((.inl none : Oc), v)) 0 [(0, .ref o), (1, .int (bI p1))] [] h (m_X6_must  o p1 h) := by
  rw [m_X6_must]
  refine S_iload_n 1 dX6_must_0 rfl rfl ?_
  refine S_jK (fun (k2 : Hp → Option Hp) => ∀ (h1 : Hp), Sim l G 2 M_X6_must (fun v : Hp => ((.inl none : Oc), v)) 10 [(0, .ref o)] [] h1 (k2 h1)) ?_ (fun k2 hk2 => ?_)
  · intro h1
    refine S_aload_n 0 dX6_must_10 rfl rfl ?_
    refine S_getI kc6 (k := 15) (by decide) kw_1055 dX6_must_11 (fun x3 _ => ?_)
    refine S_if_ne 21 dX6_must_14 (by decide) (fun c5 => ?_) (fun c5 => ?_)
    · exact S_return rfl rfl dX6_must_21
    · refine S_aload_n 0 dX6_must_17 rfl rfl ?_
      refine S_callV_VW (lev' := 1) (My := M_X6_next) [] [] kc6 K_X6_next kw_1130 kw_1132 kw_28 dX6_must_18 (by decide) rfl (Nat.le_of_ble_eq_true rfl) (fun xx ee => sm_X6_next hs o h1 xx ee) (fun h4 _ => ?_)
      exact S_return rfl rfl dX6_must_21
  refine S_if_neB 10 dX6_must_1 (by decide) (fun c7 => ?_) (fun c7 => ?_)
  · exact Sim.sub [0] rfl (hk2 h)
  · refine S_aload_n 0 dX6_must_4 rfl rfl ?_
    refine S_bipush (-2) dX6_must_5 (by decide) ?_
    refine S_callV_VW (lev' := 0) (My := M_X6_fails) [.int (-2)] [] kc6 K_X6_fails kw_1153 kw_1155 kw_33 dX6_must_7 (by decide) rfl (Nat.le_of_ble_eq_true rfl) (fun xx ee => sm_X6_fails hs o (-2 : Int32) h xx ee) (fun h6 _ => ?_)
    exact Sim.sub [0] rfl (hk2 h6)
theorem sm_X6_must (hs : l.stackTraces = false) (o : Nat) (p1 : Bool) (h : Hp) : ∀ h1, m_X6_must  o p1 h = some h1 → SR l G 2 M_X6_must [.ref o, .int (bI p1)] h none h1 := fun h1 e => SR.of K_X6_must hs rfl (Nat.le_of_ble_eq_true rfl) (ss_X6_must hs o p1 h) e rfl
end
section
variable {l : Launch} {G : Gx}
set_option maxRecDepth 20000 in
set_option maxHeartbeats 4000000 in
theorem ss_X6_takes (hs : l.stackTraces = false) (o : Nat) (p1 : Int32) (p2 : Int32) (h : Hp) : Sim l G 2 M_X6_takes (fun p : Int32 × Hp => ((.inl (some (.int p.1)) : Oc), p.2)) 0 [(0, .ref o), (1, .int p1), (2, .int p2)] [] h (m_X6_takes  o p1 p2 h) := by
  rw [m_X6_takes]
  refine S_aload_n 0 dX6_takes_0 rfl rfl ?_
  refine S_getI kc6 (k := 15) (by decide) kw_1055 dX6_takes_1 (fun x1 _ => ?_)
  refine S_jK (fun (k3 : Hp → Option (Int32 × Hp)) => ∀ (h2 : Hp), Sim l G 2 M_X6_takes (fun p : Int32 × Hp => ((.inl (some (.int p.1)) : Oc), p.2)) 49 [(0, .ref o)] [] h2 (k3 h2)) ?_ (fun k3 hk3 => ?_)
  · intro h2
    refine S_aload_n 0 dX6_takes_49 rfl rfl ?_
    refine S_getI kc6 (k := 15) (by decide) kw_1055 dX6_takes_50 (fun x4 _ => ?_)
    refine S_jK (fun (k6 : Int32 → Option (Int32 × Hp)) => ∀ (v5 : Int32), Sim l G 2 M_X6_takes (fun p : Int32 × Hp => ((.inl (some (.int p.1)) : Oc), p.2)) 64 [(0, .ref o)] [.int v5] h2 (k6 v5)) ?_ (fun k6 hk6 => ?_)
    · intro v5
      refine S_istore_n [(3, .int v5), (0, .ref o)] dX6_takes_64 rfl (Nat.le_of_ble_eq_true rfl) rfl ?_
      refine S_aload_n 1 dX6_takes_65 rfl rfl ?_
      refine S_getI kc6 (k := 15) (by decide) kw_1055 dX6_takes_66 (fun x7 _ => ?_)
      refine S_if_ne 76 dX6_takes_69 (by decide) (fun c9 => ?_) (fun c9 => ?_)
      · refine S_iload_n 0 dX6_takes_76 rfl rfl ?_
        exact S_ireturn rfl rfl dX6_takes_77
      · refine S_aload_n 1 dX6_takes_72 rfl rfl ?_
        refine S_callV_VW (lev' := 1) (My := M_X6_next) [] [] kc6 K_X6_next kw_1130 kw_1132 kw_28 dX6_takes_73 (by decide) rfl (Nat.le_of_ble_eq_true rfl) (fun xx ee => sm_X6_next hs o h2 xx ee) (fun h8 _ => ?_)
        refine S_iload_n 0 dX6_takes_76 rfl rfl ?_
        exact S_ireturn rfl rfl dX6_takes_77
    refine S_if_ne 63 dX6_takes_53 (by decide) (fun c11 => ?_) (fun c11 => ?_)
    · refine S_iconst 0 dX6_takes_63 (by decide) ?_
      exact Sim.sub [0] rfl (hk6 (0 : Int32))
    · refine S_aload_n 0 dX6_takes_56 rfl rfl ?_
      refine S_getI kc6 (k := 14) (by decide) kw_1054 dX6_takes_57 (fun x10 _ => ?_)
      refine S_goto 64 dX6_takes_60 (by decide) ?_
      exact Sim.sub [0] rfl (hk6 x10)
  refine S_jK (fun (k12 : Option (Int32 × Hp)) => Sim l G 2 M_X6_takes (fun p : Int32 × Hp => ((.inl (some (.int p.1)) : Oc), p.2)) 24 [(0, .ref o), (1, .int p1), (2, .int p2)] [] h (k12)) ?_ (fun k12 hk12 => ?_)
  · refine S_aload_n 0 dX6_takes_24 rfl rfl ?_
    refine S_getI kc6 (k := 15) (by decide) kw_1055 dX6_takes_25 (fun x13 _ => ?_)
    refine S_if_ne 49 dX6_takes_28 (by decide) (fun c18 => ?_) (fun c18 => ?_)
    · exact Sim.sub [0] rfl (hk3 h)
    · refine S_aload_n 0 dX6_takes_31 rfl rfl ?_
      refine S_getI kc6 (k := 14) (by decide) kw_1054 dX6_takes_32 (fun x14 _ => ?_)
      refine S_iload_n 1 dX6_takes_35 rfl rfl ?_
      refine S_iload_n 2 dX6_takes_36 rfl rfl ?_
      refine S_callS_BR (lev' := 0) (My := M_X6_isIn) [.int x14, .int p1, .int p2] [] K_X6_isIn kw_1127 kw_1128 dX6_takes_37 (by decide) rfl (Nat.le_of_ble_eq_true rfl) (fun xx ee => sm_X6_isIn hs x14 p1 p2 _ xx ee) (fun bb15 _ => ?_)
      refine S_if_neB 49 dX6_takes_40 (by decide) (fun c17 => ?_) (fun c17 => ?_)
      · exact Sim.sub [0] rfl (hk3 h)
      · refine S_aload_n 0 dX6_takes_43 rfl rfl ?_
        refine S_bipush (-3) dX6_takes_44 (by decide) ?_
        refine S_callV_VW (lev' := 0) (My := M_X6_fails) [.int (-3)] [] kc6 K_X6_fails kw_1153 kw_1155 kw_33 dX6_takes_46 (by decide) rfl (Nat.le_of_ble_eq_true rfl) (fun xx ee => sm_X6_fails hs o (-3 : Int32) h xx ee) (fun h16 _ => ?_)
        exact Sim.sub [0] rfl (hk3 h16)
  refine S_if_ne 24 dX6_takes_4 (by decide) (fun c22 => ?_) (fun c22 => ?_)
  · exact Sim.sub [0, 1, 2] rfl (hk12)
  · refine S_aload_n 0 dX6_takes_7 rfl rfl ?_
    refine S_getI kc6 (k := 13) (by decide) kw_1053 dX6_takes_8 (fun x19 _ => ?_)
    refine S_iconst 1 dX6_takes_11 (by decide) ?_
    refine S_icmp_eq 24 dX6_takes_12 (by decide) (fun c21 => ?_) (fun c21 => ?_)
    · exact Sim.sub [0, 1, 2] rfl (hk12)
    · refine S_aload_n 0 dX6_takes_15 rfl rfl ?_
      refine S_bipush (-2) dX6_takes_16 (by decide) ?_
      refine S_callV_VW (lev' := 0) (My := M_X6_fails) [.int (-2)] [] kc6 K_X6_fails kw_1153 kw_1155 kw_33 dX6_takes_18 (by decide) rfl (Nat.le_of_ble_eq_true rfl) (fun xx ee => sm_X6_fails hs o (-2 : Int32) h xx ee) (fun h20 _ => ?_)
      refine S_goto 49 dX6_takes_21 (by decide) ?_
      exact Sim.sub [0] rfl (hk3 h20)
theorem sm_X6_takes (hs : l.stackTraces = false) (o : Nat) (p1 : Int32) (p2 : Int32) (h : Hp) : ∀ x h1, m_X6_takes  o p1 p2 h = some (x, h1) → SR l G 2 M_X6_takes [.ref o, .int p1, .int p2] h (some (.int x)) h1 := fun x h1 e => SR.of K_X6_takes hs rfl (Nat.le_of_ble_eq_true rfl) (ss_X6_takes hs o p1 p2 h) e rfl
end
section
variable {l : Launch} {G : Gx}
set_option maxRecDepth 20000 in
set_option maxHeartbeats 4000000 in
theorem sl_X6_partSet_L10 (hs : l.stackTraces = false) (u2 : Nat) (u3 : Int32) (u4 : Int32) (h : Hp) (k10_40 : Int32 → Option Int32) (hk10_40 : ∀ (v7 : Int32), Sim l G 2 M_X6_partSet (fun v : Int32 => ((.inl (some (.int v)) : Oc), h)) 40 [(0, .ref u2), (2, .int u4), (3, .int v7)] [] h (k10_40 v7)) : ∀ (f : Nat) (w5 : Int32) (w6 : Int32), Sim l G 2 M_X6_partSet (fun v : Int32 => ((.inl (some (.int v)) : Oc), h)) 10 [(0, .ref u2), (1, .int u3), (2, .int u4), (3, .int w5), (4, .int w6)] [] h (m_X6_partSet_L10 u2 u3 u4 h k10_40 f w5 w6) := by
  intro f
  induction f with
  | zero => intro w5 w6; exact S_none rfl
  | succ f ih =>
    intro w5 w6
    rw [m_X6_partSet_L10]
    refine S_iload 4 dX6_partSet_10 rfl ?_
    refine S_iload_n 1 dX6_partSet_12 rfl rfl ?_
    refine S_icmp_ge 40 dX6_partSet_13 (by decide) (fun c13 => ?_) (fun c13 => ?_)
    · exact Sim.sub [0, 2, 3] rfl (hk10_40 w5)
    · refine S_iload_n 3 dX6_partSet_16 rfl rfl ?_
      refine S_if_le 40 dX6_partSet_17 (by decide) (fun c12 => ?_) (fun c12 => ?_)
      · exact Sim.sub [0, 2, 3] rfl (hk10_40 w5)
      · refine S_iload_n 3 dX6_partSet_20 rfl rfl ?_
        refine S_aload_n 0 dX6_partSet_21 rfl rfl ?_
        refine S_iload_n 3 dX6_partSet_22 rfl rfl ?_
        refine S_callS_IR (lev' := 0) (My := M_X6_lowest) [.int w5] [.ref u2, .int w5] K_X6_lowest kw_1241 kw_1242 dX6_partSet_23 (by decide) rfl (Nat.le_of_ble_eq_true rfl) (fun xx ee => sm_X6_lowest hs w5 _ xx ee) (fun x8 _ => ?_)
        refine S_iload_n 2 dX6_partSet_26 rfl rfl ?_
        refine S_callV_IR (lev' := 0) (My := M_X6_reached) [.int x8, .int u4] [.int w5] kc6 K_X6_reached kw_1218 kw_1220 kw_48 dX6_partSet_27 (by decide) rfl (Nat.le_of_ble_eq_true rfl) (fun xx ee => sm_X6_reached hs u2 x8 u4 h xx ee) (fun x9 _ => ?_)
        refine S_iconst (-1) dX6_partSet_30 (by decide) ?_
        refine S_ixor dX6_partSet_31 ?_
        refine S_iand dX6_partSet_32 ?_
        refine S_nmI (fun x10 => ?_)
        refine S_istore_n [(3, .int x10), (0, .ref u2), (1, .int u3), (2, .int u4), (4, .int w6)] dX6_partSet_33 rfl (Nat.le_of_ble_eq_true rfl) rfl ?_
        refine S_iincN (c := 1) 4 (fun x11 => [(4, .int x11), (3, .int x10), (0, .ref u2), (1, .int u3), (2, .int u4)]) dX6_partSet_34 rfl (by decide) (Nat.le_of_ble_eq_true rfl) (fun _ => rfl) (fun x11 => ?_)
        refine S_goto 10 dX6_partSet_37 (by decide) ?_
        exact Sim.sub [2, 3, 4, 1, 0] rfl (ih x10 x11)
set_option maxRecDepth 20000 in
set_option maxHeartbeats 4000000 in
theorem ss_X6_partSet (hs : l.stackTraces = false) (o : Nat) (p1 : Int32) (h : Hp) : Sim l G 2 M_X6_partSet (fun v : Int32 => ((.inl (some (.int v)) : Oc), h)) 0 [(0, .ref o), (1, .int p1)] [] h (m_X6_partSet  o p1 h) := by
  rw [m_X6_partSet]
  refine S_aload_n 0 dX6_partSet_0 rfl rfl ?_
  refine S_callV_IR (lev' := 1) (My := M_X6_freeSet) [] [] kc6 K_X6_freeSet kw_1214 kw_1216 kw_47 dX6_partSet_1 (by decide) rfl (Nat.le_of_ble_eq_true rfl) (fun xx ee => sm_X6_freeSet hs o h xx ee) (fun x1 _ => ?_)
  refine S_istore_n [(2, .int x1), (0, .ref o), (1, .int p1)] dX6_partSet_4 rfl (Nat.le_of_ble_eq_true rfl) rfl ?_
  refine S_iload_n 0 dX6_partSet_5 rfl rfl ?_
  refine S_istore_n [(3, .int x1), (2, .int x1), (0, .ref o), (1, .int p1)] dX6_partSet_6 rfl (Nat.le_of_ble_eq_true rfl) rfl ?_
  refine S_iconst 0 dX6_partSet_7 (by decide) ?_
  refine S_istore [(4, .int 0), (3, .int x1), (2, .int x1), (0, .ref o), (1, .int p1)] dX6_partSet_8 (Nat.le_of_ble_eq_true rfl) rfl ?_
  refine Sim.sub [3, 4, 2, 1, 0] rfl (sl_X6_partSet_L10 hs o p1 x1 h _ ?_ LF x1 (0 : Int32))
  · intro v7
    refine S_iload_n 2 dX6_partSet_40 rfl rfl ?_
    refine S_if_ne 48 dX6_partSet_41 (by decide) (fun c16 => ?_) (fun c16 => ?_)
    · refine S_aload_n 0 dX6_partSet_48 rfl rfl ?_
      refine S_iload_n 2 dX6_partSet_49 rfl rfl ?_
      refine S_callS_IR (lev' := 0) (My := M_X6_lowest) [.int v7] [.ref o] K_X6_lowest kw_1241 kw_1242 dX6_partSet_50 (by decide) rfl (Nat.le_of_ble_eq_true rfl) (fun xx ee => sm_X6_lowest hs v7 _ xx ee) (fun x14 _ => ?_)
      refine S_iload_n 1 dX6_partSet_53 rfl rfl ?_
      refine S_callV_IR (lev' := 0) (My := M_X6_reached) [.int x14, .int x1] [] kc6 K_X6_reached kw_1218 kw_1220 kw_48 dX6_partSet_54 (by decide) rfl (Nat.le_of_ble_eq_true rfl) (fun xx ee => sm_X6_reached hs o x14 x1 h xx ee) (fun x15 _ => ?_)
      exact S_ireturn rfl rfl dX6_partSet_57
    · refine S_iconst 0 dX6_partSet_44 (by decide) ?_
      refine S_goto 57 dX6_partSet_45 (by decide) ?_
      exact S_ireturn rfl rfl dX6_partSet_57
theorem sm_X6_partSet (hs : l.stackTraces = false) (o : Nat) (p1 : Int32) (h : Hp) : ∀ x, m_X6_partSet  o p1 h = some x → SR l G 2 M_X6_partSet [.ref o, .int p1] h (some (.int x)) h := fun x e => SR.of K_X6_partSet hs rfl (Nat.le_of_ble_eq_true rfl) (ss_X6_partSet hs o p1 h) e rfl
end
section
variable {l : Launch} {G : Gx}
set_option maxRecDepth 20000 in
set_option maxHeartbeats 4000000 in
theorem sl_X6_partOf_L10 (hs : l.stackTraces = false) (u2 : Nat) (u3 : Int32) (u4 : Int32) (h : Hp) (k10_50 : Int32 → Option Int32) (hk10_50 : ∀ (v7 : Int32), Sim l G 2 M_X6_partOf (fun v : Int32 => ((.inl (some (.int v)) : Oc), h)) 50 [(3, .int v7)] [] h (k10_50 v7)) : ∀ (f : Nat) (w5 : Int32) (w6 : Int32), Sim l G 2 M_X6_partOf (fun v : Int32 => ((.inl (some (.int v)) : Oc), h)) 10 [(0, .ref u2), (1, .int u3), (2, .int u4), (3, .int w5), (4, .int w6)] [] h (m_X6_partOf_L10 u2 u3 u4 h k10_50 f w5 w6) := by
  intro f
  induction f with
  | zero => intro w5 w6; exact S_none rfl
  | succ f ih =>
    intro w5 w6
    rw [m_X6_partOf_L10]
    refine S_aload_n 0 dX6_partOf_10 rfl rfl ?_
    refine S_iload 4 dX6_partOf_11 rfl ?_
    refine S_callS_IR (lev' := 0) (My := M_X6_lowest) [.int w6] [.ref u2] K_X6_lowest kw_1241 kw_1242 dX6_partOf_13 (by decide) rfl (Nat.le_of_ble_eq_true rfl) (fun xx ee => sm_X6_lowest hs w6 _ xx ee) (fun x8 _ => ?_)
    refine S_iload_n 2 dX6_partOf_16 rfl rfl ?_
    refine S_callV_IR (lev' := 0) (My := M_X6_reached) [.int x8, .int u4] [] kc6 K_X6_reached kw_1218 kw_1220 kw_48 dX6_partOf_17 (by decide) rfl (Nat.le_of_ble_eq_true rfl) (fun xx ee => sm_X6_reached hs u2 x8 u4 h xx ee) (fun x9 _ => ?_)
    refine S_iload_n 1 dX6_partOf_20 rfl rfl ?_
    refine S_ishr dX6_partOf_21 ?_
    refine S_iconst 1 dX6_partOf_22 (by decide) ?_
    refine S_iand dX6_partOf_23 ?_
    refine S_if_ne 50 dX6_partOf_24 (by decide) (fun c14 => ?_) (fun c14 => ?_)
    · exact Sim.sub [3] rfl (hk10_50 w5)
    · refine S_iload 4 dX6_partOf_27 rfl ?_
      refine S_aload_n 0 dX6_partOf_29 rfl rfl ?_
      refine S_iload 4 dX6_partOf_30 rfl ?_
      refine S_callS_IR (lev' := 0) (My := M_X6_lowest) [.int w6] [.ref u2, .int w6] K_X6_lowest kw_1241 kw_1242 dX6_partOf_32 (by decide) rfl (Nat.le_of_ble_eq_true rfl) (fun xx ee => sm_X6_lowest hs w6 _ xx ee) (fun x10 _ => ?_)
      refine S_iload_n 2 dX6_partOf_35 rfl rfl ?_
      refine S_callV_IR (lev' := 0) (My := M_X6_reached) [.int x10, .int u4] [.int w6] kc6 K_X6_reached kw_1218 kw_1220 kw_48 dX6_partOf_36 (by decide) rfl (Nat.le_of_ble_eq_true rfl) (fun xx ee => sm_X6_reached hs u2 x10 u4 h xx ee) (fun x11 _ => ?_)
      refine S_iconst (-1) dX6_partOf_39 (by decide) ?_
      refine S_ixor dX6_partOf_40 ?_
      refine S_iand dX6_partOf_41 ?_
      refine S_nmI (fun x12 => ?_)
      refine S_istore [(4, .int x12), (0, .ref u2), (1, .int u3), (2, .int u4), (3, .int w5)] dX6_partOf_42 (Nat.le_of_ble_eq_true rfl) rfl ?_
      refine S_iincN (c := 1) 4 (fun x13 => [(3, .int x13), (4, .int x12), (0, .ref u2), (1, .int u3), (2, .int u4)]) dX6_partOf_44 rfl (by decide) (Nat.le_of_ble_eq_true rfl) (fun _ => rfl) (fun x13 => ?_)
      refine S_goto 10 dX6_partOf_47 (by decide) ?_
      exact Sim.sub [2, 3, 4, 0, 1] rfl (ih x13 x12)
set_option maxRecDepth 20000 in
set_option maxHeartbeats 4000000 in
theorem ss_X6_partOf (hs : l.stackTraces = false) (o : Nat) (p1 : Int32) (h : Hp) : Sim l G 2 M_X6_partOf (fun v : Int32 => ((.inl (some (.int v)) : Oc), h)) 0 [(0, .ref o), (1, .int p1)] [] h (m_X6_partOf  o p1 h) := by
  rw [m_X6_partOf]
  refine S_aload_n 0 dX6_partOf_0 rfl rfl ?_
  refine S_callV_IR (lev' := 1) (My := M_X6_freeSet) [] [] kc6 K_X6_freeSet kw_1214 kw_1216 kw_47 dX6_partOf_1 (by decide) rfl (Nat.le_of_ble_eq_true rfl) (fun xx ee => sm_X6_freeSet hs o h xx ee) (fun x1 _ => ?_)
  refine S_istore_n [(2, .int x1), (0, .ref o), (1, .int p1)] dX6_partOf_4 rfl (Nat.le_of_ble_eq_true rfl) rfl ?_
  refine S_iconst 0 dX6_partOf_5 (by decide) ?_
  refine S_istore_n [(3, .int 0), (2, .int x1), (0, .ref o), (1, .int p1)] dX6_partOf_6 rfl (Nat.le_of_ble_eq_true rfl) rfl ?_
  refine S_iload_n 1 dX6_partOf_7 rfl rfl ?_
  refine S_istore [(4, .int x1), (3, .int 0), (2, .int x1), (0, .ref o), (1, .int p1)] dX6_partOf_8 (Nat.le_of_ble_eq_true rfl) rfl ?_
  refine Sim.sub [3, 4, 2, 1, 0] rfl (sl_X6_partOf_L10 hs o p1 x1 h _ ?_ LF (0 : Int32) x1)
  · intro v7
    refine S_iload_n 0 dX6_partOf_50 rfl rfl ?_
    exact S_ireturn rfl rfl dX6_partOf_51
theorem sm_X6_partOf (hs : l.stackTraces = false) (o : Nat) (p1 : Int32) (h : Hp) : ∀ x, m_X6_partOf  o p1 h = some x → SR l G 2 M_X6_partOf [.ref o, .int p1] h (some (.int x)) h := fun x e => SR.of K_X6_partOf hs rfl (Nat.le_of_ble_eq_true rfl) (ss_X6_partOf hs o p1 h) e rfl
end
section
variable {l : Launch} {G : Gx}
set_option maxRecDepth 20000 in
set_option maxHeartbeats 4000000 in
theorem ss_X6_canLay (hs : l.stackTraces = false) (o : Nat) (p1 : Int32) (p2 : Int32) (p3 : Int32) (h : Hp) : Sim l G 2 M_X6_canLay (fun v : Int32 => ((.inl (some (.int v)) : Oc), h)) 0 [(0, .ref o), (1, .int p1), (2, .int p2), (3, .int p3)] [] h (m_X6_canLay  o p1 p2 p3 h) := by
  rw [m_X6_canLay]
  refine S_aload_n 0 dX6_canLay_0 rfl rfl ?_
  refine S_getR kc6 (k := 0) (by decide) kw_1040 dX6_canLay_1 (fun a1 _ => ?_)
  refine S_iconst 4 dX6_canLay_4 (by decide) ?_
  refine S_iload_n 1 dX6_canLay_5 rfl rfl ?_
  refine S_iadd dX6_canLay_6 ?_
  refine S_iaload dX6_canLay_7 (fun x2 _ => ?_)
  refine S_aload_n 0 dX6_canLay_8 rfl rfl ?_
  refine S_iload_n 1 dX6_canLay_9 rfl rfl ?_
  refine S_callV_IR (lev' := 1) (My := M_X6_around) [.int p1] [.int x2] kc6 K_X6_around kw_1202 kw_1204 kw_44 dX6_canLay_10 (by decide) rfl (Nat.le_of_ble_eq_true rfl) (fun xx ee => sm_X6_around hs o p1 h xx ee) (fun x3 _ => ?_)
  refine S_iconst (-1) dX6_canLay_13 (by decide) ?_
  refine S_ixor dX6_canLay_14 ?_
  refine S_iand dX6_canLay_15 ?_
  refine S_nmI (fun x4 => ?_)
  refine S_istore [(4, .int x4), (0, .ref o), (1, .int p1), (2, .int p2), (3, .int p3)] dX6_canLay_16 (Nat.le_of_ble_eq_true rfl) rfl ?_
  refine S_iload_n 4 dX6_canLay_18 rfl rfl ?_
  refine S_iconst (-1) dX6_canLay_19 (by decide) ?_
  refine S_icmp_eq 31 dX6_canLay_20 (by decide) (fun c7 => ?_) (fun c7 => ?_)
  · refine S_iload 0 dX6_canLay_31 rfl ?_
    refine S_goto 44 dX6_canLay_33 (by decide) ?_
    exact S_ireturn rfl rfl dX6_canLay_44
  · refine S_iload_n 3 dX6_canLay_23 rfl rfl ?_
    refine S_callS_IR (lev' := 0) (My := M_X6_bits) [.int p2] [] K_X6_bits kw_1230 kw_1231 dX6_canLay_24 (by decide) rfl (Nat.le_of_ble_eq_true rfl) (fun xx ee => sm_X6_bits hs p2 _ xx ee) (fun x5 _ => ?_)
    refine S_iconst 1 dX6_canLay_27 (by decide) ?_
    refine S_icmp_ne 36 dX6_canLay_28 (by decide) (fun c6 => ?_) (fun c6 => ?_)
    · refine S_iload 0 dX6_canLay_36 rfl ?_
      refine S_iconst 1 dX6_canLay_38 (by decide) ?_
      refine S_iload_n 4 dX6_canLay_39 rfl rfl ?_
      refine S_ishl dX6_canLay_40 ?_
      refine S_iconst (-1) dX6_canLay_41 (by decide) ?_
      refine S_ixor dX6_canLay_42 ?_
      refine S_iand dX6_canLay_43 ?_
      exact S_ireturn rfl rfl dX6_canLay_44
    · refine S_iload 0 dX6_canLay_31 rfl ?_
      refine S_goto 44 dX6_canLay_33 (by decide) ?_
      exact S_ireturn rfl rfl dX6_canLay_44
theorem sm_X6_canLay (hs : l.stackTraces = false) (o : Nat) (p1 : Int32) (p2 : Int32) (p3 : Int32) (h : Hp) : ∀ x, m_X6_canLay  o p1 p2 p3 h = some x → SR l G 2 M_X6_canLay [.ref o, .int p1, .int p2, .int p3] h (some (.int x)) h := fun x e => SR.of K_X6_canLay hs rfl (Nat.le_of_ble_eq_true rfl) (ss_X6_canLay hs o p1 p2 p3 h) e rfl
end
section
variable {l : Launch} {G : Gx}
set_option maxRecDepth 20000 in
set_option maxHeartbeats 4000000 in
theorem ss_X6_falls (hs : l.stackTraces = false) (o : Nat) (p1 : Int32) (h : Hp) : Sim l G 2 M_X6_falls (fun p : Int32 × Hp => ((.inl (some (.int p.1)) : Oc), p.2)) 0 [(0, .ref o), (1, .int p1)] [] h (m_X6_falls  o p1 h) := by
  rw [m_X6_falls]
  refine S_aload_n 0 dX6_falls_0 rfl rfl ?_
  refine S_aload_n 0 dX6_falls_1 rfl rfl ?_
  refine S_iload_n 1 dX6_falls_2 rfl rfl ?_
  refine S_callV_BR (lev' := 1) (My := M_X6_isVertex) [.int p1] [.ref o] kc6 K_X6_isVertex kw_1292 kw_1294 kw_62 dX6_falls_3 (by decide) rfl (Nat.le_of_ble_eq_true rfl) (fun xx ee => sm_X6_isVertex hs o p1 h xx ee) (fun bb1 _ => ?_)
  refine S_jK (fun (k3 : Int32 → Option (Int32 × Hp)) => ∀ (v2 : Int32), Sim l G 2 M_X6_falls (fun p : Int32 × Hp => ((.inl (some (.int p.1)) : Oc), p.2)) 26 [(0, .ref o), (1, .int p1)] [.int v2, .ref o] h (k3 v2)) ?_ (fun k3 hk3 => ?_)
  · intro v2
    refine S_put kc6 (k := 7) (by decide) rfl kw_1047 rfl rfl dX6_falls_26 (fun h4 _ => ?_)
    refine S_aload_n 0 dX6_falls_29 rfl rfl ?_
    refine S_getI kc6 (k := 7) (by decide) kw_1047 dX6_falls_30 (fun x5 _ => ?_)
    refine S_if_le 40 dX6_falls_33 (by decide) (fun c9 => ?_) (fun c9 => ?_)
    · refine S_aload_n 0 dX6_falls_40 rfl rfl ?_
      refine S_aload_n 0 dX6_falls_41 rfl rfl ?_
      refine S_iload_n 1 dX6_falls_42 rfl rfl ?_
      refine S_aload_n 0 dX6_falls_43 rfl rfl ?_
      refine S_callV_IR (lev' := 1) (My := M_X6_freeSet) [] [.int p1, .ref o, .ref o] kc6 K_X6_freeSet kw_1214 kw_1216 kw_47 dX6_falls_44 (by decide) rfl (Nat.le_of_ble_eq_true rfl) (fun xx ee => sm_X6_freeSet hs o h4 xx ee) (fun x6 _ => ?_)
      refine S_callV_IR (lev' := 0) (My := M_X6_reached) [.int p1, .int x6] [.ref o] kc6 K_X6_reached kw_1218 kw_1220 kw_48 dX6_falls_47 (by decide) rfl (Nat.le_of_ble_eq_true rfl) (fun xx ee => sm_X6_reached hs o p1 x6 h4 xx ee) (fun x7 _ => ?_)
      refine S_iconst 1 dX6_falls_50 (by decide) ?_
      refine S_iload_n 1 dX6_falls_51 rfl rfl ?_
      refine S_ishl dX6_falls_52 ?_
      refine S_iconst (-1) dX6_falls_53 (by decide) ?_
      refine S_ixor dX6_falls_54 ?_
      refine S_iand dX6_falls_55 ?_
      refine S_callV_IR (lev' := 1) (My := M_X6_partsIn) [.int (x7 &&& (((1 : Int32) <<< (p1 &&& 31)) ^^^ (-1 : Int32)))] [] kc6 K_X6_partsIn kw_1237 kw_1239 kw_52 dX6_falls_56 (by decide) rfl (Nat.le_of_ble_eq_true rfl) (fun xx ee => sm_X6_partsIn hs o (x7 &&& (((1 : Int32) <<< (p1 &&& 31)) ^^^ (-1 : Int32))) h4 xx ee) (fun x8 _ => ?_)
      exact S_ireturn rfl rfl dX6_falls_59
    · refine S_iconst 0 dX6_falls_36 (by decide) ?_
      refine S_goto 59 dX6_falls_37 (by decide) ?_
      exact S_ireturn rfl rfl dX6_falls_59
  refine S_if_neB 13 dX6_falls_6 (by decide) (fun c12 => ?_) (fun c12 => ?_)
  · refine S_aload_n 0 dX6_falls_13 rfl rfl ?_
    refine S_iload_n 1 dX6_falls_14 rfl rfl ?_
    refine S_callV_BR (lev' := 0) (My := M_X6_isFree) [.int p1] [.ref o] kc6 K_X6_isFree kw_1198 kw_1200 kw_43 dX6_falls_15 (by decide) rfl (Nat.le_of_ble_eq_true rfl) (fun xx ee => sm_X6_isFree hs o p1 h xx ee) (fun bb10 _ => ?_)
    refine S_if_eqB 25 dX6_falls_18 (by decide) (fun c11 => ?_) (fun c11 => ?_)
    · refine S_iconst 2 dX6_falls_25 (by decide) ?_
      exact Sim.sub [0, 1] rfl (hk3 (2 : Int32))
    · refine S_iconst 0 dX6_falls_21 (by decide) ?_
      refine S_goto 26 dX6_falls_22 (by decide) ?_
      exact Sim.sub [0, 1] rfl (hk3 (0 : Int32))
  · refine S_iconst 1 dX6_falls_9 (by decide) ?_
    refine S_goto 26 dX6_falls_10 (by decide) ?_
    exact Sim.sub [0, 1] rfl (hk3 (1 : Int32))
theorem sm_X6_falls (hs : l.stackTraces = false) (o : Nat) (p1 : Int32) (h : Hp) : ∀ x h1, m_X6_falls  o p1 h = some (x, h1) → SR l G 2 M_X6_falls [.ref o, .int p1] h (some (.int x)) h1 := fun x h1 e => SR.of K_X6_falls hs rfl (Nat.le_of_ble_eq_true rfl) (ss_X6_falls hs o p1 h) e rfl
end
section
variable {l : Launch} {G : Gx}
set_option maxRecDepth 20000 in
set_option maxHeartbeats 4000000 in
theorem ss_X6_notes (hs : l.stackTraces = false) (o : Nat) (p1 : Int32) (p2 : Int32) (p3 : Int32) (h : Hp) : Sim l G 2 M_X6_notes (fun v : Hp => ((.inl none : Oc), v)) 0 [(0, .ref o), (1, .int p1), (2, .int p2), (3, .int p3)] [] h (m_X6_notes  o p1 p2 p3 h) := by
  rw [m_X6_notes]
  refine S_aload_n 0 dX6_notes_0 rfl rfl ?_
  refine S_aload_n 0 dX6_notes_1 rfl rfl ?_
  refine S_callV_IR (lev' := 1) (My := M_X6_freeSet) [] [.ref o] kc6 K_X6_freeSet kw_1214 kw_1216 kw_47 dX6_notes_2 (by decide) rfl (Nat.le_of_ble_eq_true rfl) (fun xx ee => sm_X6_freeSet hs o h xx ee) (fun x1 _ => ?_)
  refine S_callV_IR (lev' := 1) (My := M_X6_partsIn) [.int x1] [] kc6 K_X6_partsIn kw_1237 kw_1239 kw_52 dX6_notes_5 (by decide) rfl (Nat.le_of_ble_eq_true rfl) (fun xx ee => sm_X6_partsIn hs o x1 h xx ee) (fun x2 _ => ?_)
  refine S_istore [(4, .int x2), (0, .ref o), (1, .int p1), (2, .int p2), (3, .int p3)] dX6_notes_8 (Nat.le_of_ble_eq_true rfl) rfl ?_
  refine S_aload_n 1 dX6_notes_10 rfl rfl ?_
  refine S_getR kc6 (k := 0) (by decide) kw_1040 dX6_notes_11 (fun a3 _ => ?_)
  refine S_bipush 40 dX6_notes_14 (by decide) ?_
  refine S_aload_n 1 dX6_notes_16 rfl rfl ?_
  refine S_getR kc6 (k := 0) (by decide) kw_1040 dX6_notes_17 (fun a4 _ => ?_)
  refine S_iconst 3 dX6_notes_20 (by decide) ?_
  refine S_iaload dX6_notes_21 (fun x5 _ => ?_)
  refine S_iadd dX6_notes_22 ?_
  refine S_aload_n 1 dX6_notes_23 rfl rfl ?_
  refine S_callV_IR (lev' := 0) (My := M_X6_turn) [] [.int ((40 : Int32) + x5), .ref a3] kc6 K_X6_turn kw_1248 kw_1250 kw_54 dX6_notes_24 (by decide) rfl (Nat.le_of_ble_eq_true rfl) (fun xx ee => sm_X6_turn hs o h xx ee) (fun x6 _ => ?_)
  refine S_iload_n 2 dX6_notes_27 rfl rfl ?_
  refine S_iconst 1 dX6_notes_28 (by decide) ?_
  refine S_iadd dX6_notes_29 ?_
  refine S_iconst 1 dX6_notes_30 (by decide) ?_
  refine S_ishl dX6_notes_31 ?_
  refine S_ior dX6_notes_32 ?_
  refine S_iload_n 3 dX6_notes_33 rfl rfl ?_
  refine S_iconst 1 dX6_notes_34 (by decide) ?_
  refine S_iadd dX6_notes_35 ?_
  refine S_iconst 5 dX6_notes_36 (by decide) ?_
  refine S_ishl dX6_notes_37 ?_
  refine S_ior dX6_notes_38 ?_
  refine S_iload 0 dX6_notes_39 rfl ?_
  refine S_bipush 7 dX6_notes_41 (by decide) ?_
  refine S_ishl dX6_notes_43 ?_
  refine S_ior dX6_notes_44 ?_
  refine S_iload_n 4 dX6_notes_45 rfl rfl ?_
  refine S_bipush 11 dX6_notes_46 (by decide) ?_
  refine S_ishl dX6_notes_48 ?_
  refine S_ior dX6_notes_49 ?_
  refine S_iastore dX6_notes_50 (fun h7 _ => ?_)
  refine S_aload_n 1 dX6_notes_51 rfl rfl ?_
  refine S_getR kc6 (k := 0) (by decide) kw_1040 dX6_notes_52 (fun a8 _ => ?_)
  refine S_iconst 3 dX6_notes_55 (by decide) ?_
  refine S_dup2 dX6_notes_56 rfl rfl ?_
  refine S_iaload dX6_notes_57 (fun x9 _ => ?_)
  refine S_iconst 1 dX6_notes_58 (by decide) ?_
  refine S_iadd dX6_notes_59 ?_
  refine S_iastore dX6_notes_60 (fun h10 _ => ?_)
  exact S_return rfl rfl dX6_notes_61
theorem sm_X6_notes (hs : l.stackTraces = false) (o : Nat) (p1 : Int32) (p2 : Int32) (p3 : Int32) (h : Hp) : ∀ h1, m_X6_notes  o p1 p2 p3 h = some h1 → SR l G 2 M_X6_notes [.ref o, .int p1, .int p2, .int p3] h none h1 := fun h1 e => SR.of K_X6_notes hs rfl (Nat.le_of_ble_eq_true rfl) (ss_X6_notes hs o p1 p2 p3 h) e rfl
end
section
variable {l : Launch} {G : Gx}
set_option maxRecDepth 20000 in
set_option maxHeartbeats 4000000 in
theorem ss_X6_setPasses (hs : l.stackTraces = false) (o : Nat) (p1 : Int32) (h : Hp) : Sim l G 2 M_X6_setPasses (fun p : Int32 × Hp => ((.inl (some (.int p.1)) : Oc), p.2)) 0 [(0, .ref o), (1, .int p1)] [] h (m_X6_setPasses  o p1 h) := by
  rw [m_X6_setPasses]
  refine S_aload_n 0 dX6_setPasses_0 rfl rfl ?_
  refine S_iload_n 1 dX6_setPasses_1 rfl rfl ?_
  refine S_iconst 0 dX6_setPasses_2 (by decide) ?_
  refine S_bipush 9 dX6_setPasses_3 (by decide) ?_
  refine S_callS_BR (lev' := 0) (My := M_X6_isIn) [.int p1, .int 0, .int 9] [.ref o] K_X6_isIn kw_1127 kw_1128 dX6_setPasses_5 (by decide) rfl (Nat.le_of_ble_eq_true rfl) (fun xx ee => sm_X6_isIn hs p1 (0 : Int32) (9 : Int32) _ xx ee) (fun bb1 _ => ?_)
  refine S_jK (fun (k3 : Bool → Option (Int32 × Hp)) => ∀ (v2 : Bool), Sim l G 2 M_X6_setPasses (fun p : Int32 × Hp => ((.inl (some (.int p.1)) : Oc), p.2)) 16 [(0, .ref o), (1, .int p1)] [.int (bI v2), .ref o] h (k3 v2)) ?_ (fun k3 hk3 => ?_)
  · intro v2
    refine S_put kc6 (k := 7) (by decide) rfl kw_1047 rfl rfl dX6_setPasses_16 (fun h4 _ => ?_)
    refine S_aload_n 0 dX6_setPasses_19 rfl rfl ?_
    refine S_getI kc6 (k := 7) (by decide) kw_1047 dX6_setPasses_20 (fun x5 _ => ?_)
    refine S_if_le 28 dX6_setPasses_23 (by decide) (fun c11 => ?_) (fun c11 => ?_)
    · refine S_aload_n 0 dX6_setPasses_28 rfl rfl ?_
      refine S_callV_VW (lev' := 1) (My := M_X6_keeps) [] [] kc6 K_X6_keeps kw_1260 kw_1262 kw_57 dX6_setPasses_29 (by decide) rfl (Nat.le_of_ble_eq_true rfl) (fun xx ee => sm_X6_keeps hs o h4 xx ee) (fun h6 _ => ?_)
      refine S_aload_n 0 dX6_setPasses_32 rfl rfl ?_
      refine S_getR kc6 (k := 0) (by decide) kw_1040 dX6_setPasses_33 (fun a7 _ => ?_)
      refine S_iconst 2 dX6_setPasses_36 (by decide) ?_
      refine S_iaload dX6_setPasses_37 (fun x8 _ => ?_)
      refine S_istore_n [(2, .int x8), (0, .ref o), (1, .int p1)] dX6_setPasses_38 rfl (Nat.le_of_ble_eq_true rfl) rfl ?_
      refine S_aload_n 1 dX6_setPasses_39 rfl rfl ?_
      refine S_getR kc6 (k := 0) (by decide) kw_1040 dX6_setPasses_40 (fun a9 _ => ?_)
      refine S_iconst 2 dX6_setPasses_43 (by decide) ?_
      refine S_iload_n 2 dX6_setPasses_44 rfl rfl ?_
      refine S_iastore dX6_setPasses_45 (fun h10 _ => ?_)
      refine S_iload_n 0 dX6_setPasses_46 rfl rfl ?_
      exact S_ireturn rfl rfl dX6_setPasses_47
    · refine S_iconst 0 dX6_setPasses_26 (by decide) ?_
      exact S_ireturn rfl rfl dX6_setPasses_27
  refine S_if_eqB 15 dX6_setPasses_8 (by decide) (fun c12 => ?_) (fun c12 => ?_)
  · refine S_iconst 1 dX6_setPasses_15 (by decide) ?_
    exact Sim.sub [0, 1] rfl (hk3 true)
  · refine S_iconst 0 dX6_setPasses_11 (by decide) ?_
    refine S_goto 16 dX6_setPasses_12 (by decide) ?_
    exact Sim.sub [0, 1] rfl (hk3 false)
theorem sm_X6_setPasses (hs : l.stackTraces = false) (o : Nat) (p1 : Int32) (h : Hp) : ∀ x h1, m_X6_setPasses  o p1 h = some (x, h1) → SR l G 2 M_X6_setPasses [.ref o, .int p1] h (some (.int x)) h1 := fun x h1 e => SR.of K_X6_setPasses hs rfl (Nat.le_of_ble_eq_true rfl) (ss_X6_setPasses hs o p1 h) e rfl
end
section
variable {l : Launch} {G : Gx}
set_option maxRecDepth 20000 in
set_option maxHeartbeats 4000000 in
theorem sl_X6_account_L48 (hs : l.stackTraces = false) (u6 : Nat) (u7 : Int32) (u8 : Int32) (h : Hp) (k48_126 : Int32 → Int32 → Option (Int32 × Hp)) (hk48_126 : ∀ (v12 : Int32) (v13 : Int32), Sim l G 2 M_X6_account (fun p : Int32 × Hp => ((.inl (some (.int p.1)) : Oc), p.2)) 126 [(2, .int u8), (3, .int v12), (4, .int v13)] [] h (k48_126 v12 v13)) : ∀ (f : Nat) (w9 : Int32) (w10 : Int32) (w11 : Int32), Sim l G 2 M_X6_account (fun p : Int32 × Hp => ((.inl (some (.int p.1)) : Oc), p.2)) 48 [(0, .ref u6), (1, .int u7), (2, .int u8), (3, .int w9), (4, .int w10), (5, .int w11)] [] h (m_X6_account_L48 u6 u7 u8 h k48_126 f w9 w10 w11) := by
  intro f
  induction f with
  | zero => intro w9 w10 w11; exact S_none rfl
  | succ f ih =>
    intro w9 w10 w11
    rw [m_X6_account_L48]
    refine S_iload 5 dX6_account_48 rfl ?_
    refine S_aload_n 0 dX6_account_50 rfl rfl ?_
    refine S_getR kc6 (k := 0) (by decide) kw_1040 dX6_account_51 (fun a14 _ => ?_)
    refine S_iconst 3 dX6_account_54 (by decide) ?_
    refine S_iaload dX6_account_55 (fun x15 _ => ?_)
    refine S_icmp_ge 126 dX6_account_56 (by decide) (fun c33 => ?_) (fun c33 => ?_)
    · exact Sim.sub [2, 3, 4] rfl (hk48_126 w9 w10)
    · refine S_aload_n 0 dX6_account_59 rfl rfl ?_
      refine S_iload 5 dX6_account_60 rfl ?_
      refine S_iconst 0 dX6_account_62 (by decide) ?_
      refine S_callV_IR (lev' := 0) (My := M_X6_moved) [.int w11, .int 0] [] kc6 K_X6_moved kw_1424 kw_1426 kw_78 dX6_account_63 (by decide) rfl (Nat.le_of_ble_eq_true rfl) (fun xx ee => sm_X6_moved hs u6 w11 (0 : Int32) h xx ee) (fun x16 _ => ?_)
      refine S_iload_n 1 dX6_account_66 rfl rfl ?_
      refine S_jK (fun (k19 : Int32 → Int32 → Option (Int32 × Hp)) => ∀ (v17 : Int32) (v18 : Int32), Sim l G 2 M_X6_account (fun p : Int32 × Hp => ((.inl (some (.int p.1)) : Oc), p.2)) 120 [(0, .ref u6), (1, .int u7), (2, .int u8), (3, .int v17), (4, .int v18), (5, .int w11)] [] h (k19 v17 v18)) ?_ (fun k19 hk19 => ?_)
      · intro v17 v18
        refine S_iincN (c := 1) 5 (fun x20 => [(5, .int x20), (0, .ref u6), (1, .int u7), (2, .int u8), (3, .int v17), (4, .int v18)]) dX6_account_120 rfl (by decide) (Nat.le_of_ble_eq_true rfl) (fun _ => rfl) (fun x20 => ?_)
        refine S_goto 48 dX6_account_123 (by decide) ?_
        exact Sim.sub [1, 2, 3, 4, 5, 0] rfl (ih v17 v18 x20)
      refine S_icmp_eq 73 dX6_account_67 (by decide) (fun c32 => ?_) (fun c32 => ?_)
      · refine S_iload_n 3 dX6_account_73 rfl rfl ?_
        refine S_aload_n 0 dX6_account_74 rfl rfl ?_
        refine S_iload 5 dX6_account_75 rfl ?_
        refine S_iload_n 2 dX6_account_77 rfl rfl ?_
        refine S_callV_BR (lev' := 1) (My := M_X6_counts) [.int w11, .int u8] [.int w9] kc6 K_X6_counts kw_1432 kw_1434 kw_79 dX6_account_78 (by decide) rfl (Nat.le_of_ble_eq_true rfl) (fun xx ee => sm_X6_counts hs u6 w11 u8 h xx ee) (fun bb21 _ => ?_)
        refine S_jK (fun (k23 : Bool → Option (Int32 × Hp)) => ∀ (v22 : Bool), Sim l G 2 M_X6_account (fun p : Int32 × Hp => ((.inl (some (.int p.1)) : Oc), p.2)) 89 [(0, .ref u6), (1, .int u7), (2, .int u8), (4, .int w10), (5, .int w11)] [.int (bI v22), .int w9] h (k23 v22)) ?_ (fun k23 hk23 => ?_)
        · intro v22
          refine S_iadd dX6_account_89 ?_
          refine S_nmI (fun x24 => ?_)
          refine S_istore_n [(3, .int x24), (0, .ref u6), (1, .int u7), (2, .int u8), (4, .int w10), (5, .int w11)] dX6_account_90 rfl (Nat.le_of_ble_eq_true rfl) rfl ?_
          refine S_iload 4 dX6_account_91 rfl ?_
          refine S_aload_n 1 dX6_account_93 rfl rfl ?_
          refine S_iload 5 dX6_account_94 rfl ?_
          refine S_iconst 1 dX6_account_96 (by decide) ?_
          refine S_callV_IR (lev' := 0) (My := M_X6_moved) [.int w11, .int 1] [.int w10] kc6 K_X6_moved kw_1424 kw_1426 kw_78 dX6_account_97 (by decide) rfl (Nat.le_of_ble_eq_true rfl) (fun xx ee => sm_X6_moved hs u6 w11 (1 : Int32) h xx ee) (fun x25 _ => ?_)
          refine S_iconst (-1) dX6_account_100 (by decide) ?_
          refine S_jK (fun (k27 : Int32 → Option (Int32 × Hp)) => ∀ (v26 : Int32), Sim l G 2 M_X6_account (fun p : Int32 × Hp => ((.inl (some (.int p.1)) : Oc), p.2)) 117 [(0, .ref u6), (1, .int u7), (2, .int u8), (3, .int x24), (5, .int w11)] [.int v26, .int w10] h (k27 v26)) ?_ (fun k27 hk27 => ?_)
          · intro v26
            refine S_ior dX6_account_117 ?_
            refine S_nmI (fun x28 => ?_)
            refine S_istore [(4, .int x28), (0, .ref u6), (1, .int u7), (2, .int u8), (3, .int x24), (5, .int w11)] dX6_account_118 (Nat.le_of_ble_eq_true rfl) rfl ?_
            exact Sim.sub [1, 2, 3, 4, 0, 5] rfl (hk19 x24 x28)
          refine S_icmp_ne 108 dX6_account_101 (by decide) (fun c30 => ?_) (fun c30 => ?_)
          · refine S_iconst 1 dX6_account_108 (by decide) ?_
            refine S_aload_n 1 dX6_account_109 rfl rfl ?_
            refine S_iload 5 dX6_account_110 rfl ?_
            refine S_iconst 2 dX6_account_112 (by decide) ?_
            refine S_callV_IR (lev' := 0) (My := M_X6_moved) [.int w11, .int 2] [.int 1, .int w10] kc6 K_X6_moved kw_1424 kw_1426 kw_78 dX6_account_113 (by decide) rfl (Nat.le_of_ble_eq_true rfl) (fun xx ee => sm_X6_moved hs u6 w11 (2 : Int32) h xx ee) (fun x29 _ => ?_)
            refine S_ishl dX6_account_116 ?_
            exact Sim.sub [1, 2, 3, 0, 5] rfl (hk27 ((1 : Int32) <<< (x29 &&& 31)))
          · refine S_iconst 0 dX6_account_104 (by decide) ?_
            refine S_goto 117 dX6_account_105 (by decide) ?_
            exact Sim.sub [1, 2, 3, 0, 5] rfl (hk27 (0 : Int32))
        refine S_if_eqB 88 dX6_account_81 (by decide) (fun c31 => ?_) (fun c31 => ?_)
        · refine S_iconst 0 dX6_account_88 (by decide) ?_
          exact Sim.sub [0, 1, 2, 4, 5] rfl (hk23 false)
        · refine S_iconst 1 dX6_account_84 (by decide) ?_
          refine S_goto 89 dX6_account_85 (by decide) ?_
          exact Sim.sub [0, 1, 2, 4, 5] rfl (hk23 true)
      · refine S_goto 120 dX6_account_70 (by decide) ?_
        exact Sim.sub [0, 1, 2, 3, 4, 5] rfl (hk19 w9 w10)
set_option maxRecDepth 20000 in
set_option maxHeartbeats 4000000 in
theorem ss_X6_account (hs : l.stackTraces = false) (o : Nat) (p1 : Int32) (p2 : Int32) (h : Hp) : Sim l G 2 M_X6_account (fun p : Int32 × Hp => ((.inl (some (.int p.1)) : Oc), p.2)) 0 [(0, .ref o), (1, .int p1), (2, .int p2)] [] h (m_X6_account  o p1 p2 h) := by
  rw [m_X6_account]
  refine S_aload_n 0 dX6_account_0 rfl rfl ?_
  refine S_iload_n 1 dX6_account_1 rfl rfl ?_
  refine S_iconst 0 dX6_account_2 (by decide) ?_
  refine S_iconst 1 dX6_account_3 (by decide) ?_
  refine S_callS_BR (lev' := 0) (My := M_X6_isIn) [.int p1, .int 0, .int 1] [.ref o] K_X6_isIn kw_1127 kw_1128 dX6_account_4 (by decide) rfl (Nat.le_of_ble_eq_true rfl) (fun xx ee => sm_X6_isIn hs p1 (0 : Int32) (1 : Int32) _ xx ee) (fun bb1 _ => ?_)
  refine S_jK (fun (k3 : Int32 → Option (Int32 × Hp)) => ∀ (v2 : Int32), Sim l G 2 M_X6_account (fun p : Int32 × Hp => ((.inl (some (.int p.1)) : Oc), p.2)) 28 [(0, .ref o), (1, .int p1), (2, .int p2)] [.int v2, .ref o] h (k3 v2)) ?_ (fun k3 hk3 => ?_)
  · intro v2
    refine S_put kc6 (k := 7) (by decide) rfl kw_1047 rfl rfl dX6_account_28 (fun h4 _ => ?_)
    refine S_aload_n 0 dX6_account_31 rfl rfl ?_
    refine S_getI kc6 (k := 7) (by decide) kw_1047 dX6_account_32 (fun x5 _ => ?_)
    refine S_if_le 40 dX6_account_35 (by decide) (fun c36 => ?_) (fun c36 => ?_)
    · refine S_iconst 0 dX6_account_40 (by decide) ?_
      refine S_istore_n [(3, .int 0), (0, .ref o), (1, .int p1), (2, .int p2)] dX6_account_41 rfl (Nat.le_of_ble_eq_true rfl) rfl ?_
      refine S_iconst 0 dX6_account_42 (by decide) ?_
      refine S_istore [(4, .int 0), (3, .int 0), (0, .ref o), (1, .int p1), (2, .int p2)] dX6_account_43 (Nat.le_of_ble_eq_true rfl) rfl ?_
      refine S_iconst 0 dX6_account_45 (by decide) ?_
      refine S_istore [(5, .int 0), (4, .int 0), (3, .int 0), (0, .ref o), (1, .int p1), (2, .int p2)] dX6_account_46 (Nat.le_of_ble_eq_true rfl) rfl ?_
      refine Sim.sub [3, 4, 5, 2, 1, 0] rfl (sl_X6_account_L48 hs o p1 p2 h4 _ ?_ LF (0 : Int32) (0 : Int32) (0 : Int32))
      · intro v12 v13
        refine S_iload_n 0 dX6_account_126 rfl rfl ?_
        refine S_iconst 4 dX6_account_127 (by decide) ?_
        refine S_icmp_ne 139 dX6_account_128 (by decide) (fun c35 => ?_) (fun c35 => ?_)
        · refine S_iload_n 1 dX6_account_139 rfl rfl ?_
          exact S_ireturn rfl rfl dX6_account_140
        · refine S_iload 2 dX6_account_131 rfl ?_
          refine S_callS_IR (lev' := 0) (My := M_X6_bits) [.int v13] [] K_X6_bits kw_1230 kw_1231 dX6_account_133 (by decide) rfl (Nat.le_of_ble_eq_true rfl) (fun xx ee => sm_X6_bits hs v13 _ xx ee) (fun x34 _ => ?_)
          refine S_goto 140 dX6_account_136 (by decide) ?_
          exact S_ireturn rfl rfl dX6_account_140
    · refine S_iconst 0 dX6_account_38 (by decide) ?_
      exact S_ireturn rfl rfl dX6_account_39
  refine S_if_neB 14 dX6_account_7 (by decide) (fun c39 => ?_) (fun c39 => ?_)
  · refine S_iload_n 2 dX6_account_14 rfl rfl ?_
    refine S_iconst 0 dX6_account_15 (by decide) ?_
    refine S_iconst 4 dX6_account_16 (by decide) ?_
    refine S_callS_BR (lev' := 0) (My := M_X6_isIn) [.int p2, .int 0, .int 4] [.ref o] K_X6_isIn kw_1127 kw_1128 dX6_account_17 (by decide) rfl (Nat.le_of_ble_eq_true rfl) (fun xx ee => sm_X6_isIn hs p2 (0 : Int32) (4 : Int32) _ xx ee) (fun bb37 _ => ?_)
    refine S_if_eqB 27 dX6_account_20 (by decide) (fun c38 => ?_) (fun c38 => ?_)
    · refine S_iconst 2 dX6_account_27 (by decide) ?_
      exact Sim.sub [0, 1, 2] rfl (hk3 (2 : Int32))
    · refine S_iconst 0 dX6_account_23 (by decide) ?_
      refine S_goto 28 dX6_account_24 (by decide) ?_
      exact Sim.sub [0, 1, 2] rfl (hk3 (0 : Int32))
  · refine S_iconst 1 dX6_account_10 (by decide) ?_
    refine S_goto 28 dX6_account_11 (by decide) ?_
    exact Sim.sub [0, 1, 2] rfl (hk3 (1 : Int32))
theorem sm_X6_account (hs : l.stackTraces = false) (o : Nat) (p1 : Int32) (p2 : Int32) (h : Hp) : ∀ x h1, m_X6_account  o p1 p2 h = some (x, h1) → SR l G 2 M_X6_account [.ref o, .int p1, .int p2] h (some (.int x)) h1 := fun x h1 e => SR.of K_X6_account hs rfl (Nat.le_of_ble_eq_true rfl) (ss_X6_account hs o p1 p2 h) e rfl
end
section
variable {l : Launch} {G : Gx}
set_option maxRecDepth 20000 in
set_option maxHeartbeats 4000000 in
theorem ss_X6_restore (hs : l.stackTraces = false) (o : Nat) (p1 : Int32) (h : Hp) : Sim l G 2 M_X6_restore (fun p : Int32 × Hp => ((.inl (some (.int p.1)) : Oc), p.2)) 0 [(0, .ref o), (1, .int p1)] [] h (m_X6_restore  o p1 h) := by
  rw [m_X6_restore]
  refine S_aload_n 0 dX6_restore_0 rfl rfl ?_
  refine S_iload_n 1 dX6_restore_1 rfl rfl ?_
  refine S_iconst 0 dX6_restore_2 (by decide) ?_
  refine S_iconst 1 dX6_restore_3 (by decide) ?_
  refine S_callS_BR (lev' := 0) (My := M_X6_isIn) [.int p1, .int 0, .int 1] [.ref o] K_X6_isIn kw_1127 kw_1128 dX6_restore_4 (by decide) rfl (Nat.le_of_ble_eq_true rfl) (fun xx ee => sm_X6_isIn hs p1 (0 : Int32) (1 : Int32) _ xx ee) (fun bb1 _ => ?_)
  refine S_jK (fun (k3 : Int32 → Option (Int32 × Hp)) => ∀ (v2 : Int32), Sim l G 2 M_X6_restore (fun p : Int32 × Hp => ((.inl (some (.int p.1)) : Oc), p.2)) 28 [(0, .ref o), (1, .int p1)] [.int v2, .ref o] h (k3 v2)) ?_ (fun k3 hk3 => ?_)
  · intro v2
    refine S_put kc6 (k := 7) (by decide) rfl kw_1047 rfl rfl dX6_restore_28 (fun h4 _ => ?_)
    refine S_aload_n 0 dX6_restore_31 rfl rfl ?_
    refine S_getI kc6 (k := 7) (by decide) kw_1047 dX6_restore_32 (fun x5 _ => ?_)
    refine S_if_le 40 dX6_restore_35 (by decide) (fun c12 => ?_) (fun c12 => ?_)
    · refine S_aload_n 0 dX6_restore_40 rfl rfl ?_
      refine S_callV_VW (lev' := 1) (My := M_X6_keeps) [] [] kc6 K_X6_keeps kw_1260 kw_1262 kw_57 dX6_restore_41 (by decide) rfl (Nat.le_of_ble_eq_true rfl) (fun xx ee => sm_X6_keeps hs o h4 xx ee) (fun h6 _ => ?_)
      refine S_aload_n 0 dX6_restore_44 rfl rfl ?_
      refine S_getR kc6 (k := 0) (by decide) kw_1040 dX6_restore_45 (fun a7 _ => ?_)
      refine S_iconst 0 dX6_restore_48 (by decide) ?_
      refine S_aload_n 0 dX6_restore_49 rfl rfl ?_
      refine S_getR kc6 (k := 4) (by decide) kw_1044 dX6_restore_50 (fun a8 _ => ?_)
      refine S_sipush 4136 dX6_restore_53 (by decide) ?_
      refine S_iload_n 1 dX6_restore_56 rfl rfl ?_
      refine S_imul dX6_restore_57 ?_
      refine S_callS_VW (lev' := 0) (My := M_X6_sets) [.ref a7, .int 0, .ref a8, .int ((4136 : Int32) * p1)] [] K_X6_sets kw_1116 kw_1117 dX6_restore_58 (by decide) rfl (Nat.le_of_ble_eq_true rfl) (fun xx ee => sm_X6_sets hs a7 (0 : Int32) a8 ((4136 : Int32) * p1) h6 xx ee) (fun h9 _ => ?_)
      refine S_aload_n 0 dX6_restore_61 rfl rfl ?_
      refine S_getR kc6 (k := 0) (by decide) kw_1040 dX6_restore_62 (fun a10 _ => ?_)
      refine S_iconst 3 dX6_restore_65 (by decide) ?_
      refine S_iaload dX6_restore_66 (fun x11 _ => ?_)
      exact S_ireturn rfl rfl dX6_restore_67
    · refine S_iconst 0 dX6_restore_38 (by decide) ?_
      exact S_ireturn rfl rfl dX6_restore_39
  refine S_if_neB 14 dX6_restore_7 (by decide) (fun c16 => ?_) (fun c16 => ?_)
  · refine S_aload_n 0 dX6_restore_14 rfl rfl ?_
    refine S_getR kc6 (k := 5) (by decide) kw_1045 dX6_restore_15 (fun a13 _ => ?_)
    refine S_iload_n 1 dX6_restore_18 rfl rfl ?_
    refine S_zaload dX6_restore_19 (fun x14 _ => ?_)
    refine S_if_eq 27 dX6_restore_20 (by decide) (fun c15 => ?_) (fun c15 => ?_)
    · refine S_iconst 2 dX6_restore_27 (by decide) ?_
      exact Sim.sub [0, 1] rfl (hk3 (2 : Int32))
    · refine S_iconst 0 dX6_restore_23 (by decide) ?_
      refine S_goto 28 dX6_restore_24 (by decide) ?_
      exact Sim.sub [0, 1] rfl (hk3 (0 : Int32))
  · refine S_iconst 1 dX6_restore_10 (by decide) ?_
    refine S_goto 28 dX6_restore_11 (by decide) ?_
    exact Sim.sub [0, 1] rfl (hk3 (1 : Int32))
theorem sm_X6_restore (hs : l.stackTraces = false) (o : Nat) (p1 : Int32) (h : Hp) : ∀ x h1, m_X6_restore  o p1 h = some (x, h1) → SR l G 2 M_X6_restore [.ref o, .int p1] h (some (.int x)) h1 := fun x h1 e => SR.of K_X6_restore hs rfl (Nat.le_of_ble_eq_true rfl) (ss_X6_restore hs o p1 h) e rfl
end
section
variable {l : Launch} {G : Gx}
set_option maxRecDepth 20000 in
set_option maxHeartbeats 4000000 in
theorem ss_X0_listOf (hs : l.stackTraces = false) (o : Nat) (p1 : Int32) (h : Hp) : Sim l G 2 M_X0_listOf (fun v : Int32 => ((.inl (some (.int v)) : Oc), h)) 0 [(0, .ref o), (1, .int p1)] [] h (m_X0_listOf  o p1 h) := by
  rw [m_X0_listOf]
  refine S_aload_n 0 dX0_listOf_0 rfl rfl ?_
  refine S_aload_n 0 dX0_listOf_1 rfl rfl ?_
  refine S_getR kc0 (k := 8) (by decide) kw_140 dX0_listOf_2 (fun a1 _ => ?_)
  refine S_iload_n 1 dX0_listOf_5 rfl rfl ?_
  refine S_callV_IR (lev' := 1) (My := M_X0_coloursAt) [.ref a1, .int p1] [] kc0 K_X0_coloursAt kw_435 kw_437 kw_7 dX0_listOf_6 (by decide) rfl (Nat.le_of_ble_eq_true rfl) (fun xx ee => sm_X0_coloursAt hs o a1 p1 h xx ee) (fun x2 _ => ?_)
  exact S_ireturn rfl rfl dX0_listOf_9
theorem sm_X0_listOf (hs : l.stackTraces = false) (o : Nat) (p1 : Int32) (h : Hp) : ∀ x, m_X0_listOf  o p1 h = some x → SR l G 2 M_X0_listOf [.ref o, .int p1] h (some (.int x)) h := fun x e => SR.of K_X0_listOf hs rfl (Nat.le_of_ble_eq_true rfl) (ss_X0_listOf hs o p1 h) e rfl
end
section
variable {l : Launch} {G : Gx}
set_option maxRecDepth 20000 in
set_option maxHeartbeats 4000000 in
theorem ss_X0_partWith (hs : l.stackTraces = false) (o : Nat) (p1 : Int32) (h : Hp) : Sim l G 2 M_X0_partWith (fun v : Int32 => ((.inl (some (.int v)) : Oc), h)) 0 [(0, .ref o), (1, .int p1)] [] h (m_X0_partWith  o p1 h) := by
  rw [m_X0_partWith]
  refine S_aload_n 0 dX0_partWith_0 rfl rfl ?_
  refine S_iconst 1 dX0_partWith_1 (by decide) ?_
  refine S_iload_n 1 dX0_partWith_2 rfl rfl ?_
  refine S_ishl dX0_partWith_3 ?_
  refine S_aload_n 0 dX0_partWith_4 rfl rfl ?_
  refine S_getI kc0 (k := 4) (by decide) kw_133 dX0_partWith_5 (fun x1 _ => ?_)
  refine S_callV_IR (lev' := 1) (My := M_X0_reachable) [.int ((1 : Int32) <<< (p1 &&& 31)), .int x1] [] kc0 K_X0_reachable kw_402 kw_281 kw_282 dX0_partWith_8 (by decide) rfl (Nat.le_of_ble_eq_true rfl) (fun xx ee => sm_X0_reachable hs o ((1 : Int32) <<< (p1 &&& 31)) x1 h xx ee) (fun x2 _ => ?_)
  exact S_ireturn rfl rfl dX0_partWith_11
theorem sm_X0_partWith (hs : l.stackTraces = false) (o : Nat) (p1 : Int32) (h : Hp) : ∀ x, m_X0_partWith  o p1 h = some x → SR l G 2 M_X0_partWith [.ref o, .int p1] h (some (.int x)) h := fun x e => SR.of K_X0_partWith hs rfl (Nat.le_of_ble_eq_true rfl) (ss_X0_partWith hs o p1 h) e rfl
end
section
variable {l : Launch} {G : Gx}
set_option maxRecDepth 20000 in
set_option maxHeartbeats 4000000 in
theorem sl_X0_partsIn_L4 (hs : l.stackTraces = false) (u1 : Nat) (h : Hp) (k4_34 : Int32 → Option Int32) (hk4_34 : ∀ (v4 : Int32), Sim l G 2 M_X0_partsIn (fun v : Int32 => ((.inl (some (.int v)) : Oc), h)) 34 [(2, .int v4)] [] h (k4_34 v4)) : ∀ (f : Nat) (w2 : Int32) (w3 : Int32), Sim l G 2 M_X0_partsIn (fun v : Int32 => ((.inl (some (.int v)) : Oc), h)) 4 [(0, .ref u1), (2, .int w2), (3, .int w3)] [] h (m_X0_partsIn_L4 u1 h k4_34 f w2 w3) := by
  intro f
  induction f with
  | zero => intro w2 w3; exact S_none rfl
  | succ f ih =>
    intro w2 w3
    rw [m_X0_partsIn_L4]
    refine S_iload_n 1 dX0_partsIn_4 rfl rfl ?_
    refine S_bipush 9 dX0_partsIn_5 (by decide) ?_
    refine S_icmp_ge 34 dX0_partsIn_7 (by decide) (fun c9 => ?_) (fun c9 => ?_)
    · exact Sim.sub [1] rfl (hk4_34 w2)
    · refine S_iload_n 2 dX0_partsIn_10 rfl rfl ?_
      refine S_if_eq 34 dX0_partsIn_11 (by decide) (fun c8 => ?_) (fun c8 => ?_)
      · exact Sim.sub [1] rfl (hk4_34 w2)
      · refine S_iload_n 2 dX0_partsIn_14 rfl rfl ?_
        refine S_aload_n 0 dX0_partsIn_15 rfl rfl ?_
        refine S_iload_n 2 dX0_partsIn_16 rfl rfl ?_
        refine S_iload_n 2 dX0_partsIn_17 rfl rfl ?_
        refine S_ineg dX0_partsIn_18 ?_
        refine S_iand dX0_partsIn_19 ?_
        refine S_iload_n 2 dX0_partsIn_20 rfl rfl ?_
        refine S_callV_IR (lev' := 1) (My := M_X0_reachable) [.int (w3 &&& (-w3)), .int w3] [.int w3] kc0 K_X0_reachable kw_402 kw_281 kw_282 dX0_partsIn_21 (by decide) rfl (Nat.le_of_ble_eq_true rfl) (fun xx ee => sm_X0_reachable hs u1 (w3 &&& (-w3)) w3 h xx ee) (fun x5 _ => ?_)
        refine S_iconst (-1) dX0_partsIn_24 (by decide) ?_
        refine S_ixor dX0_partsIn_25 ?_
        refine S_iand dX0_partsIn_26 ?_
        refine S_nmI (fun x6 => ?_)
        refine S_istore_n [(3, .int x6), (0, .ref u1), (2, .int w2)] dX0_partsIn_27 rfl (Nat.le_of_ble_eq_true rfl) rfl ?_
        refine S_iincN (c := 1) 2 (fun x7 => [(2, .int x7), (3, .int x6), (0, .ref u1)]) dX0_partsIn_28 rfl (by decide) (Nat.le_of_ble_eq_true rfl) (fun _ => rfl) (fun x7 => ?_)
        refine S_goto 4 dX0_partsIn_31 (by decide) ?_
        exact Sim.sub [2, 0, 1] rfl (ih x7 x6)
set_option maxRecDepth 20000 in
set_option maxHeartbeats 4000000 in
theorem ss_X0_partsIn (hs : l.stackTraces = false) (o : Nat) (p1 : Int32) (h : Hp) : Sim l G 2 M_X0_partsIn (fun v : Int32 => ((.inl (some (.int v)) : Oc), h)) 0 [(0, .ref o), (1, .int p1)] [] h (m_X0_partsIn  o p1 h) := by
  rw [m_X0_partsIn]
  refine S_iconst 0 dX0_partsIn_0 (by decide) ?_
  refine S_istore_n [(2, .int 0), (0, .ref o), (1, .int p1)] dX0_partsIn_1 rfl (Nat.le_of_ble_eq_true rfl) rfl ?_
  refine S_iload_n 2 dX0_partsIn_2 rfl rfl ?_
  refine S_istore_n [(3, .int p1), (2, .int 0), (0, .ref o), (1, .int p1)] dX0_partsIn_3 rfl (Nat.le_of_ble_eq_true rfl) rfl ?_
  refine Sim.sub [2, 1, 0] rfl (sl_X0_partsIn_L4 hs o h _ ?_ LF (0 : Int32) p1)
  · intro v4
    refine S_iload_n 0 dX0_partsIn_34 rfl rfl ?_
    exact S_ireturn rfl rfl dX0_partsIn_35
theorem sm_X0_partsIn (hs : l.stackTraces = false) (o : Nat) (p1 : Int32) (h : Hp) : ∀ x, m_X0_partsIn  o p1 h = some x → SR l G 2 M_X0_partsIn [.ref o, .int p1] h (some (.int x)) h := fun x e => SR.of K_X0_partsIn hs rfl (Nat.le_of_ble_eq_true rfl) (ss_X0_partsIn hs o p1 h) e rfl
end
section
variable {l : Launch} {G : Gx}
set_option maxRecDepth 20000 in
set_option maxHeartbeats 4000000 in
theorem sl_X0_partAt_L7 (hs : l.stackTraces = false) (u2 : Nat) (u3 : Int32) (h : Hp) (k7_38 : Int32 → Option Int32) (hk7_38 : ∀ (v6 : Int32), Sim l G 2 M_X0_partAt (fun v : Int32 => ((.inl (some (.int v)) : Oc), h)) 38 [(0, .ref u2), (1, .int u3), (2, .int v6)] [] h (k7_38 v6)) : ∀ (f : Nat) (w4 : Int32) (w5 : Int32), Sim l G 2 M_X0_partAt (fun v : Int32 => ((.inl (some (.int v)) : Oc), h)) 7 [(0, .ref u2), (1, .int u3), (2, .int w4), (3, .int w5)] [] h (m_X0_partAt_L7 u2 u3 h k7_38 f w4 w5) := by
  intro f
  induction f with
  | zero => intro w4 w5; exact S_none rfl
  | succ f ih =>
    intro w4 w5
    rw [m_X0_partAt_L7]
    refine S_iload_n 3 dX0_partAt_7 rfl rfl ?_
    refine S_iload_n 1 dX0_partAt_8 rfl rfl ?_
    refine S_icmp_ge 38 dX0_partAt_9 (by decide) (fun c11 => ?_) (fun c11 => ?_)
    · exact Sim.sub [0, 1, 2] rfl (hk7_38 w4)
    · refine S_iload_n 3 dX0_partAt_12 rfl rfl ?_
      refine S_bipush 9 dX0_partAt_13 (by decide) ?_
      refine S_icmp_ge 38 dX0_partAt_15 (by decide) (fun c10 => ?_) (fun c10 => ?_)
      · exact Sim.sub [0, 1, 2] rfl (hk7_38 w4)
      · refine S_iload_n 2 dX0_partAt_18 rfl rfl ?_
        refine S_aload_n 0 dX0_partAt_19 rfl rfl ?_
        refine S_iload_n 2 dX0_partAt_20 rfl rfl ?_
        refine S_iload_n 2 dX0_partAt_21 rfl rfl ?_
        refine S_ineg dX0_partAt_22 ?_
        refine S_iand dX0_partAt_23 ?_
        refine S_iload_n 2 dX0_partAt_24 rfl rfl ?_
        refine S_callV_IR (lev' := 1) (My := M_X0_reachable) [.int (w4 &&& (-w4)), .int w4] [.int w4] kc0 K_X0_reachable kw_402 kw_281 kw_282 dX0_partAt_25 (by decide) rfl (Nat.le_of_ble_eq_true rfl) (fun xx ee => sm_X0_reachable hs u2 (w4 &&& (-w4)) w4 h xx ee) (fun x7 _ => ?_)
        refine S_iconst (-1) dX0_partAt_28 (by decide) ?_
        refine S_ixor dX0_partAt_29 ?_
        refine S_iand dX0_partAt_30 ?_
        refine S_nmI (fun x8 => ?_)
        refine S_istore_n [(2, .int x8), (0, .ref u2), (1, .int u3), (3, .int w5)] dX0_partAt_31 rfl (Nat.le_of_ble_eq_true rfl) rfl ?_
        refine S_iincN (c := 1) 3 (fun x9 => [(3, .int x9), (2, .int x8), (0, .ref u2), (1, .int u3)]) dX0_partAt_32 rfl (by decide) (Nat.le_of_ble_eq_true rfl) (fun _ => rfl) (fun x9 => ?_)
        refine S_goto 7 dX0_partAt_35 (by decide) ?_
        exact Sim.sub [2, 3, 1, 0] rfl (ih x8 x9)
set_option maxRecDepth 20000 in
set_option maxHeartbeats 4000000 in
theorem ss_X0_partAt (hs : l.stackTraces = false) (o : Nat) (p1 : Int32) (h : Hp) : Sim l G 2 M_X0_partAt (fun v : Int32 => ((.inl (some (.int v)) : Oc), h)) 0 [(0, .ref o), (1, .int p1)] [] h (m_X0_partAt  o p1 h) := by
  rw [m_X0_partAt]
  refine S_aload_n 0 dX0_partAt_0 rfl rfl ?_
  refine S_getI kc0 (k := 4) (by decide) kw_133 dX0_partAt_1 (fun x1 _ => ?_)
  refine S_istore_n [(2, .int x1), (0, .ref o), (1, .int p1)] dX0_partAt_4 rfl (Nat.le_of_ble_eq_true rfl) rfl ?_
  refine S_iconst 0 dX0_partAt_5 (by decide) ?_
  refine S_istore_n [(3, .int 0), (2, .int x1), (0, .ref o), (1, .int p1)] dX0_partAt_6 rfl (Nat.le_of_ble_eq_true rfl) rfl ?_
  refine Sim.sub [2, 3, 1, 0] rfl (sl_X0_partAt_L7 hs o p1 h _ ?_ LF x1 (0 : Int32))
  · intro v6
    refine S_iload_n 1 dX0_partAt_38 rfl rfl ?_
    refine S_if_ge 46 dX0_partAt_39 (by decide) (fun c13 => ?_) (fun c13 => ?_)
    · refine S_aload_n 0 dX0_partAt_46 rfl rfl ?_
      refine S_iload_n 2 dX0_partAt_47 rfl rfl ?_
      refine S_iload_n 2 dX0_partAt_48 rfl rfl ?_
      refine S_ineg dX0_partAt_49 ?_
      refine S_iand dX0_partAt_50 ?_
      refine S_iload_n 2 dX0_partAt_51 rfl rfl ?_
      refine S_callV_IR (lev' := 1) (My := M_X0_reachable) [.int (v6 &&& (-v6)), .int v6] [] kc0 K_X0_reachable kw_402 kw_281 kw_282 dX0_partAt_52 (by decide) rfl (Nat.le_of_ble_eq_true rfl) (fun xx ee => sm_X0_reachable hs o (v6 &&& (-v6)) v6 h xx ee) (fun x12 _ => ?_)
      exact S_ireturn rfl rfl dX0_partAt_55
    · refine S_iconst 0 dX0_partAt_42 (by decide) ?_
      refine S_goto 55 dX0_partAt_43 (by decide) ?_
      exact S_ireturn rfl rfl dX0_partAt_55
theorem sm_X0_partAt (hs : l.stackTraces = false) (o : Nat) (p1 : Int32) (h : Hp) : ∀ x, m_X0_partAt  o p1 h = some x → SR l G 2 M_X0_partAt [.ref o, .int p1] h (some (.int x)) h := fun x e => SR.of K_X0_partAt hs rfl (Nat.le_of_ble_eq_true rfl) (ss_X0_partAt hs o p1 h) e rfl
end
