/-! printed by wip/whole/emit.py: walks -/
section
variable {l : Launch} {G : Gx}
set_option maxRecDepth 20000 in
set_option maxHeartbeats 4000000 in
theorem ss_X3_readWord (hs : l.stackTraces = false) (o : Nat) (p1 : Nat) (h : Hp) : Sim l G 9 M_X3_readWord (fun p : Bool × Hp => ((.inl (some (.int (bI p.1))) : Oc), p.2)) 0 [(0, .ref o), (1, .retAddr p1)] [] h (m_X3_readWord  o p1 h) := by
  rw [m_X3_readWord]
  refine S_aload_n 0 dX3_readWord_0 rfl rfl ?_
  refine S_sload_n 1 dX3_readWord_1 rfl rfl ?_
  refine S_callV_BR (lev' := 8) (My := M_X3_atWord) [.retAddr p1] [] kc3 K_X3_atWord kw_580 kw_582 kw_14 dX3_readWord_2 (by decide) rfl (Nat.le_of_ble_eq_true rfl) (fun xx ee => sm_X3_atWord hs o p1 h xx ee) (fun bb1 _ => ?_)
  refine S_if_neB 15 dX3_readWord_5 (by decide) (fun c5 => ?_) (fun c5 => ?_)
  · refine S_aload_n 0 dX3_readWord_15 rfl rfl ?_
    refine S_callV_VW (lev' := 1) (My := M_X3_advance) [] [] kc3 K_X3_advance kw_556 kw_558 kw_10 dX3_readWord_16 (by decide) rfl (Nat.le_of_ble_eq_true rfl) (fun xx ee => sm_X3_advance hs o h xx ee) (fun h2 _ => ?_)
    refine S_iconst 1 dX3_readWord_19 (by decide) ?_
    exact S_zreturn (b := true) rfl rfl dX3_readWord_20
  · refine S_aload_n 0 dX3_readWord_8 rfl rfl ?_
    refine S_bipush (-2) dX3_readWord_9 (by decide) ?_
    refine S_callV_BW (lev' := 0) (My := M_X3_fail) [.int (-2)] [] kc3 K_X3_fail kw_632 kw_634 kw_15 dX3_readWord_11 (by decide) rfl (Nat.le_of_ble_eq_true rfl) (fun xx yy ee => sm_X3_fail hs o (-2 : Int32) h xx yy ee) (fun bb3 h4 _ => ?_)
    exact S_zreturn (b := bb3) rfl rfl dX3_readWord_14
theorem sm_X3_readWord (hs : l.stackTraces = false) (o : Nat) (p1 : Nat) (h : Hp) : ∀ x h1, m_X3_readWord  o p1 h = some (x, h1) → SR l G 9 M_X3_readWord [.ref o, .retAddr p1] h (some (.int (bI x))) h1 := fun x h1 e => SR.of K_X3_readWord hs rfl (Nat.le_of_ble_eq_true rfl) (ss_X3_readWord hs o p1 h) e rfl
end
section
variable {l : Launch} {G : Gx}
set_option maxRecDepth 20000 in
set_option maxHeartbeats 4000000 in
theorem sl_X6_load_L65 (hs : l.stackTraces = false) (u14 : Nat) (k65_85 : Hp → Option (Int32 × Hp)) (hk65_85 : ∀ (h16 : Hp), Sim l G 10 M_X6_load (fun p : Int32 × Hp => ((.inl (some (.int p.1)) : Oc), p.2)) 85 [(0, .ref u14)] [] h16 (k65_85 h16)) : ∀ (f : Nat) (w15 : Int32) (h : Hp), Sim l G 10 M_X6_load (fun p : Int32 × Hp => ((.inl (some (.int p.1)) : Oc), p.2)) 65 [(0, .ref u14), (2, .int w15)] [] h (m_X6_load_L65 u14 k65_85 f w15 h) := by
  intro f
  induction f with
  | zero => intro w15 h; exact S_none rfl
  | succ f ih =>
    intro w15 h
    rw [m_X6_load_L65]
    refine S_iload_n 1 dX6_load_65 rfl rfl ?_
    refine S_sipush 4136 dX6_load_66 (by decide) ?_
    refine S_icmp_ge 85 dX6_load_69 (by decide) (fun c20 => ?_) (fun c20 => ?_)
    · exact Sim.sub [0] rfl (hk65_85 h)
    · refine S_aload_n 0 dX6_load_72 rfl rfl ?_
      refine S_getR kc6 (k := 0) (by decide) kw_1040 dX6_load_73 (fun a17 _ => ?_)
      refine S_iload_n 1 dX6_load_76 rfl rfl ?_
      refine S_iconst 0 dX6_load_77 (by decide) ?_
      refine S_iastore dX6_load_78 (fun h18 _ => ?_)
      refine S_iincN (c := 1) 1 (fun x19 => [(2, .int x19), (0, .ref u14)]) dX6_load_79 rfl (by decide) (Nat.le_of_ble_eq_true rfl) (fun _ => rfl) (fun x19 => ?_)
      refine S_goto 65 dX6_load_82 (by decide) ?_
      exact Sim.sub [1, 0] rfl (ih x19 h18)
set_option maxRecDepth 20000 in
set_option maxHeartbeats 4000000 in
theorem ss_X6_load (hs : l.stackTraces = false) (o : Nat) (p1 : Int32) (h : Hp) : Sim l G 10 M_X6_load (fun p : Int32 × Hp => ((.inl (some (.int p.1)) : Oc), p.2)) 0 [(0, .ref o), (1, .int p1)] [] h (m_X6_load  o p1 h) := by
  rw [m_X6_load]
  refine S_aload_n 0 dX6_load_0 rfl rfl ?_
  refine S_iload_n 1 dX6_load_1 rfl rfl ?_
  refine S_iconst 0 dX6_load_2 (by decide) ?_
  refine S_aload_n 0 dX6_load_3 rfl rfl ?_
  refine S_getI kc6 (k := 9) (by decide) kw_1049 dX6_load_4 (fun x1 _ => ?_)
  refine S_callS_BR (lev' := 0) (My := M_X6_isIn) [.int p1, .int 0, .int x1] [.ref o] K_X6_isIn kw_1127 kw_1128 dX6_load_7 (by decide) rfl (Nat.le_of_ble_eq_true rfl) (fun xx ee => sm_X6_isIn hs p1 (0 : Int32) x1 _ xx ee) (fun bb2 _ => ?_)
  refine S_jK (fun (k4 : Bool → Option (Int32 × Hp)) => ∀ (v3 : Bool), Sim l G 10 M_X6_load (fun p : Int32 × Hp => ((.inl (some (.int p.1)) : Oc), p.2)) 18 [(0, .ref o), (1, .int p1)] [.int (bI v3), .ref o] h (k4 v3)) ?_ (fun k4 hk4 => ?_)
  · intro v3
    refine S_put kc6 (k := 7) (by decide) rfl kw_1047 rfl rfl dX6_load_18 (fun h5 _ => ?_)
    refine S_aload_n 0 dX6_load_21 rfl rfl ?_
    refine S_getI kc6 (k := 7) (by decide) kw_1047 dX6_load_22 (fun x6 _ => ?_)
    refine S_if_le 30 dX6_load_25 (by decide) (fun c44 => ?_) (fun c44 => ?_)
    · refine S_aload_n 0 dX6_load_30 rfl rfl ?_
      refine S_iload_n 1 dX6_load_31 rfl rfl ?_
      refine S_put kc6 (k := 10) (by decide) rfl kw_1050 rfl rfl dX6_load_32 (fun h7 _ => ?_)
      refine S_aload_n 0 dX6_load_35 rfl rfl ?_
      refine S_iconst 0 dX6_load_36 (by decide) ?_
      refine S_put kc6 (k := 9) (by decide) rfl kw_1049 rfl rfl dX6_load_37 (fun h8 _ => ?_)
      refine S_aload_n 0 dX6_load_40 rfl rfl ?_
      refine S_iconst 0 dX6_load_41 (by decide) ?_
      refine S_put kc6 (k := 12) (by decide) rfl kw_1052 rfl rfl dX6_load_42 (fun h9 _ => ?_)
      refine S_aload_n 0 dX6_load_45 rfl rfl ?_
      refine S_iconst 0 dX6_load_46 (by decide) ?_
      refine S_put kc6 (k := 15) (by decide) rfl kw_1055 rfl rfl dX6_load_47 (fun h10 _ => ?_)
      refine S_aload_n 0 dX6_load_50 rfl rfl ?_
      refine S_getR kc6 (k := 1) (by decide) kw_1041 dX6_load_51 (fun a11 _ => ?_)
      refine S_iconst 0 dX6_load_54 (by decide) ?_
      refine S_aload_n 0 dX6_load_55 rfl rfl ?_
      refine S_getR kc6 (k := 0) (by decide) kw_1040 dX6_load_56 (fun a12 _ => ?_)
      refine S_iconst 0 dX6_load_59 (by decide) ?_
      refine S_callS_VW (lev' := 0) (My := M_X6_sets) [.ref a11, .int 0, .ref a12, .int 0] [] K_X6_sets kw_1116 kw_1117 dX6_load_60 (by decide) rfl (Nat.le_of_ble_eq_true rfl) (fun xx ee => sm_X6_sets hs a11 (0 : Int32) a12 (0 : Int32) h10 xx ee) (fun h13 _ => ?_)
      refine S_iconst 0 dX6_load_63 (by decide) ?_
      refine S_istore_n [(2, .int 0), (0, .ref o), (1, .int p1)] dX6_load_64 rfl (Nat.le_of_ble_eq_true rfl) rfl ?_
      refine Sim.sub [1, 0] rfl (sl_X6_load_L65 hs o _ ?_ LF (0 : Int32) h13)
      · intro h16
        refine S_aload_n 0 dX6_load_85 rfl rfl ?_
        refine S_callV_VW (lev' := 1) (My := M_X6_next) [] [] kc6 K_X6_next kw_1130 kw_1132 kw_28 dX6_load_86 (by decide) rfl (Nat.le_of_ble_eq_true rfl) (fun xx ee => sm_X6_next hs o h16 xx ee) (fun h21 _ => ?_)
        refine S_aload_n 0 dX6_load_89 rfl rfl ?_
        refine S_callV_VW (lev' := 9) (My := M_X6_reads) [] [] kc6 K_X6_reads kw_1138 kw_1140 kw_30 dX6_load_90 (by decide) rfl (Nat.le_of_ble_eq_true rfl) (fun xx ee => sm_X6_reads hs o h21 xx ee) (fun h22 _ => ?_)
        refine S_aload_n 0 dX6_load_93 rfl rfl ?_
        refine S_aload_n 0 dX6_load_94 rfl rfl ?_
        refine S_getI kc6 (k := 15) (by decide) kw_1055 dX6_load_95 (fun x23 _ => ?_)
        refine S_jK (fun (k25 : Int32 → Option (Int32 × Hp)) => ∀ (v24 : Int32), Sim l G 10 M_X6_load (fun p : Int32 × Hp => ((.inl (some (.int p.1)) : Oc), p.2)) 109 [(0, .ref o)] [.int v24, .ref o] h22 (k25 v24)) ?_ (fun k25 hk25 => ?_)
        · intro v24
          refine S_put kc6 (k := 17) (by decide) rfl kw_1057 rfl rfl dX6_load_109 (fun h26 _ => ?_)
          refine S_aload_n 0 dX6_load_112 rfl rfl ?_
          refine S_getR kc6 (k := 2) (by decide) kw_1042 dX6_load_113 (fun a27 _ => ?_)
          refine S_iconst 0 dX6_load_116 (by decide) ?_
          refine S_aload_n 0 dX6_load_117 rfl rfl ?_
          refine S_getR kc6 (k := 0) (by decide) kw_1040 dX6_load_118 (fun a28 _ => ?_)
          refine S_iconst 0 dX6_load_121 (by decide) ?_
          refine S_callS_VW (lev' := 0) (My := M_X6_sets) [.ref a27, .int 0, .ref a28, .int 0] [] K_X6_sets kw_1116 kw_1117 dX6_load_122 (by decide) rfl (Nat.le_of_ble_eq_true rfl) (fun xx ee => sm_X6_sets hs a27 (0 : Int32) a28 (0 : Int32) h26 xx ee) (fun h29 _ => ?_)
          refine S_aload_n 0 dX6_load_125 rfl rfl ?_
          refine S_getR kc6 (k := 0) (by decide) kw_1040 dX6_load_126 (fun a30 _ => ?_)
          refine S_iconst 0 dX6_load_129 (by decide) ?_
          refine S_aload_n 0 dX6_load_130 rfl rfl ?_
          refine S_getR kc6 (k := 1) (by decide) kw_1041 dX6_load_131 (fun a31 _ => ?_)
          refine S_iconst 0 dX6_load_134 (by decide) ?_
          refine S_callS_VW (lev' := 0) (My := M_X6_sets) [.ref a30, .int 0, .ref a31, .int 0] [] K_X6_sets kw_1116 kw_1117 dX6_load_135 (by decide) rfl (Nat.le_of_ble_eq_true rfl) (fun xx ee => sm_X6_sets hs a30 (0 : Int32) a31 (0 : Int32) h29 xx ee) (fun h32 _ => ?_)
          refine S_aload_n 0 dX6_load_138 rfl rfl ?_
          refine S_getI kc6 (k := 15) (by decide) kw_1055 dX6_load_139 (fun x33 _ => ?_)
          refine S_if_eq 150 dX6_load_142 (by decide) (fun c41 => ?_) (fun c41 => ?_)
          · refine S_aload_n 0 dX6_load_150 rfl rfl ?_
            refine S_callV_VW (lev' := 1) (My := M_X6_keeps) [] [] kc6 K_X6_keeps kw_1260 kw_1262 kw_57 dX6_load_151 (by decide) rfl (Nat.le_of_ble_eq_true rfl) (fun xx ee => sm_X6_keeps hs o h32 xx ee) (fun h34 _ => ?_)
            refine S_aload_n 0 dX6_load_154 rfl rfl ?_
            refine S_getR kc6 (k := 0) (by decide) kw_1040 dX6_load_155 (fun a35 _ => ?_)
            refine S_iconst 0 dX6_load_158 (by decide) ?_
            refine S_aload_n 0 dX6_load_159 rfl rfl ?_
            refine S_getR kc6 (k := 2) (by decide) kw_1042 dX6_load_160 (fun a36 _ => ?_)
            refine S_iconst 0 dX6_load_163 (by decide) ?_
            refine S_callS_VW (lev' := 0) (My := M_X6_sets) [.ref a35, .int 0, .ref a36, .int 0] [] K_X6_sets kw_1116 kw_1117 dX6_load_164 (by decide) rfl (Nat.le_of_ble_eq_true rfl) (fun xx ee => sm_X6_sets hs a35 (0 : Int32) a36 (0 : Int32) h34 xx ee) (fun h37 _ => ?_)
            refine S_aload_n 0 dX6_load_167 rfl rfl ?_
            refine S_getR kc6 (k := 0) (by decide) kw_1040 dX6_load_168 (fun a38 _ => ?_)
            refine S_iconst 0 dX6_load_171 (by decide) ?_
            refine S_iaload dX6_load_172 (fun x39 _ => ?_)
            exact S_ireturn rfl rfl dX6_load_173
          · refine S_aload_n 0 dX6_load_145 rfl rfl ?_
            refine S_getI kc6 (k := 15) (by decide) kw_1055 dX6_load_146 (fun x40 _ => ?_)
            exact S_ireturn rfl rfl dX6_load_149
        refine S_if_ne 105 dX6_load_98 (by decide) (fun c43 => ?_) (fun c43 => ?_)
        · refine S_aload_n 0 dX6_load_105 rfl rfl ?_
          refine S_getI kc6 (k := 16) (by decide) kw_1056 dX6_load_106 (fun x42 _ => ?_)
          exact Sim.sub [0] rfl (hk25 x42)
        · refine S_iconst (-1) dX6_load_101 (by decide) ?_
          refine S_goto 109 dX6_load_102 (by decide) ?_
          exact Sim.sub [0] rfl (hk25 (-1 : Int32))
    · refine S_iconst 0 dX6_load_28 (by decide) ?_
      exact S_ireturn rfl rfl dX6_load_29
  refine S_if_eqB 17 dX6_load_10 (by decide) (fun c45 => ?_) (fun c45 => ?_)
  · refine S_iconst 1 dX6_load_17 (by decide) ?_
    exact Sim.sub [0, 1] rfl (hk4 true)
  · refine S_iconst 0 dX6_load_13 (by decide) ?_
    refine S_goto 18 dX6_load_14 (by decide) ?_
    exact Sim.sub [0, 1] rfl (hk4 false)
theorem sm_X6_load (hs : l.stackTraces = false) (o : Nat) (p1 : Int32) (h : Hp) : ∀ x h1, m_X6_load  o p1 h = some (x, h1) → SR l G 10 M_X6_load [.ref o, .int p1] h (some (.int x)) h1 := fun x h1 e => SR.of K_X6_load hs rfl (Nat.le_of_ble_eq_true rfl) (ss_X6_load hs o p1 h) e rfl
end
section
variable {l : Launch} {G : Gx}
set_option maxRecDepth 20000 in
set_option maxHeartbeats 4000000 in
theorem ss_X3_readHead (hs : l.stackTraces = false) (o : Nat) (h : Hp) : Sim l G 10 M_X3_readHead (fun p : Bool × Hp => ((.inl (some (.int (bI p.1))) : Oc), p.2)) 0 [(0, .ref o)] [] h (m_X3_readHead  o h) := by
  rw [m_X3_readHead]
  refine S_aload_n 0 dX3_readHead_0 rfl rfl ?_
  refine S_ldcS 0 _ kn_575 rfl dX3_readHead_1 ?_
  refine S_callV_BW (lev' := 9) (My := M_X3_readWord) [.retAddr 0] [] kc3 K_X3_readWord kw_576 kw_578 kw_13 dX3_readHead_3 (by decide) rfl (Nat.le_of_ble_eq_true rfl) (fun xx yy ee => sm_X3_readWord hs o 0 h xx yy ee) (fun bb1 h2 _ => ?_)
  refine S_if_neB 11 dX3_readHead_6 (by decide) (fun c20 => ?_) (fun c20 => ?_)
  · refine S_aload_n 0 dX3_readHead_11 rfl rfl ?_
    refine S_iconst 1 dX3_readHead_12 (by decide) ?_
    refine S_iconst 3 dX3_readHead_13 (by decide) ?_
    refine S_callV_IW (lev' := 2) (My := M_X3_readNumber) [.int 1, .int 3] [] kc3 K_X3_readNumber kw_636 kw_638 kw_16 dX3_readHead_14 (by decide) rfl (Nat.le_of_ble_eq_true rfl) (fun xx yy ee => sm_X3_readNumber hs o (1 : Int32) (3 : Int32) h2 xx yy ee) (fun x3 h4 _ => ?_)
    refine S_istore_n [(1, .int x3), (0, .ref o)] dX3_readHead_17 rfl (Nat.le_of_ble_eq_true rfl) rfl ?_
    refine S_iload_n 0 dX3_readHead_18 rfl rfl ?_
    refine S_iconst (-1) dX3_readHead_19 (by decide) ?_
    refine S_icmp_ne 25 dX3_readHead_20 (by decide) (fun c19 => ?_) (fun c19 => ?_)
    · refine S_aload_n 1 dX3_readHead_25 rfl rfl ?_
      refine S_getR kc3 (k := 0) (by decide) kw_188 dX3_readHead_26 (fun a5 _ => ?_)
      refine S_iload_n 0 dX3_readHead_29 rfl rfl ?_
      refine S_callV_VW (lev' := 1) (My := M_X0_startEmpty) [.int x3] [] kc0 K_X0_startEmpty kw_640 kw_641 kw_642 dX3_readHead_30 (by decide) rfl (Nat.le_of_ble_eq_true rfl) (fun xx ee => sm_X0_startEmpty hs a5 x3 h4 xx ee) (fun h6 _ => ?_)
      refine S_aload_n 1 dX3_readHead_33 rfl rfl ?_
      refine S_ldcS 1 _ kn_647 rfl dX3_readHead_34 ?_
      refine S_callV_BR (lev' := 8) (My := M_X3_atWord) [.retAddr 1] [] kc3 K_X3_atWord kw_580 kw_582 kw_14 dX3_readHead_36 (by decide) rfl (Nat.le_of_ble_eq_true rfl) (fun xx ee => sm_X3_atWord hs o 1 h6 xx ee) (fun bb7 _ => ?_)
      refine S_jK (fun (k9 : Hp → Option (Bool × Hp)) => ∀ (h8 : Hp), Sim l G 10 M_X3_readHead (fun p : Bool × Hp => ((.inl (some (.int (bI p.1))) : Oc), p.2)) 69 [(0, .ref o)] [] h8 (k9 h8)) ?_ (fun k9 hk9 => ?_)
      · intro h8
        refine S_aload_n 0 dX3_readHead_69 rfl rfl ?_
        refine S_callV_BW (lev' := 2) (My := M_X3_readSemicolon) [] [] kc3 K_X3_readSemicolon kw_648 kw_650 kw_17 dX3_readHead_70 (by decide) rfl (Nat.le_of_ble_eq_true rfl) (fun xx yy ee => sm_X3_readSemicolon hs o h8 xx yy ee) (fun bb10 h11 _ => ?_)
        exact S_zreturn (b := bb10) rfl rfl dX3_readHead_73
      refine S_if_eqB 69 dX3_readHead_39 (by decide) (fun c18 => ?_) (fun c18 => ?_)
      · exact Sim.sub [1] rfl (hk9 h6)
      · refine S_aload_n 1 dX3_readHead_42 rfl rfl ?_
        refine S_callV_VW (lev' := 1) (My := M_X3_advance) [] [] kc3 K_X3_advance kw_556 kw_558 kw_10 dX3_readHead_43 (by decide) rfl (Nat.le_of_ble_eq_true rfl) (fun xx ee => sm_X3_advance hs o h6 xx ee) (fun h12 _ => ?_)
        refine S_aload_n 1 dX3_readHead_46 rfl rfl ?_
        refine S_iconst 0 dX3_readHead_47 (by decide) ?_
        refine S_bipush 9 dX3_readHead_48 (by decide) ?_
        refine S_callV_IW (lev' := 2) (My := M_X3_readNumber) [.int 0, .int 9] [] kc3 K_X3_readNumber kw_636 kw_638 kw_16 dX3_readHead_50 (by decide) rfl (Nat.le_of_ble_eq_true rfl) (fun xx yy ee => sm_X3_readNumber hs o (0 : Int32) (9 : Int32) h12 xx yy ee) (fun x13 h14 _ => ?_)
        refine S_istore_n [(2, .int x13), (1, .int x3), (0, .ref o)] dX3_readHead_53 rfl (Nat.le_of_ble_eq_true rfl) rfl ?_
        refine S_iload_n 0 dX3_readHead_54 rfl rfl ?_
        refine S_iconst (-1) dX3_readHead_55 (by decide) ?_
        refine S_icmp_ne 61 dX3_readHead_56 (by decide) (fun c17 => ?_) (fun c17 => ?_)
        · refine S_aload_n 2 dX3_readHead_61 rfl rfl ?_
          refine S_getR kc3 (k := 0) (by decide) kw_188 dX3_readHead_62 (fun a15 _ => ?_)
          refine S_iload_n 0 dX3_readHead_65 rfl rfl ?_
          refine S_put kc0 (k := 3) (by decide) rfl kw_131 rfl rfl dX3_readHead_66 (fun h16 _ => ?_)
          exact Sim.sub [2] rfl (hk9 h16)
        · refine S_iconst 0 dX3_readHead_59 (by decide) ?_
          exact S_zreturn (b := false) rfl rfl dX3_readHead_60
    · refine S_iconst 0 dX3_readHead_23 (by decide) ?_
      exact S_zreturn (b := false) rfl rfl dX3_readHead_24
  · refine S_iconst 0 dX3_readHead_9 (by decide) ?_
    exact S_zreturn (b := false) rfl rfl dX3_readHead_10
theorem sm_X3_readHead (hs : l.stackTraces = false) (o : Nat) (h : Hp) : ∀ x h1, m_X3_readHead  o h = some (x, h1) → SR l G 10 M_X3_readHead [.ref o] h (some (.int (bI x))) h1 := fun x h1 e => SR.of K_X3_readHead hs rfl (Nat.le_of_ble_eq_true rfl) (ss_X3_readHead hs o h) e rfl
end
section
variable {l : Launch} {G : Gx}
set_option maxRecDepth 20000 in
set_option maxHeartbeats 4000000 in
theorem ss_X3_readVertex (hs : l.stackTraces = false) (o : Nat) (h : Hp) : Sim l G 10 M_X3_readVertex (fun p : Bool × Hp => ((.inl (some (.int (bI p.1))) : Oc), p.2)) 0 [(0, .ref o)] [] h (m_X3_readVertex  o h) := by
  rw [m_X3_readVertex]
  refine S_aload_n 0 dX3_readVertex_0 rfl rfl ?_
  refine S_ldcS 2 _ kn_660 rfl dX3_readVertex_1 ?_
  refine S_callV_BR (lev' := 8) (My := M_X3_atWord) [.retAddr 2] [] kc3 K_X3_atWord kw_580 kw_582 kw_14 dX3_readVertex_3 (by decide) rfl (Nat.le_of_ble_eq_true rfl) (fun xx ee => sm_X3_atWord hs o 2 h xx ee) (fun bb1 _ => ?_)
  refine S_jK (fun (k2 : Option (Bool × Hp)) => Sim l G 10 M_X3_readVertex (fun p : Bool × Hp => ((.inl (some (.int (bI p.1))) : Oc), p.2)) 26 [(0, .ref o)] [] h (k2)) ?_ (fun k2 hk2 => ?_)
  · refine S_aload_n 0 dX3_readVertex_26 rfl rfl ?_
    refine S_ldcS 2 _ kn_660 rfl dX3_readVertex_27 ?_
    refine S_callV_BW (lev' := 9) (My := M_X3_readWord) [.retAddr 2] [] kc3 K_X3_readWord kw_576 kw_578 kw_13 dX3_readVertex_29 (by decide) rfl (Nat.le_of_ble_eq_true rfl) (fun xx yy ee => sm_X3_readWord hs o 2 h xx yy ee) (fun bb3 h4 _ => ?_)
    refine S_if_neB 37 dX3_readVertex_32 (by decide) (fun c21 => ?_) (fun c21 => ?_)
    · refine S_aload_n 0 dX3_readVertex_37 rfl rfl ?_
      refine S_getR kc3 (k := 0) (by decide) kw_188 dX3_readVertex_38 (fun a5 _ => ?_)
      refine S_callV_IR (lev' := 0) (My := M_X0_everyColour) [] [] kc0 K_X0_everyColour kw_665 kw_666 kw_667 dX3_readVertex_41 (by decide) rfl (Nat.le_of_ble_eq_true rfl) (fun xx ee => sm_X0_everyColour hs a5 h4 xx ee) (fun x6 _ => ?_)
      refine S_istore_n [(1, .int x6), (0, .ref o)] dX3_readVertex_44 rfl (Nat.le_of_ble_eq_true rfl) rfl ?_
      refine S_aload_n 1 dX3_readVertex_45 rfl rfl ?_
      refine S_getI kc3 (k := 6) (by decide) kw_197 dX3_readVertex_46 (fun x7 _ => ?_)
      refine S_iconst 1 dX3_readVertex_49 (by decide) ?_
      refine S_jK (fun (k10 : Int32 → Hp → Option (Bool × Hp)) => ∀ (v8 : Int32) (h9 : Hp), Sim l G 10 M_X3_readVertex (fun p : Bool × Hp => ((.inl (some (.int (bI p.1))) : Oc), p.2)) 73 [(0, .ref o), (1, .int v8)] [] h9 (k10 v8 h9)) ?_ (fun k10 hk10 => ?_)
      · intro v8 h9
        refine S_aload_n 0 dX3_readVertex_73 rfl rfl ?_
        refine S_getR kc3 (k := 0) (by decide) kw_188 dX3_readVertex_74 (fun a11 _ => ?_)
        refine S_iload_n 1 dX3_readVertex_77 rfl rfl ?_
        refine S_callV_VW (lev' := 1) (My := M_X0_addVertex) [.int v8] [] kc0 K_X0_addVertex kw_674 kw_675 kw_676 dX3_readVertex_78 (by decide) rfl (Nat.le_of_ble_eq_true rfl) (fun xx ee => sm_X0_addVertex hs a11 v8 h9 xx ee) (fun h12 _ => ?_)
        refine S_aload_n 0 dX3_readVertex_81 rfl rfl ?_
        refine S_callV_BW (lev' := 2) (My := M_X3_readSemicolon) [] [] kc3 K_X3_readSemicolon kw_648 kw_650 kw_17 dX3_readVertex_82 (by decide) rfl (Nat.le_of_ble_eq_true rfl) (fun xx yy ee => sm_X3_readSemicolon hs o h12 xx yy ee) (fun bb13 h14 _ => ?_)
        exact S_zreturn (b := bb13) rfl rfl dX3_readVertex_85
      refine S_icmp_ne 73 dX3_readVertex_50 (by decide) (fun c20 => ?_) (fun c20 => ?_)
      · exact Sim.sub [1, 0] rfl (hk10 x6 h4)
      · refine S_aload_n 1 dX3_readVertex_53 rfl rfl ?_
        refine S_callV_IR (lev' := 1) (My := M_X3_listHere) [] [] kc3 K_X3_listHere kw_669 kw_671 kw_20 dX3_readVertex_54 (by decide) rfl (Nat.le_of_ble_eq_true rfl) (fun xx ee => sm_X3_listHere hs o h4 xx ee) (fun x15 _ => ?_)
        refine S_istore_n [(1, .int x15), (0, .ref o)] dX3_readVertex_57 rfl (Nat.le_of_ble_eq_true rfl) rfl ?_
        refine S_iload_n 0 dX3_readVertex_58 rfl rfl ?_
        refine S_if_ne 69 dX3_readVertex_59 (by decide) (fun c19 => ?_) (fun c19 => ?_)
        · refine S_aload_n 1 dX3_readVertex_69 rfl rfl ?_
          refine S_callV_VW (lev' := 1) (My := M_X3_advance) [] [] kc3 K_X3_advance kw_556 kw_558 kw_10 dX3_readVertex_70 (by decide) rfl (Nat.le_of_ble_eq_true rfl) (fun xx ee => sm_X3_advance hs o h4 xx ee) (fun h16 _ => ?_)
          exact Sim.sub [1, 0] rfl (hk10 x15 h16)
        · refine S_aload_n 1 dX3_readVertex_62 rfl rfl ?_
          refine S_bipush (-3) dX3_readVertex_63 (by decide) ?_
          refine S_callV_BW (lev' := 0) (My := M_X3_fail) [.int (-3)] [] kc3 K_X3_fail kw_632 kw_634 kw_15 dX3_readVertex_65 (by decide) rfl (Nat.le_of_ble_eq_true rfl) (fun xx yy ee => sm_X3_fail hs o (-3 : Int32) h4 xx yy ee) (fun bb17 h18 _ => ?_)
          exact S_zreturn (b := bb17) rfl rfl dX3_readVertex_68
    · refine S_iconst 0 dX3_readVertex_35 (by decide) ?_
      exact S_zreturn (b := false) rfl rfl dX3_readVertex_36
  refine S_if_eqB 26 dX3_readVertex_6 (by decide) (fun c27 => ?_) (fun c27 => ?_)
  · exact Sim.sub [0] rfl (hk2)
  · refine S_aload_n 0 dX3_readVertex_9 rfl rfl ?_
    refine S_getR kc3 (k := 0) (by decide) kw_188 dX3_readVertex_10 (fun a22 _ => ?_)
    refine S_callV_BR (lev' := 0) (My := M_X0_isFull) [] [] kc0 K_X0_isFull kw_661 kw_662 kw_663 dX3_readVertex_13 (by decide) rfl (Nat.le_of_ble_eq_true rfl) (fun xx ee => sm_X0_isFull hs a22 h xx ee) (fun bb23 _ => ?_)
    refine S_if_eqB 26 dX3_readVertex_16 (by decide) (fun c26 => ?_) (fun c26 => ?_)
    · exact Sim.sub [0] rfl (hk2)
    · refine S_aload_n 0 dX3_readVertex_19 rfl rfl ?_
      refine S_bipush (-6) dX3_readVertex_20 (by decide) ?_
      refine S_callV_BW (lev' := 0) (My := M_X3_fail) [.int (-6)] [] kc3 K_X3_fail kw_632 kw_634 kw_15 dX3_readVertex_22 (by decide) rfl (Nat.le_of_ble_eq_true rfl) (fun xx yy ee => sm_X3_fail hs o (-6 : Int32) h xx yy ee) (fun bb24 h25 _ => ?_)
      exact S_zreturn (b := bb24) rfl rfl dX3_readVertex_25
theorem sm_X3_readVertex (hs : l.stackTraces = false) (o : Nat) (h : Hp) : ∀ x h1, m_X3_readVertex  o h = some (x, h1) → SR l G 10 M_X3_readVertex [.ref o] h (some (.int (bI x))) h1 := fun x h1 e => SR.of K_X3_readVertex hs rfl (Nat.le_of_ble_eq_true rfl) (ss_X3_readVertex hs o h) e rfl
end
section
variable {l : Launch} {G : Gx}
set_option maxRecDepth 20000 in
set_option maxHeartbeats 4000000 in
theorem ss_X3_readEdge (hs : l.stackTraces = false) (o : Nat) (h : Hp) : Sim l G 10 M_X3_readEdge (fun p : Bool × Hp => ((.inl (some (.int (bI p.1))) : Oc), p.2)) 0 [(0, .ref o)] [] h (m_X3_readEdge  o h) := by
  rw [m_X3_readEdge]
  refine S_aload_n 0 dX3_readEdge_0 rfl rfl ?_
  refine S_ldcS 3 _ kn_682 rfl dX3_readEdge_1 ?_
  refine S_callV_BW (lev' := 9) (My := M_X3_readWord) [.retAddr 3] [] kc3 K_X3_readWord kw_576 kw_578 kw_13 dX3_readEdge_3 (by decide) rfl (Nat.le_of_ble_eq_true rfl) (fun xx yy ee => sm_X3_readWord hs o 3 h xx yy ee) (fun bb1 h2 _ => ?_)
  refine S_if_neB 11 dX3_readEdge_6 (by decide) (fun c34 => ?_) (fun c34 => ?_)
  · refine S_aload_n 0 dX3_readEdge_11 rfl rfl ?_
    refine S_iconst 0 dX3_readEdge_12 (by decide) ?_
    refine S_aload_n 0 dX3_readEdge_13 rfl rfl ?_
    refine S_getR kc3 (k := 0) (by decide) kw_188 dX3_readEdge_14 (fun a3 _ => ?_)
    refine S_getI kc0 (k := 2) (by decide) kw_129 dX3_readEdge_17 (fun x4 _ => ?_)
    refine S_iconst 1 dX3_readEdge_20 (by decide) ?_
    refine S_isub dX3_readEdge_21 ?_
    refine S_callV_IW (lev' := 2) (My := M_X3_readNumber) [.int 0, .int (x4 - (1 : Int32))] [] kc3 K_X3_readNumber kw_636 kw_638 kw_16 dX3_readEdge_22 (by decide) rfl (Nat.le_of_ble_eq_true rfl) (fun xx yy ee => sm_X3_readNumber hs o (0 : Int32) (x4 - (1 : Int32)) h2 xx yy ee) (fun x5 h6 _ => ?_)
    refine S_istore_n [(1, .int x5), (0, .ref o)] dX3_readEdge_25 rfl (Nat.le_of_ble_eq_true rfl) rfl ?_
    refine S_iload_n 0 dX3_readEdge_26 rfl rfl ?_
    refine S_iconst (-1) dX3_readEdge_27 (by decide) ?_
    refine S_icmp_ne 33 dX3_readEdge_28 (by decide) (fun c33 => ?_) (fun c33 => ?_)
    · refine S_aload_n 1 dX3_readEdge_33 rfl rfl ?_
      refine S_getI kc3 (k := 6) (by decide) kw_197 dX3_readEdge_34 (fun x7 _ => ?_)
      refine S_iconst 2 dX3_readEdge_37 (by decide) ?_
      refine S_jK (fun (k8 : Option (Bool × Hp)) => Sim l G 10 M_X3_readEdge (fun p : Bool × Hp => ((.inl (some (.int (bI p.1))) : Oc), p.2)) 56 [(0, .ref o), (1, .int x5)] [] h6 (k8)) ?_ (fun k8 hk8 => ?_)
      · refine S_aload_n 0 dX3_readEdge_56 rfl rfl ?_
        refine S_getI kc3 (k := 6) (by decide) kw_197 dX3_readEdge_57 (fun x9 _ => ?_)
        refine S_iconst 2 dX3_readEdge_60 (by decide) ?_
        refine S_jK (fun (k10 : Option (Bool × Hp)) => Sim l G 10 M_X3_readEdge (fun p : Bool × Hp => ((.inl (some (.int (bI p.1))) : Oc), p.2)) 89 [(0, .ref o), (1, .int x5)] [] h6 (k10)) ?_ (fun k10 hk10 => ?_)
        · refine S_aload_n 0 dX3_readEdge_89 rfl rfl ?_
          refine S_iconst 0 dX3_readEdge_90 (by decide) ?_
          refine S_aload_n 0 dX3_readEdge_91 rfl rfl ?_
          refine S_getR kc3 (k := 0) (by decide) kw_188 dX3_readEdge_92 (fun a11 _ => ?_)
          refine S_getI kc0 (k := 2) (by decide) kw_129 dX3_readEdge_95 (fun x12 _ => ?_)
          refine S_iconst 1 dX3_readEdge_98 (by decide) ?_
          refine S_isub dX3_readEdge_99 ?_
          refine S_callV_IW (lev' := 2) (My := M_X3_readNumber) [.int 0, .int (x12 - (1 : Int32))] [] kc3 K_X3_readNumber kw_636 kw_638 kw_16 dX3_readEdge_100 (by decide) rfl (Nat.le_of_ble_eq_true rfl) (fun xx yy ee => sm_X3_readNumber hs o (0 : Int32) (x12 - (1 : Int32)) h6 xx yy ee) (fun x13 h14 _ => ?_)
          refine S_istore_n [(2, .int x13), (0, .ref o), (1, .int x5)] dX3_readEdge_103 rfl (Nat.le_of_ble_eq_true rfl) rfl ?_
          refine S_iload_n 0 dX3_readEdge_104 rfl rfl ?_
          refine S_iconst (-1) dX3_readEdge_105 (by decide) ?_
          refine S_icmp_ne 111 dX3_readEdge_106 (by decide) (fun c19 => ?_) (fun c19 => ?_)
          · refine S_aload_n 1 dX3_readEdge_111 rfl rfl ?_
            refine S_getR kc3 (k := 0) (by decide) kw_188 dX3_readEdge_112 (fun a15 _ => ?_)
            refine S_iload_n 2 dX3_readEdge_115 rfl rfl ?_
            refine S_iload_n 0 dX3_readEdge_116 rfl rfl ?_
            refine S_callV_VW (lev' := 1) (My := M_X0_addEdge) [.int x5, .int x13] [] kc0 K_X0_addEdge kw_688 kw_689 kw_690 dX3_readEdge_117 (by decide) rfl (Nat.le_of_ble_eq_true rfl) (fun xx ee => sm_X0_addEdge hs a15 x5 x13 h14 xx ee) (fun h16 _ => ?_)
            refine S_aload_n 1 dX3_readEdge_120 rfl rfl ?_
            refine S_callV_BW (lev' := 2) (My := M_X3_readSemicolon) [] [] kc3 K_X3_readSemicolon kw_648 kw_650 kw_17 dX3_readEdge_121 (by decide) rfl (Nat.le_of_ble_eq_true rfl) (fun xx yy ee => sm_X3_readSemicolon hs o h16 xx yy ee) (fun bb17 h18 _ => ?_)
            exact S_zreturn (b := bb17) rfl rfl dX3_readEdge_124
          · refine S_iconst 0 dX3_readEdge_109 (by decide) ?_
            exact S_zreturn (b := false) rfl rfl dX3_readEdge_110
        refine S_icmp_ne 89 dX3_readEdge_61 (by decide) (fun c27 => ?_) (fun c27 => ?_)
        · exact Sim.sub [0, 1] rfl (hk10)
        · refine S_aload_n 0 dX3_readEdge_64 rfl rfl ?_
          refine S_getR kc3 (k := 0) (by decide) kw_188 dX3_readEdge_65 (fun a20 _ => ?_)
          refine S_iload_n 1 dX3_readEdge_68 rfl rfl ?_
          refine S_callV_IR (lev' := 0) (My := M_X0_neighbours) [.int x5] [] kc0 K_X0_neighbours kw_687 kw_326 kw_327 dX3_readEdge_69 (by decide) rfl (Nat.le_of_ble_eq_true rfl) (fun xx ee => sm_X0_neighbours hs a20 x5 h6 xx ee) (fun x21 _ => ?_)
          refine S_aload_n 0 dX3_readEdge_72 rfl rfl ?_
          refine S_getI kc3 (k := 9) (by decide) kw_200 dX3_readEdge_73 (fun x22 _ => ?_)
          refine S_callSN_BR (lev' := 0) (My := M_X5_has) [.int x21, .int x22] [] K_X5_has kn_673 kw_319 dX3_readEdge_76 (by decide) rfl (Nat.le_of_ble_eq_true rfl) (fun xx ee => sm_X5_has hs x21 x22 _ xx ee) (fun bb23 _ => ?_)
          refine S_if_eqB 89 dX3_readEdge_79 (by decide) (fun c26 => ?_) (fun c26 => ?_)
          · exact Sim.sub [0, 1] rfl (hk10)
          · refine S_aload_n 0 dX3_readEdge_82 rfl rfl ?_
            refine S_bipush (-4) dX3_readEdge_83 (by decide) ?_
            refine S_callV_BW (lev' := 0) (My := M_X3_fail) [.int (-4)] [] kc3 K_X3_fail kw_632 kw_634 kw_15 dX3_readEdge_85 (by decide) rfl (Nat.le_of_ble_eq_true rfl) (fun xx yy ee => sm_X3_fail hs o (-4 : Int32) h6 xx yy ee) (fun bb24 h25 _ => ?_)
            exact S_zreturn (b := bb24) rfl rfl dX3_readEdge_88
      refine S_icmp_ne 56 dX3_readEdge_38 (by decide) (fun c32 => ?_) (fun c32 => ?_)
      · exact Sim.sub [1, 0] rfl (hk8)
      · refine S_aload_n 1 dX3_readEdge_41 rfl rfl ?_
        refine S_getI kc3 (k := 9) (by decide) kw_200 dX3_readEdge_42 (fun x28 _ => ?_)
        refine S_iload_n 0 dX3_readEdge_45 rfl rfl ?_
        refine S_icmp_ne 56 dX3_readEdge_46 (by decide) (fun c31 => ?_) (fun c31 => ?_)
        · exact Sim.sub [1, 0] rfl (hk8)
        · refine S_aload_n 1 dX3_readEdge_49 rfl rfl ?_
          refine S_bipush (-3) dX3_readEdge_50 (by decide) ?_
          refine S_callV_BW (lev' := 0) (My := M_X3_fail) [.int (-3)] [] kc3 K_X3_fail kw_632 kw_634 kw_15 dX3_readEdge_52 (by decide) rfl (Nat.le_of_ble_eq_true rfl) (fun xx yy ee => sm_X3_fail hs o (-3 : Int32) h6 xx yy ee) (fun bb29 h30 _ => ?_)
          exact S_zreturn (b := bb29) rfl rfl dX3_readEdge_55
    · refine S_iconst 0 dX3_readEdge_31 (by decide) ?_
      exact S_zreturn (b := false) rfl rfl dX3_readEdge_32
  · refine S_iconst 0 dX3_readEdge_9 (by decide) ?_
    exact S_zreturn (b := false) rfl rfl dX3_readEdge_10
theorem sm_X3_readEdge (hs : l.stackTraces = false) (o : Nat) (h : Hp) : ∀ x h1, m_X3_readEdge  o h = some (x, h1) → SR l G 10 M_X3_readEdge [.ref o] h (some (.int (bI x))) h1 := fun x h1 e => SR.of K_X3_readEdge hs rfl (Nat.le_of_ble_eq_true rfl) (ss_X3_readEdge hs o h) e rfl
end
section
variable {l : Launch} {G : Gx}
set_option maxRecDepth 20000 in
set_option maxHeartbeats 4000000 in
theorem ss_X3_readLay (hs : l.stackTraces = false) (o : Nat) (h : Hp) : Sim l G 10 M_X3_readLay (fun p : Bool × Hp => ((.inl (some (.int (bI p.1))) : Oc), p.2)) 0 [(0, .ref o)] [] h (m_X3_readLay  o h) := by
  rw [m_X3_readLay]
  refine S_aload_n 0 dX3_readLay_0 rfl rfl ?_
  refine S_ldcS 4 _ kn_699 rfl dX3_readLay_1 ?_
  refine S_callV_BW (lev' := 9) (My := M_X3_readWord) [.retAddr 4] [] kc3 K_X3_readWord kw_576 kw_578 kw_13 dX3_readLay_3 (by decide) rfl (Nat.le_of_ble_eq_true rfl) (fun xx yy ee => sm_X3_readWord hs o 4 h xx yy ee) (fun bb1 h2 _ => ?_)
  refine S_if_neB 11 dX3_readLay_6 (by decide) (fun c26 => ?_) (fun c26 => ?_)
  · refine S_aload_n 0 dX3_readLay_11 rfl rfl ?_
    refine S_iconst 0 dX3_readLay_12 (by decide) ?_
    refine S_aload_n 0 dX3_readLay_13 rfl rfl ?_
    refine S_getR kc3 (k := 0) (by decide) kw_188 dX3_readLay_14 (fun a3 _ => ?_)
    refine S_getI kc0 (k := 2) (by decide) kw_129 dX3_readLay_17 (fun x4 _ => ?_)
    refine S_iconst 1 dX3_readLay_20 (by decide) ?_
    refine S_isub dX3_readLay_21 ?_
    refine S_callV_IW (lev' := 2) (My := M_X3_readNumber) [.int 0, .int (x4 - (1 : Int32))] [] kc3 K_X3_readNumber kw_636 kw_638 kw_16 dX3_readLay_22 (by decide) rfl (Nat.le_of_ble_eq_true rfl) (fun xx yy ee => sm_X3_readNumber hs o (0 : Int32) (x4 - (1 : Int32)) h2 xx yy ee) (fun x5 h6 _ => ?_)
    refine S_istore_n [(1, .int x5), (0, .ref o)] dX3_readLay_25 rfl (Nat.le_of_ble_eq_true rfl) rfl ?_
    refine S_iload_n 0 dX3_readLay_26 rfl rfl ?_
    refine S_iconst (-1) dX3_readLay_27 (by decide) ?_
    refine S_icmp_ne 33 dX3_readLay_28 (by decide) (fun c25 => ?_) (fun c25 => ?_)
    · refine S_aload_n 1 dX3_readLay_33 rfl rfl ?_
      refine S_getI kc3 (k := 6) (by decide) kw_197 dX3_readLay_34 (fun x7 _ => ?_)
      refine S_iconst 1 dX3_readLay_37 (by decide) ?_
      refine S_icmp_eq 48 dX3_readLay_38 (by decide) (fun c24 => ?_) (fun c24 => ?_)
      · refine S_aload_n 1 dX3_readLay_48 rfl rfl ?_
        refine S_callV_IR (lev' := 1) (My := M_X3_listHere) [] [] kc3 K_X3_listHere kw_669 kw_671 kw_20 dX3_readLay_49 (by decide) rfl (Nat.le_of_ble_eq_true rfl) (fun xx ee => sm_X3_listHere hs o h6 xx ee) (fun x8 _ => ?_)
        refine S_istore_n [(2, .int x8), (1, .int x5), (0, .ref o)] dX3_readLay_52 rfl (Nat.le_of_ble_eq_true rfl) rfl ?_
        refine S_iload_n 0 dX3_readLay_53 rfl rfl ?_
        refine S_callS_IR (lev' := 0) (My := M_J6_bitCount) [.int x8] [] K_J6_bitCount kw_705 kw_285 dX3_readLay_54 (by decide) rfl (Nat.le_of_ble_eq_true rfl) (fun xx ee => sm_J6_bitCount hs x8 _ xx ee) (fun x9 _ => ?_)
        refine S_iconst 1 dX3_readLay_57 (by decide) ?_
        refine S_icmp_eq 68 dX3_readLay_58 (by decide) (fun c21 => ?_) (fun c21 => ?_)
        · refine S_iload_n 0 dX3_readLay_68 rfl rfl ?_
          refine S_callSN_IR (lev' := 1) (My := M_X5_least) [.int x8] [] K_X5_least kn_706 kw_356 dX3_readLay_69 (by decide) rfl (Nat.le_of_ble_eq_true rfl) (fun xx ee => sm_X5_least hs x8 _ xx ee) (fun x10 _ => ?_)
          refine S_istore_n [(3, .int x10), (2, .int x8), (1, .int x5), (0, .ref o)] dX3_readLay_72 rfl (Nat.le_of_ble_eq_true rfl) rfl ?_
          refine S_aload_n 3 dX3_readLay_73 rfl rfl ?_
          refine S_getR kc3 (k := 0) (by decide) kw_188 dX3_readLay_74 (fun a11 _ => ?_)
          refine S_iload_n 2 dX3_readLay_77 rfl rfl ?_
          refine S_iload_n 0 dX3_readLay_78 rfl rfl ?_
          refine S_callV_IR (lev' := 2) (My := M_X0_whyNot) [.int x5, .int x10] [] kc0 K_X0_whyNot kw_707 kw_384 kw_385 dX3_readLay_79 (by decide) rfl (Nat.le_of_ble_eq_true rfl) (fun xx ee => sm_X0_whyNot hs a11 x5 x10 h6 xx ee) (fun x12 _ => ?_)
          refine S_if_eq 92 dX3_readLay_82 (by decide) (fun c18 => ?_) (fun c18 => ?_)
          · refine S_aload_n 3 dX3_readLay_92 rfl rfl ?_
            refine S_getR kc3 (k := 0) (by decide) kw_188 dX3_readLay_93 (fun a13 _ => ?_)
            refine S_iload_n 2 dX3_readLay_96 rfl rfl ?_
            refine S_iload_n 0 dX3_readLay_97 rfl rfl ?_
            refine S_callV_VW (lev' := 3) (My := M_X0_paint) [.int x5, .int x10] [] kc0 K_X0_paint kw_708 kw_709 kw_710 dX3_readLay_98 (by decide) rfl (Nat.le_of_ble_eq_true rfl) (fun xx ee => sm_X0_paint hs a13 x5 x10 h6 xx ee) (fun h14 _ => ?_)
            refine S_aload_n 3 dX3_readLay_101 rfl rfl ?_
            refine S_callV_VW (lev' := 1) (My := M_X3_advance) [] [] kc3 K_X3_advance kw_556 kw_558 kw_10 dX3_readLay_102 (by decide) rfl (Nat.le_of_ble_eq_true rfl) (fun xx ee => sm_X3_advance hs o h14 xx ee) (fun h15 _ => ?_)
            refine S_iconst 1 dX3_readLay_105 (by decide) ?_
            exact S_zreturn (b := true) rfl rfl dX3_readLay_106
          · refine S_aload_n 3 dX3_readLay_85 rfl rfl ?_
            refine S_bipush (-5) dX3_readLay_86 (by decide) ?_
            refine S_callV_BW (lev' := 0) (My := M_X3_fail) [.int (-5)] [] kc3 K_X3_fail kw_632 kw_634 kw_15 dX3_readLay_88 (by decide) rfl (Nat.le_of_ble_eq_true rfl) (fun xx yy ee => sm_X3_fail hs o (-5 : Int32) h6 xx yy ee) (fun bb16 h17 _ => ?_)
            exact S_zreturn (b := bb16) rfl rfl dX3_readLay_91
        · refine S_aload_n 2 dX3_readLay_61 rfl rfl ?_
          refine S_bipush (-3) dX3_readLay_62 (by decide) ?_
          refine S_callV_BW (lev' := 0) (My := M_X3_fail) [.int (-3)] [] kc3 K_X3_fail kw_632 kw_634 kw_15 dX3_readLay_64 (by decide) rfl (Nat.le_of_ble_eq_true rfl) (fun xx yy ee => sm_X3_fail hs o (-3 : Int32) h6 xx yy ee) (fun bb19 h20 _ => ?_)
          exact S_zreturn (b := bb19) rfl rfl dX3_readLay_67
      · refine S_aload_n 1 dX3_readLay_41 rfl rfl ?_
        refine S_bipush (-2) dX3_readLay_42 (by decide) ?_
        refine S_callV_BW (lev' := 0) (My := M_X3_fail) [.int (-2)] [] kc3 K_X3_fail kw_632 kw_634 kw_15 dX3_readLay_44 (by decide) rfl (Nat.le_of_ble_eq_true rfl) (fun xx yy ee => sm_X3_fail hs o (-2 : Int32) h6 xx yy ee) (fun bb22 h23 _ => ?_)
        exact S_zreturn (b := bb22) rfl rfl dX3_readLay_47
    · refine S_iconst 0 dX3_readLay_31 (by decide) ?_
      exact S_zreturn (b := false) rfl rfl dX3_readLay_32
  · refine S_iconst 0 dX3_readLay_9 (by decide) ?_
    exact S_zreturn (b := false) rfl rfl dX3_readLay_10
theorem sm_X3_readLay (hs : l.stackTraces = false) (o : Nat) (h : Hp) : ∀ x h1, m_X3_readLay  o h = some (x, h1) → SR l G 10 M_X3_readLay [.ref o] h (some (.int (bI x))) h1 := fun x h1 e => SR.of K_X3_readLay hs rfl (Nat.le_of_ble_eq_true rfl) (ss_X3_readLay hs o h) e rfl
end
section
variable {l : Launch} {G : Gx}
set_option maxRecDepth 20000 in
set_option maxHeartbeats 4000000 in
theorem ss_X3_readPass (hs : l.stackTraces = false) (o : Nat) (h : Hp) : Sim l G 10 M_X3_readPass (fun p : Bool × Hp => ((.inl (some (.int (bI p.1))) : Oc), p.2)) 0 [(0, .ref o)] [] h (m_X3_readPass  o h) := by
  rw [m_X3_readPass]
  refine S_aload_n 0 dX3_readPass_0 rfl rfl ?_
  refine S_getR kc3 (k := 0) (by decide) kw_188 dX3_readPass_1 (fun a1 _ => ?_)
  refine S_getI kc0 (k := 3) (by decide) kw_131 dX3_readPass_4 (fun x2 _ => ?_)
  refine S_if_ne 17 dX3_readPass_7 (by decide) (fun c9 => ?_) (fun c9 => ?_)
  · refine S_aload_n 0 dX3_readPass_17 rfl rfl ?_
    refine S_getR kc3 (k := 0) (by decide) kw_188 dX3_readPass_18 (fun a3 _ => ?_)
    refine S_callV_VW (lev' := 3) (My := M_X0_spendPass) [] [] kc0 K_X0_spendPass kw_745 kw_746 kw_747 dX3_readPass_21 (by decide) rfl (Nat.le_of_ble_eq_true rfl) (fun xx ee => sm_X0_spendPass hs a3 h xx ee) (fun h4 _ => ?_)
    refine S_aload_n 0 dX3_readPass_24 rfl rfl ?_
    refine S_ldcS 5 _ kn_700 rfl dX3_readPass_25 ?_
    refine S_callV_BW (lev' := 9) (My := M_X3_readWord) [.retAddr 5] [] kc3 K_X3_readWord kw_576 kw_578 kw_13 dX3_readPass_27 (by decide) rfl (Nat.le_of_ble_eq_true rfl) (fun xx yy ee => sm_X3_readWord hs o 5 h4 xx yy ee) (fun bb5 h6 _ => ?_)
    exact S_zreturn (b := bb5) rfl rfl dX3_readPass_30
  · refine S_aload_n 0 dX3_readPass_10 rfl rfl ?_
    refine S_bipush (-5) dX3_readPass_11 (by decide) ?_
    refine S_callV_BW (lev' := 0) (My := M_X3_fail) [.int (-5)] [] kc3 K_X3_fail kw_632 kw_634 kw_15 dX3_readPass_13 (by decide) rfl (Nat.le_of_ble_eq_true rfl) (fun xx yy ee => sm_X3_fail hs o (-5 : Int32) h xx yy ee) (fun bb7 h8 _ => ?_)
    exact S_zreturn (b := bb7) rfl rfl dX3_readPass_16
theorem sm_X3_readPass (hs : l.stackTraces = false) (o : Nat) (h : Hp) : ∀ x h1, m_X3_readPass  o h = some (x, h1) → SR l G 10 M_X3_readPass [.ref o] h (some (.int (bI x))) h1 := fun x h1 e => SR.of K_X3_readPass hs rfl (Nat.le_of_ble_eq_true rfl) (ss_X3_readPass hs o h) e rfl
end
section
variable {l : Launch} {G : Gx}
set_option maxRecDepth 20000 in
set_option maxHeartbeats 4000000 in
theorem sl_X3_readVertices_L7 (hs : l.stackTraces = false) (u3 : Nat) (k7_37 : Bool → Hp → Option (Bool × Hp)) (hk7_37 : ∀ (v6 : Bool) (h7 : Hp), Sim l G 11 M_X3_readVertices (fun p : Bool × Hp => ((.inl (some (.int (bI p.1))) : Oc), p.2)) 37 [(1, .int (bI v6))] [] h7 (k7_37 v6 h7)) : ∀ (f : Nat) (w4 : Bool) (w5 : Int32) (h : Hp), Sim l G 11 M_X3_readVertices (fun p : Bool × Hp => ((.inl (some (.int (bI p.1))) : Oc), p.2)) 7 [(0, .ref u3), (1, .int (bI w4)), (2, .int w5)] [] h (m_X3_readVertices_L7 u3 k7_37 f w4 w5 h) := by
  intro f
  induction f with
  | zero => intro w4 w5 h; exact S_none rfl
  | succ f ih =>
    intro w4 w5 h
    rw [m_X3_readVertices_L7]
    refine S_iload_n 2 dX3_readVertices_7 rfl rfl ?_
    refine S_bipush 9 dX3_readVertices_8 (by decide) ?_
    refine S_icmp_ge 37 dX3_readVertices_10 (by decide) (fun c14 => ?_) (fun c14 => ?_)
    · exact Sim.sub [1] rfl (hk7_37 w4 h)
    · refine S_iload_n 1 dX3_readVertices_13 rfl rfl ?_
      refine S_if_eqB 37 dX3_readVertices_14 (by decide) (fun c13 => ?_) (fun c13 => ?_)
      · exact Sim.sub [1] rfl (hk7_37 w4 h)
      · refine S_aload_n 0 dX3_readVertices_17 rfl rfl ?_
        refine S_ldcS 2 _ kn_660 rfl dX3_readVertices_18 ?_
        refine S_callV_BR (lev' := 8) (My := M_X3_atWord) [.retAddr 2] [] kc3 K_X3_atWord kw_580 kw_582 kw_14 dX3_readVertices_20 (by decide) rfl (Nat.le_of_ble_eq_true rfl) (fun xx ee => sm_X3_atWord hs u3 2 h xx ee) (fun bb8 _ => ?_)
        refine S_if_eqB 37 dX3_readVertices_23 (by decide) (fun c12 => ?_) (fun c12 => ?_)
        · exact Sim.sub [1] rfl (hk7_37 w4 h)
        · refine S_aload_n 0 dX3_readVertices_26 rfl rfl ?_
          refine S_callV_BW (lev' := 10) (My := M_X3_readVertex) [] [] kc3 K_X3_readVertex kw_656 kw_658 kw_19 dX3_readVertices_27 (by decide) rfl (Nat.le_of_ble_eq_true rfl) (fun xx yy ee => sm_X3_readVertex hs u3 h xx yy ee) (fun bb9 h10 _ => ?_)
          refine S_istore_n [(1, .int (bI bb9)), (0, .ref u3), (2, .int w5)] dX3_readVertices_30 rfl (Nat.le_of_ble_eq_true rfl) rfl ?_
          refine S_iincN (c := 1) 2 (fun x11 => [(2, .int x11), (1, .int (bI bb9)), (0, .ref u3)]) dX3_readVertices_31 rfl (by decide) (Nat.le_of_ble_eq_true rfl) (fun _ => rfl) (fun x11 => ?_)
          refine S_goto 7 dX3_readVertices_34 (by decide) ?_
          exact Sim.sub [2, 1, 0] rfl (ih bb9 x11 h10)
set_option maxRecDepth 20000 in
set_option maxHeartbeats 4000000 in
theorem ss_X3_readVertices (hs : l.stackTraces = false) (o : Nat) (h : Hp) : Sim l G 11 M_X3_readVertices (fun p : Bool × Hp => ((.inl (some (.int (bI p.1))) : Oc), p.2)) 0 [(0, .ref o)] [] h (m_X3_readVertices  o h) := by
  rw [m_X3_readVertices]
  refine S_aload_n 0 dX3_readVertices_0 rfl rfl ?_
  refine S_callV_BW (lev' := 10) (My := M_X3_readVertex) [] [] kc3 K_X3_readVertex kw_656 kw_658 kw_19 dX3_readVertices_1 (by decide) rfl (Nat.le_of_ble_eq_true rfl) (fun xx yy ee => sm_X3_readVertex hs o h xx yy ee) (fun bb1 h2 _ => ?_)
  refine S_istore_n [(1, .int (bI bb1)), (0, .ref o)] dX3_readVertices_4 rfl (Nat.le_of_ble_eq_true rfl) rfl ?_
  refine S_iconst 0 dX3_readVertices_5 (by decide) ?_
  refine S_istore_n [(2, .int 0), (1, .int (bI bb1)), (0, .ref o)] dX3_readVertices_6 rfl (Nat.le_of_ble_eq_true rfl) rfl ?_
  refine Sim.sub [2, 1, 0] rfl (sl_X3_readVertices_L7 hs o _ ?_ LF bb1 (0 : Int32) h2)
  · intro v6 h7
    refine S_iload_n 0 dX3_readVertices_37 rfl rfl ?_
    exact S_zreturn (b := v6) rfl rfl dX3_readVertices_38
theorem sm_X3_readVertices (hs : l.stackTraces = false) (o : Nat) (h : Hp) : ∀ x h1, m_X3_readVertices  o h = some (x, h1) → SR l G 11 M_X3_readVertices [.ref o] h (some (.int (bI x))) h1 := fun x h1 e => SR.of K_X3_readVertices hs rfl (Nat.le_of_ble_eq_true rfl) (ss_X3_readVertices hs o h) e rfl
end
section
variable {l : Launch} {G : Gx}
set_option maxRecDepth 20000 in
set_option maxHeartbeats 4000000 in
theorem sl_X3_readEdges_L4 (hs : l.stackTraces = false) (u1 : Nat) (k4_36 : Bool → Hp → Option (Bool × Hp)) (hk4_36 : ∀ (v4 : Bool) (h5 : Hp), Sim l G 11 M_X3_readEdges (fun p : Bool × Hp => ((.inl (some (.int (bI p.1))) : Oc), p.2)) 36 [(1, .int (bI v4))] [] h5 (k4_36 v4 h5)) : ∀ (f : Nat) (w2 : Bool) (w3 : Int32) (h : Hp), Sim l G 11 M_X3_readEdges (fun p : Bool × Hp => ((.inl (some (.int (bI p.1))) : Oc), p.2)) 4 [(0, .ref u1), (1, .int (bI w2)), (2, .int w3)] [] h (m_X3_readEdges_L4 u1 k4_36 f w2 w3 h) := by
  intro f
  induction f with
  | zero => intro w2 w3 h; exact S_none rfl
  | succ f ih =>
    intro w2 w3 h
    rw [m_X3_readEdges_L4]
    refine S_iload_n 2 dX3_readEdges_4 rfl rfl ?_
    refine S_aload_n 0 dX3_readEdges_5 rfl rfl ?_
    refine S_getI kc3 (k := 4) (by decide) kw_195 dX3_readEdges_6 (fun x6 _ => ?_)
    refine S_icmp_ge 36 dX3_readEdges_9 (by decide) (fun c13 => ?_) (fun c13 => ?_)
    · exact Sim.sub [1] rfl (hk4_36 w2 h)
    · refine S_iload_n 1 dX3_readEdges_12 rfl rfl ?_
      refine S_if_eqB 36 dX3_readEdges_13 (by decide) (fun c12 => ?_) (fun c12 => ?_)
      · exact Sim.sub [1] rfl (hk4_36 w2 h)
      · refine S_aload_n 0 dX3_readEdges_16 rfl rfl ?_
        refine S_ldcS 3 _ kn_682 rfl dX3_readEdges_17 ?_
        refine S_callV_BR (lev' := 8) (My := M_X3_atWord) [.retAddr 3] [] kc3 K_X3_atWord kw_580 kw_582 kw_14 dX3_readEdges_19 (by decide) rfl (Nat.le_of_ble_eq_true rfl) (fun xx ee => sm_X3_atWord hs u1 3 h xx ee) (fun bb7 _ => ?_)
        refine S_if_eqB 36 dX3_readEdges_22 (by decide) (fun c11 => ?_) (fun c11 => ?_)
        · exact Sim.sub [1] rfl (hk4_36 w2 h)
        · refine S_aload_n 0 dX3_readEdges_25 rfl rfl ?_
          refine S_callV_BW (lev' := 10) (My := M_X3_readEdge) [] [] kc3 K_X3_readEdge kw_683 kw_685 kw_22 dX3_readEdges_26 (by decide) rfl (Nat.le_of_ble_eq_true rfl) (fun xx yy ee => sm_X3_readEdge hs u1 h xx yy ee) (fun bb8 h9 _ => ?_)
          refine S_istore_n [(1, .int (bI bb8)), (0, .ref u1), (2, .int w3)] dX3_readEdges_29 rfl (Nat.le_of_ble_eq_true rfl) rfl ?_
          refine S_iincN (c := 1) 2 (fun x10 => [(2, .int x10), (1, .int (bI bb8)), (0, .ref u1)]) dX3_readEdges_30 rfl (by decide) (Nat.le_of_ble_eq_true rfl) (fun _ => rfl) (fun x10 => ?_)
          refine S_goto 4 dX3_readEdges_33 (by decide) ?_
          exact Sim.sub [2, 1, 0] rfl (ih bb8 x10 h9)
set_option maxRecDepth 20000 in
set_option maxHeartbeats 4000000 in
theorem ss_X3_readEdges (hs : l.stackTraces = false) (o : Nat) (h : Hp) : Sim l G 11 M_X3_readEdges (fun p : Bool × Hp => ((.inl (some (.int (bI p.1))) : Oc), p.2)) 0 [(0, .ref o)] [] h (m_X3_readEdges  o h) := by
  rw [m_X3_readEdges]
  refine S_iconst 1 dX3_readEdges_0 (by decide) ?_
  refine S_istore_n [(1, .int 1), (0, .ref o)] dX3_readEdges_1 rfl (Nat.le_of_ble_eq_true rfl) rfl ?_
  refine S_iconst 0 dX3_readEdges_2 (by decide) ?_
  refine S_istore_n [(2, .int 0), (1, .int 1), (0, .ref o)] dX3_readEdges_3 rfl (Nat.le_of_ble_eq_true rfl) rfl ?_
  refine Sim.sub [2, 1, 0] rfl (sl_X3_readEdges_L4 hs o _ ?_ LF true (0 : Int32) h)
  · intro v4 h5
    refine S_iload_n 0 dX3_readEdges_36 rfl rfl ?_
    exact S_zreturn (b := v4) rfl rfl dX3_readEdges_37
theorem sm_X3_readEdges (hs : l.stackTraces = false) (o : Nat) (h : Hp) : ∀ x h1, m_X3_readEdges  o h = some (x, h1) → SR l G 11 M_X3_readEdges [.ref o] h (some (.int (bI x))) h1 := fun x h1 e => SR.of K_X3_readEdges hs rfl (Nat.le_of_ble_eq_true rfl) (ss_X3_readEdges hs o h) e rfl
end
section
variable {l : Launch} {G : Gx}
set_option maxRecDepth 20000 in
set_option maxHeartbeats 4000000 in
theorem sl_X3_readMoves_L4 (hs : l.stackTraces = false) (u1 : Nat) (k4_79 : Bool → Hp → Option (Bool × Hp)) (hk4_79 : ∀ (v4 : Bool) (h5 : Hp), Sim l G 11 M_X3_readMoves (fun p : Bool × Hp => ((.inl (some (.int (bI p.1))) : Oc), p.2)) 79 [(1, .int (bI v4))] [] h5 (k4_79 v4 h5)) : ∀ (f : Nat) (w2 : Bool) (w3 : Int32) (h : Hp), Sim l G 11 M_X3_readMoves (fun p : Bool × Hp => ((.inl (some (.int (bI p.1))) : Oc), p.2)) 4 [(0, .ref u1), (1, .int (bI w2)), (2, .int w3)] [] h (m_X3_readMoves_L4 u1 k4_79 f w2 w3 h) := by
  intro f
  induction f with
  | zero => intro w2 w3 h; exact S_none rfl
  | succ f ih =>
    intro w2 w3 h
    rw [m_X3_readMoves_L4]
    refine S_iload_n 2 dX3_readMoves_4 rfl rfl ?_
    refine S_aload_n 0 dX3_readMoves_5 rfl rfl ?_
    refine S_getI kc3 (k := 4) (by decide) kw_195 dX3_readMoves_6 (fun x6 _ => ?_)
    refine S_icmp_ge 79 dX3_readMoves_9 (by decide) (fun c30 => ?_) (fun c30 => ?_)
    · exact Sim.sub [1] rfl (hk4_79 w2 h)
    · refine S_iload_n 1 dX3_readMoves_12 rfl rfl ?_
      refine S_if_eqB 79 dX3_readMoves_13 (by decide) (fun c29 => ?_) (fun c29 => ?_)
      · exact Sim.sub [1] rfl (hk4_79 w2 h)
      · refine S_aload_n 0 dX3_readMoves_16 rfl rfl ?_
        refine S_ldcS 4 _ kn_699 rfl dX3_readMoves_17 ?_
        refine S_callV_BR (lev' := 8) (My := M_X3_atWord) [.retAddr 4] [] kc3 K_X3_atWord kw_580 kw_582 kw_14 dX3_readMoves_19 (by decide) rfl (Nat.le_of_ble_eq_true rfl) (fun xx ee => sm_X3_atWord hs u1 4 h xx ee) (fun bb7 _ => ?_)
        refine S_jK (fun (k8 : Option (Bool × Hp)) => Sim l G 11 M_X3_readMoves (fun p : Bool × Hp => ((.inl (some (.int (bI p.1))) : Oc), p.2)) 34 [(0, .ref u1), (2, .int w3)] [] h (k8)) ?_ (fun k8 hk8 => ?_)
        · refine S_aload_n 0 dX3_readMoves_34 rfl rfl ?_
          refine S_ldcS 4 _ kn_699 rfl dX3_readMoves_35 ?_
          refine S_callV_BR (lev' := 8) (My := M_X3_atWord) [.retAddr 4] [] kc3 K_X3_atWord kw_580 kw_582 kw_14 dX3_readMoves_37 (by decide) rfl (Nat.le_of_ble_eq_true rfl) (fun xx ee => sm_X3_atWord hs u1 4 h xx ee) (fun bb9 _ => ?_)
          refine S_jK (fun (k12 : Bool → Hp → Option (Bool × Hp)) => ∀ (v10 : Bool) (h11 : Hp), Sim l G 11 M_X3_readMoves (fun p : Bool × Hp => ((.inl (some (.int (bI p.1))) : Oc), p.2)) 72 [(0, .ref u1), (2, .int w3)] [.int (bI v10)] h11 (k12 v10 h11)) ?_ (fun k12 hk12 => ?_)
          · intro v10 h11
            refine S_istore_n [(1, .int (bI v10)), (0, .ref u1), (2, .int w3)] dX3_readMoves_72 rfl (Nat.le_of_ble_eq_true rfl) rfl ?_
            refine S_iincN (c := 1) 2 (fun x13 => [(2, .int x13), (1, .int (bI v10)), (0, .ref u1)]) dX3_readMoves_73 rfl (by decide) (Nat.le_of_ble_eq_true rfl) (fun _ => rfl) (fun x13 => ?_)
            refine S_goto 4 dX3_readMoves_76 (by decide) ?_
            exact Sim.sub [2, 1, 0] rfl (ih v10 x13 h11)
          refine S_jK (fun (k15 : Hp → Option (Bool × Hp)) => ∀ (h14 : Hp), Sim l G 11 M_X3_readMoves (fun p : Bool × Hp => ((.inl (some (.int (bI p.1))) : Oc), p.2)) 60 [(0, .ref u1), (2, .int w3)] [] h14 (k15 h14)) ?_ (fun k15 hk15 => ?_)
          · intro h14
            refine S_aload_n 0 dX3_readMoves_60 rfl rfl ?_
            refine S_callV_BW (lev' := 2) (My := M_X3_readSemicolon) [] [] kc3 K_X3_readSemicolon kw_648 kw_650 kw_17 dX3_readMoves_61 (by decide) rfl (Nat.le_of_ble_eq_true rfl) (fun xx yy ee => sm_X3_readSemicolon hs u1 h14 xx yy ee) (fun bb16 h17 _ => ?_)
            refine S_if_eqB 71 dX3_readMoves_64 (by decide) (fun c18 => ?_) (fun c18 => ?_)
            · refine S_iconst 0 dX3_readMoves_71 (by decide) ?_
              exact Sim.sub [0, 1] rfl (hk12 false h17)
            · refine S_iconst 1 dX3_readMoves_67 (by decide) ?_
              refine S_goto 72 dX3_readMoves_68 (by decide) ?_
              exact Sim.sub [0, 1] rfl (hk12 true h17)
          refine S_if_eqB 53 dX3_readMoves_40 (by decide) (fun c25 => ?_) (fun c25 => ?_)
          · refine S_aload_n 0 dX3_readMoves_53 rfl rfl ?_
            refine S_callV_BW (lev' := 10) (My := M_X3_readPass) [] [] kc3 K_X3_readPass kw_741 kw_743 kw_25 dX3_readMoves_54 (by decide) rfl (Nat.le_of_ble_eq_true rfl) (fun xx yy ee => sm_X3_readPass hs u1 h xx yy ee) (fun bb19 h20 _ => ?_)
            refine S_if_eqB 71 dX3_readMoves_57 (by decide) (fun c21 => ?_) (fun c21 => ?_)
            · refine S_iconst 0 dX3_readMoves_71 (by decide) ?_
              exact Sim.sub [0, 1] rfl (hk12 false h20)
            · exact Sim.sub [0, 1] rfl (hk15 h20)
          · refine S_aload_n 0 dX3_readMoves_43 rfl rfl ?_
            refine S_callV_BW (lev' := 10) (My := M_X3_readLay) [] [] kc3 K_X3_readLay kw_701 kw_703 kw_24 dX3_readMoves_44 (by decide) rfl (Nat.le_of_ble_eq_true rfl) (fun xx yy ee => sm_X3_readLay hs u1 h xx yy ee) (fun bb22 h23 _ => ?_)
            refine S_if_eqB 71 dX3_readMoves_47 (by decide) (fun c24 => ?_) (fun c24 => ?_)
            · refine S_iconst 0 dX3_readMoves_71 (by decide) ?_
              exact Sim.sub [0, 1] rfl (hk12 false h23)
            · refine S_goto 60 dX3_readMoves_50 (by decide) ?_
              exact Sim.sub [0, 1] rfl (hk15 h23)
        refine S_if_neB 34 dX3_readMoves_22 (by decide) (fun c28 => ?_) (fun c28 => ?_)
        · exact Sim.sub [0, 2] rfl (hk8)
        · refine S_aload_n 0 dX3_readMoves_25 rfl rfl ?_
          refine S_ldcS 5 _ kn_700 rfl dX3_readMoves_26 ?_
          refine S_callV_BR (lev' := 8) (My := M_X3_atWord) [.retAddr 5] [] kc3 K_X3_atWord kw_580 kw_582 kw_14 dX3_readMoves_28 (by decide) rfl (Nat.le_of_ble_eq_true rfl) (fun xx ee => sm_X3_atWord hs u1 5 h xx ee) (fun bb26 _ => ?_)
          refine S_if_eqB 79 dX3_readMoves_31 (by decide) (fun c27 => ?_) (fun c27 => ?_)
          · exact Sim.sub [1] rfl (hk4_79 w2 h)
          · exact Sim.sub [0, 2] rfl (hk8)
set_option maxRecDepth 20000 in
set_option maxHeartbeats 4000000 in
theorem ss_X3_readMoves (hs : l.stackTraces = false) (o : Nat) (h : Hp) : Sim l G 11 M_X3_readMoves (fun p : Bool × Hp => ((.inl (some (.int (bI p.1))) : Oc), p.2)) 0 [(0, .ref o)] [] h (m_X3_readMoves  o h) := by
  rw [m_X3_readMoves]
  refine S_iconst 1 dX3_readMoves_0 (by decide) ?_
  refine S_istore_n [(1, .int 1), (0, .ref o)] dX3_readMoves_1 rfl (Nat.le_of_ble_eq_true rfl) rfl ?_
  refine S_iconst 0 dX3_readMoves_2 (by decide) ?_
  refine S_istore_n [(2, .int 0), (1, .int 1), (0, .ref o)] dX3_readMoves_3 rfl (Nat.le_of_ble_eq_true rfl) rfl ?_
  refine Sim.sub [2, 1, 0] rfl (sl_X3_readMoves_L4 hs o _ ?_ LF true (0 : Int32) h)
  · intro v4 h5
    refine S_iload_n 0 dX3_readMoves_79 rfl rfl ?_
    exact S_zreturn (b := v4) rfl rfl dX3_readMoves_80
theorem sm_X3_readMoves (hs : l.stackTraces = false) (o : Nat) (h : Hp) : ∀ x h1, m_X3_readMoves  o h = some (x, h1) → SR l G 11 M_X3_readMoves [.ref o] h (some (.int (bI x))) h1 := fun x h1 e => SR.of K_X3_readMoves hs rfl (Nat.le_of_ble_eq_true rfl) (ss_X3_readMoves hs o h) e rfl
end
section
variable {l : Launch} {G : Gx}
set_option maxRecDepth 20000 in
set_option maxHeartbeats 4000000 in
theorem ss_X3_readText (hs : l.stackTraces = false) (o : Nat) (p1 : Int32) (h : Hp) : Sim l G 12 M_X3_readText (fun p : Int32 × Hp => ((.inl (some (.int p.1)) : Oc), p.2)) 0 [(0, .ref o), (1, .int p1)] [] h (m_X3_readText  o p1 h) := by
  rw [m_X3_readText]
  refine S_aload_n 0 dX3_readText_0 rfl rfl ?_
  refine S_iload_n 1 dX3_readText_1 rfl rfl ?_
  refine S_put kc3 (k := 4) (by decide) rfl kw_195 rfl rfl dX3_readText_2 (fun h1 _ => ?_)
  refine S_aload_n 0 dX3_readText_5 rfl rfl ?_
  refine S_iconst (-1) dX3_readText_6 (by decide) ?_
  refine S_put kc3 (k := 2) (by decide) rfl kw_192 rfl rfl dX3_readText_7 (fun h2 _ => ?_)
  refine S_aload_n 0 dX3_readText_10 rfl rfl ?_
  refine S_iconst 0 dX3_readText_11 (by decide) ?_
  refine S_put kc3 (k := 8) (by decide) rfl kw_199 rfl rfl dX3_readText_12 (fun h3 _ => ?_)
  refine S_aload_n 0 dX3_readText_15 rfl rfl ?_
  refine S_callV_VW (lev' := 1) (My := M_X3_advance) [] [] kc3 K_X3_advance kw_556 kw_558 kw_10 dX3_readText_16 (by decide) rfl (Nat.le_of_ble_eq_true rfl) (fun xx ee => sm_X3_advance hs o h3 xx ee) (fun h4 _ => ?_)
  refine S_aload_n 0 dX3_readText_19 rfl rfl ?_
  refine S_callV_BW (lev' := 10) (My := M_X3_readHead) [] [] kc3 K_X3_readHead kw_571 kw_573 kw_12 dX3_readText_20 (by decide) rfl (Nat.le_of_ble_eq_true rfl) (fun xx yy ee => sm_X3_readHead hs o h4 xx yy ee) (fun bb5 h6 _ => ?_)
  refine S_jK (fun (k9 : Bool → Hp → Option (Int32 × Hp)) => ∀ (v7 : Bool) (h8 : Hp), Sim l G 12 M_X3_readText (fun p : Int32 × Hp => ((.inl (some (.int p.1)) : Oc), p.2)) 59 [(0, .ref o)] [.int (bI v7)] h8 (k9 v7 h8)) ?_ (fun k9 hk9 => ?_)
  · intro v7 h8
    refine S_istore_n [(2, .int (bI v7)), (0, .ref o)] dX3_readText_59 rfl (Nat.le_of_ble_eq_true rfl) rfl ?_
    refine S_aload_n 1 dX3_readText_60 rfl rfl ?_
    refine S_iconst 0 dX3_readText_61 (by decide) ?_
    refine S_put kc3 (k := 1) (by decide) rfl kw_191 rfl rfl dX3_readText_62 (fun h10 _ => ?_)
    refine S_iload_n 0 dX3_readText_65 rfl rfl ?_
    refine S_if_eqB 73 dX3_readText_66 (by decide) (fun c12 => ?_) (fun c12 => ?_)
    · refine S_aload_n 1 dX3_readText_73 rfl rfl ?_
      refine S_getI kc3 (k := 5) (by decide) kw_196 dX3_readText_74 (fun x11 _ => ?_)
      exact S_ireturn rfl rfl dX3_readText_77
    · refine S_iconst 0 dX3_readText_69 (by decide) ?_
      refine S_goto 77 dX3_readText_70 (by decide) ?_
      exact S_ireturn rfl rfl dX3_readText_77
  refine S_if_eqB 58 dX3_readText_23 (by decide) (fun c25 => ?_) (fun c25 => ?_)
  · refine S_iconst 0 dX3_readText_58 (by decide) ?_
    exact Sim.sub [0] rfl (hk9 false h6)
  · refine S_aload_n 0 dX3_readText_26 rfl rfl ?_
    refine S_callV_BW (lev' := 11) (My := M_X3_readVertices) [] [] kc3 K_X3_readVertices kw_652 kw_654 kw_18 dX3_readText_27 (by decide) rfl (Nat.le_of_ble_eq_true rfl) (fun xx yy ee => sm_X3_readVertices hs o h6 xx yy ee) (fun bb13 h14 _ => ?_)
    refine S_if_eqB 58 dX3_readText_30 (by decide) (fun c24 => ?_) (fun c24 => ?_)
    · refine S_iconst 0 dX3_readText_58 (by decide) ?_
      exact Sim.sub [0] rfl (hk9 false h14)
    · refine S_aload_n 0 dX3_readText_33 rfl rfl ?_
      refine S_callV_BW (lev' := 11) (My := M_X3_readEdges) [] [] kc3 K_X3_readEdges kw_678 kw_680 kw_21 dX3_readText_34 (by decide) rfl (Nat.le_of_ble_eq_true rfl) (fun xx yy ee => sm_X3_readEdges hs o h14 xx yy ee) (fun bb15 h16 _ => ?_)
      refine S_if_eqB 58 dX3_readText_37 (by decide) (fun c23 => ?_) (fun c23 => ?_)
      · refine S_iconst 0 dX3_readText_58 (by decide) ?_
        exact Sim.sub [0] rfl (hk9 false h16)
      · refine S_aload_n 0 dX3_readText_40 rfl rfl ?_
        refine S_callV_BW (lev' := 11) (My := M_X3_readMoves) [] [] kc3 K_X3_readMoves kw_695 kw_697 kw_23 dX3_readText_41 (by decide) rfl (Nat.le_of_ble_eq_true rfl) (fun xx yy ee => sm_X3_readMoves hs o h16 xx yy ee) (fun bb17 h18 _ => ?_)
        refine S_if_eqB 58 dX3_readText_44 (by decide) (fun c22 => ?_) (fun c22 => ?_)
        · refine S_iconst 0 dX3_readText_58 (by decide) ?_
          exact Sim.sub [0] rfl (hk9 false h18)
        · refine S_aload_n 0 dX3_readText_47 rfl rfl ?_
          refine S_callV_BW (lev' := 1) (My := M_X3_readEnd) [] [] kc3 K_X3_readEnd kw_749 kw_751 kw_26 dX3_readText_48 (by decide) rfl (Nat.le_of_ble_eq_true rfl) (fun xx yy ee => sm_X3_readEnd hs o h18 xx yy ee) (fun bb19 h20 _ => ?_)
          refine S_if_eqB 58 dX3_readText_51 (by decide) (fun c21 => ?_) (fun c21 => ?_)
          · refine S_iconst 0 dX3_readText_58 (by decide) ?_
            exact Sim.sub [0] rfl (hk9 false h20)
          · refine S_iconst 1 dX3_readText_54 (by decide) ?_
            refine S_goto 59 dX3_readText_55 (by decide) ?_
            exact Sim.sub [0] rfl (hk9 true h20)
theorem sm_X3_readText (hs : l.stackTraces = false) (o : Nat) (p1 : Int32) (h : Hp) : ∀ x h1, m_X3_readText  o p1 h = some (x, h1) → SR l G 12 M_X3_readText [.ref o, .int p1] h (some (.int x)) h1 := fun x h1 e => SR.of K_X3_readText hs rfl (Nat.le_of_ble_eq_true rfl) (ss_X3_readText hs o p1 h) e rfl
end
section
variable {l : Launch} {G : Gx}
set_option maxRecDepth 20000 in
set_option maxHeartbeats 4000000 in
theorem ss_X5_load (hs : l.stackTraces = false) (o : Nat) (p1 : Int32) (h : Hp) : Sim l G 13 M_X5_load finX 0 [(0, .ref o), (1, .int p1)] [] h (m_X5_load  o p1 h) := by
  rw [m_X5_load]
  refine S_iload_n 1 dX5_load_0 rfl rfl ?_
  refine S_if_lt 15 dX5_load_1 (by decide) (fun c22 => ?_) (fun c22 => ?_)
  · exact S_throw1 rfl (by decide +kernel) kw_536 kn_545 kw_546 dX5_load_15 dX5_load_18 dX5_load_19 dX5_load_21 dX5_load_24
  · refine S_iload_n 1 dX5_load_4 rfl rfl ?_
    refine S_aload_n 0 dX5_load_5 rfl rfl ?_
    refine S_getR kc5 (k := 2) (by decide) kw_245 dX5_load_6 (fun a1 _ => ?_)
    refine S_getI kc3 (k := 1) (by decide) kw_190 dX5_load_9 (fun x2 _ => ?_)
    refine S_icmp_le 25 dX5_load_12 (by decide) (fun c21 => ?_) (fun c21 => ?_)
    · refine S_aload_n 0 dX5_load_25 rfl rfl ?_
      refine S_getR kc5 (k := 2) (by decide) kw_245 dX5_load_26 (fun a3 _ => ?_)
      refine S_iload_n 1 dX5_load_29 rfl rfl ?_
      refine S_callV_IW (lev' := 12) (My := M_X3_readText) [.int p1] [] kc3 K_X3_readText kw_552 kw_553 kw_554 dX5_load_30 (by decide) rfl (Nat.le_of_ble_eq_true rfl) (fun xx yy ee => sm_X3_readText hs a3 p1 h xx yy ee) (fun x4 h5 _ => ?_)
      refine S_istore_n [(2, .int x4), (0, .ref o), (1, .int p1)] dX5_load_33 rfl (Nat.le_of_ble_eq_true rfl) rfl ?_
      refine S_iload_n 0 dX5_load_34 rfl rfl ?_
      refine S_if_eq 40 dX5_load_35 (by decide) (fun c20 => ?_) (fun c20 => ?_)
      · refine S_aload_n 1 dX5_load_40 rfl rfl ?_
        refine S_getR kc5 (k := 3) (by decide) kw_246 dX5_load_41 (fun a6 _ => ?_)
        refine S_aload_n 1 dX5_load_44 rfl rfl ?_
        refine S_getR kc5 (k := 0) (by decide) kw_243 dX5_load_45 (fun a7 _ => ?_)
        refine S_callV_VW (lev' := 3) (My := M_X1_keep) [.ref a7] [] kc1 K_X1_keep kw_753 kw_754 kw_755 dX5_load_48 (by decide) rfl (Nat.le_of_ble_eq_true rfl) (fun xx ee => sm_X1_keep hs a6 a7 h5 xx ee) (fun h8 _ => ?_)
        refine S_aload_n 1 dX5_load_51 rfl rfl ?_
        refine S_dup dX5_load_52 rfl ?_
        refine S_getI kc5 (k := 7) (by decide) kw_250 dX5_load_53 (fun x9 _ => ?_)
        refine S_iconst 1 dX5_load_56 (by decide) ?_
        refine S_iadd dX5_load_57 ?_
        refine S_put kc5 (k := 7) (by decide) rfl kw_250 rfl rfl dX5_load_58 (fun h10 _ => ?_)
        refine S_aload_n 1 dX5_load_61 rfl rfl ?_
        refine S_getR kc5 (k := 0) (by decide) kw_243 dX5_load_62 (fun a11 _ => ?_)
        refine S_aload_n 1 dX5_load_65 rfl rfl ?_
        refine S_getR kc5 (k := 2) (by decide) kw_245 dX5_load_66 (fun a12 _ => ?_)
        refine S_getR kc3 (k := 0) (by decide) kw_189 dX5_load_69 (fun a13 _ => ?_)
        refine S_callV_VW (lev' := 1) (My := M_X0_takeFrom) [.ref a13] [] kc0 K_X0_takeFrom kw_761 kw_762 kw_763 dX5_load_72 (by decide) rfl (Nat.le_of_ble_eq_true rfl) (fun xx ee => sm_X0_takeFrom hs a11 a13 h10 xx ee) (fun h14 _ => ?_)
        refine S_aload_n 1 dX5_load_75 rfl rfl ?_
        refine S_getR kc5 (k := 0) (by decide) kw_243 dX5_load_76 (fun a15 _ => ?_)
        refine S_aload_n 1 dX5_load_79 rfl rfl ?_
        refine S_getI kc5 (k := 7) (by decide) kw_250 dX5_load_80 (fun x16 _ => ?_)
        refine S_put kc0 (k := 0) (by decide) rfl kw_123 rfl rfl dX5_load_83 (fun h17 _ => ?_)
        refine S_aload_n 1 dX5_load_86 rfl rfl ?_
        refine S_getR kc5 (k := 0) (by decide) kw_243 dX5_load_87 (fun a18 _ => ?_)
        refine S_getI kc0 (k := 2) (by decide) kw_128 dX5_load_90 (fun x19 _ => ?_)
        exact S_ireturn rfl rfl dX5_load_93
      · refine S_iload_n 0 dX5_load_38 rfl rfl ?_
        exact S_ireturn rfl rfl dX5_load_39
    · exact S_throw1 rfl (by decide +kernel) kw_536 kn_545 kw_546 dX5_load_15 dX5_load_18 dX5_load_19 dX5_load_21 dX5_load_24
end
section
variable {l : Launch} {G : Gx}
set_option maxRecDepth 20000 in
set_option maxHeartbeats 4000000 in
theorem sl_X6_board_L16 (hs : l.stackTraces = false) (u2 : Nat) (u6 : Int32) (k16_89 : Int32 → Int32 → Int32 → Hp → Option (Int32 × Hp)) (hk16_89 : ∀ (v8 : Int32) (v9 : Int32) (v10 : Int32) (h11 : Hp), Sim l G 124 M_X6_board (fun p : Int32 × Hp => ((.inl (some (.int p.1)) : Oc), p.2)) 89 [(1, .int v8), (2, .int v9), (3, .int v10)] [] h11 (k16_89 v8 v9 v10 h11)) : ∀ (f : Nat) (w3 : Int32) (w4 : Int32) (w5 : Int32) (w7 : Int32) (h : Hp), Sim l G 124 M_X6_board (fun p : Int32 × Hp => ((.inl (some (.int p.1)) : Oc), p.2)) 16 [(0, .ref u2), (1, .int w3), (2, .int w4), (3, .int w5), (4, .int u6), (5, .int w7)] [] h (m_X6_board_L16 u2 u6 k16_89 f w3 w4 w5 w7 h) := by
  intro f
  induction f with
  | zero => intro w3 w4 w5 w7 h; exact S_none rfl
  | succ f ih =>
    intro w3 w4 w5 w7 h
    rw [m_X6_board_L16]
    refine S_iload 5 dX6_board_16 rfl ?_
    refine S_if_le 89 dX6_board_18 (by decide) (fun c22 => ?_) (fun c22 => ?_)
    · exact Sim.sub [1, 2, 3] rfl (hk16_89 w3 w4 w5 h)
    · refine S_aload_n 0 dX6_board_21 rfl rfl ?_
      refine S_iload 5 dX6_board_22 rfl ?_
      refine S_callS_IR (lev' := 0) (My := M_X6_lowest) [.int w7] [.ref u2] K_X6_lowest kw_1241 kw_1242 dX6_board_24 (by decide) rfl (Nat.le_of_ble_eq_true rfl) (fun xx ee => sm_X6_lowest hs w7 _ xx ee) (fun x12 _ => ?_)
      refine S_iload 4 dX6_board_27 rfl ?_
      refine S_callV_IR (lev' := 0) (My := M_X6_reached) [.int x12, .int u6] [] kc6 K_X6_reached kw_1218 kw_1220 kw_48 dX6_board_29 (by decide) rfl (Nat.le_of_ble_eq_true rfl) (fun xx ee => sm_X6_reached hs u2 x12 u6 h xx ee) (fun x13 _ => ?_)
      refine S_istore [(6, .int x13), (0, .ref u2), (1, .int w3), (2, .int w4), (3, .int w5), (4, .int u6), (5, .int w7)] dX6_board_32 (Nat.le_of_ble_eq_true rfl) rfl ?_
      refine S_aload_n 1 dX6_board_34 rfl rfl ?_
      refine S_iload 0 dX6_board_35 rfl ?_
      refine S_aload_n 1 dX6_board_37 rfl rfl ?_
      refine S_iload 0 dX6_board_38 rfl ?_
      refine S_callS_IR (lev' := 0) (My := M_X6_lowest) [.int x13] [.ref u2, .int x13, .ref u2] K_X6_lowest kw_1241 kw_1242 dX6_board_40 (by decide) rfl (Nat.le_of_ble_eq_true rfl) (fun xx ee => sm_X6_lowest hs x13 _ xx ee) (fun x14 _ => ?_)
      refine S_callV_IR (lev' := 0) (My := M_X6_banOf) [.int x14] [.int x13, .ref u2] kc6 K_X6_banOf kw_1222 kw_1224 kw_49 dX6_board_43 (by decide) rfl (Nat.le_of_ble_eq_true rfl) (fun xx ee => sm_X6_banOf hs u2 x14 h xx ee) (fun x15 _ => ?_)
      refine S_callV_IW (lev' := 123) (My := M_X6_knownOf) [.int x13, .int x15] [] kc6 K_X6_knownOf kw_1328 kw_1330 kw_69 dX6_board_46 (by decide) rfl (Nat.le_of_ble_eq_true rfl) (fun xx yy ee => sm_X6_knownOf hs RD u2 x13 x15 h xx yy ee) (fun x16 h17 _ => ?_)
      refine S_istore [(7, .int x16), (6, .int x13), (0, .ref u2), (1, .int w3), (2, .int w4), (3, .int w5), (4, .int u6), (5, .int w7)] dX6_board_49 (Nat.le_of_ble_eq_true rfl) rfl ?_
      refine S_iload_n 3 dX6_board_51 rfl rfl ?_
      refine S_iload 0 dX6_board_52 rfl ?_
      refine S_bipush 31 dX6_board_54 (by decide) ?_
      refine S_iand dX6_board_56 ?_
      refine S_ixor dX6_board_57 ?_
      refine S_nmI (fun x18 => ?_)
      refine S_istore_n [(1, .int x18), (7, .int x16), (6, .int x13), (0, .ref u2), (2, .int w4), (3, .int w5), (4, .int u6), (5, .int w7)] dX6_board_58 rfl (Nat.le_of_ble_eq_true rfl) rfl ?_
      refine S_iload_n 4 dX6_board_59 rfl rfl ?_
      refine S_iload 1 dX6_board_60 rfl ?_
      refine S_iconst 5 dX6_board_62 (by decide) ?_
      refine S_ishr dX6_board_63 ?_
      refine S_bipush 31 dX6_board_64 (by decide) ?_
      refine S_iand dX6_board_66 ?_
      refine S_iadd dX6_board_67 ?_
      refine S_nmI (fun x19 => ?_)
      refine S_istore_n [(2, .int x19), (1, .int x18), (7, .int x16), (6, .int x13), (0, .ref u2), (3, .int w5), (4, .int u6), (5, .int w7)] dX6_board_68 rfl (Nat.le_of_ble_eq_true rfl) rfl ?_
      refine S_iload_n 5 dX6_board_69 rfl rfl ?_
      refine S_iload 2 dX6_board_70 rfl ?_
      refine S_bipush 10 dX6_board_72 (by decide) ?_
      refine S_ishr dX6_board_74 ?_
      refine S_iadd dX6_board_75 ?_
      refine S_nmI (fun x20 => ?_)
      refine S_istore_n [(3, .int x20), (2, .int x19), (1, .int x18), (7, .int x16), (6, .int x13), (0, .ref u2), (4, .int u6), (5, .int w7)] dX6_board_76 rfl (Nat.le_of_ble_eq_true rfl) rfl ?_
      refine S_iload 7 dX6_board_77 rfl ?_
      refine S_iload 4 dX6_board_79 rfl ?_
      refine S_iconst (-1) dX6_board_81 (by decide) ?_
      refine S_ixor dX6_board_82 ?_
      refine S_iand dX6_board_83 ?_
      refine S_nmI (fun x21 => ?_)
      refine S_istore [(5, .int x21), (3, .int x20), (2, .int x19), (1, .int x18), (7, .int x16), (6, .int x13), (0, .ref u2), (4, .int u6)] dX6_board_84 (Nat.le_of_ble_eq_true rfl) rfl ?_
      refine S_goto 16 dX6_board_86 (by decide) ?_
      exact Sim.sub [6, 3, 2, 1, 7, 0] rfl (ih x18 x19 x20 x21 h17)
set_option maxRecDepth 20000 in
set_option maxHeartbeats 4000000 in
theorem ss_X6_board (hs : l.stackTraces = false) (o : Nat) (h : Hp) : Sim l G 124 M_X6_board (fun p : Int32 × Hp => ((.inl (some (.int p.1)) : Oc), p.2)) 0 [(0, .ref o)] [] h (m_X6_board  o h) := by
  rw [m_X6_board]
  refine S_iconst 0 dX6_board_0 (by decide) ?_
  refine S_istore_n [(1, .int 0), (0, .ref o)] dX6_board_1 rfl (Nat.le_of_ble_eq_true rfl) rfl ?_
  refine S_iconst 0 dX6_board_2 (by decide) ?_
  refine S_istore_n [(2, .int 0), (1, .int 0), (0, .ref o)] dX6_board_3 rfl (Nat.le_of_ble_eq_true rfl) rfl ?_
  refine S_iconst 0 dX6_board_4 (by decide) ?_
  refine S_istore_n [(3, .int 0), (2, .int 0), (1, .int 0), (0, .ref o)] dX6_board_5 rfl (Nat.le_of_ble_eq_true rfl) rfl ?_
  refine S_aload_n 3 dX6_board_6 rfl rfl ?_
  refine S_callV_IR (lev' := 1) (My := M_X6_freeSet) [] [] kc6 K_X6_freeSet kw_1214 kw_1216 kw_47 dX6_board_7 (by decide) rfl (Nat.le_of_ble_eq_true rfl) (fun xx ee => sm_X6_freeSet hs o h xx ee) (fun x1 _ => ?_)
  refine S_istore [(4, .int x1), (3, .int 0), (2, .int 0), (1, .int 0), (0, .ref o)] dX6_board_10 (Nat.le_of_ble_eq_true rfl) rfl ?_
  refine S_iload 0 dX6_board_12 rfl ?_
  refine S_istore [(5, .int x1), (4, .int x1), (3, .int 0), (2, .int 0), (1, .int 0), (0, .ref o)] dX6_board_14 (Nat.le_of_ble_eq_true rfl) rfl ?_
  refine Sim.sub [5, 4, 3, 2, 1, 0] rfl (sl_X6_board_L16 hs o x1 _ ?_ LF (0 : Int32) (0 : Int32) (0 : Int32) x1 h)
  · intro v8 v9 v10 h11
    refine S_iload_n 0 dX6_board_89 rfl rfl ?_
    refine S_iload_n 1 dX6_board_90 rfl rfl ?_
    refine S_iconst 5 dX6_board_91 (by decide) ?_
    refine S_ishl dX6_board_92 ?_
    refine S_ior dX6_board_93 ?_
    refine S_iload_n 2 dX6_board_94 rfl rfl ?_
    refine S_bipush 10 dX6_board_95 (by decide) ?_
    refine S_ishl dX6_board_97 ?_
    refine S_ior dX6_board_98 ?_
    exact S_ireturn rfl rfl dX6_board_99
theorem sm_X6_board (hs : l.stackTraces = false) (o : Nat) (h : Hp) : ∀ x h1, m_X6_board  o h = some (x, h1) → SR l G 124 M_X6_board [.ref o] h (some (.int x)) h1 := fun x h1 e => SR.of K_X6_board hs rfl (Nat.le_of_ble_eq_true rfl) (ss_X6_board hs o h) e rfl
end
