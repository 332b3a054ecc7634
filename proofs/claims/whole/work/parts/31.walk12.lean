/-! printed by wip/whole/emit.py: walks -/
section
variable {l : Launch} {G : Gx}
set_option maxRecDepth 20000 in
set_option maxHeartbeats 4000000 in
theorem sl_X6_winningMoves_L24 (hs : l.stackTraces = false) (u7 : Nat) (k24_51 : Int32 → Hp → Option (Int32 × Hp)) (hk24_51 : ∀ (v10 : Int32) (h11 : Hp), Sim l G 127 M_X6_winningMoves (fun p : Int32 × Hp => ((.inl (some (.int p.1)) : Oc), p.2)) 51 [(1, .int v10)] [] h11 (k24_51 v10 h11)) : ∀ (f : Nat) (w8 : Int32) (w9 : Int32) (h : Hp), Sim l G 127 M_X6_winningMoves (fun p : Int32 × Hp => ((.inl (some (.int p.1)) : Oc), p.2)) 24 [(0, .ref u7), (1, .int w8), (2, .int w9)] [] h (m_X6_winningMoves_L24 u7 k24_51 f w8 w9 h) := by
  intro f
  induction f with
  | zero => intro w8 w9 h; exact S_none rfl
  | succ f ih =>
    intro w8 w9 h
    rw [m_X6_winningMoves_L24]
    refine S_iload_n 2 dX6_winningMoves_24 rfl rfl ?_
    refine S_aload_n 0 dX6_winningMoves_25 rfl rfl ?_
    refine S_getR kc6 (k := 0) (by decide) kw_1040 dX6_winningMoves_26 (fun a12 _ => ?_)
    refine S_iconst 0 dX6_winningMoves_29 (by decide) ?_
    refine S_iaload dX6_winningMoves_30 (fun x13 _ => ?_)
    refine S_icmp_ge 51 dX6_winningMoves_31 (by decide) (fun c19 => ?_) (fun c19 => ?_)
    · exact Sim.sub [1] rfl (hk24_51 w8 h)
    · refine S_iload_n 1 dX6_winningMoves_34 rfl rfl ?_
      refine S_aload_n 0 dX6_winningMoves_35 rfl rfl ?_
      refine S_iload_n 2 dX6_winningMoves_36 rfl rfl ?_
      refine S_callV_IW (lev' := 126) (My := M_X6_winningOn) [.int w9] [.int w8] kc6 K_X6_winningOn kw_1368 kw_1370 kw_76 dX6_winningMoves_37 (by decide) rfl (Nat.le_of_ble_eq_true rfl) (fun xx yy ee => sm_X6_winningOn hs u7 w9 h xx yy ee) (fun x14 h15 _ => ?_)
      refine S_callS_IR (lev' := 0) (My := M_X6_bits) [.int x14] [.int w8] K_X6_bits kw_1230 kw_1231 dX6_winningMoves_40 (by decide) rfl (Nat.le_of_ble_eq_true rfl) (fun xx ee => sm_X6_bits hs x14 _ xx ee) (fun x16 _ => ?_)
      refine S_iadd dX6_winningMoves_43 ?_
      refine S_nmI (fun x17 => ?_)
      refine S_istore_n [(1, .int x17), (0, .ref u7), (2, .int w9)] dX6_winningMoves_44 rfl (Nat.le_of_ble_eq_true rfl) rfl ?_
      refine S_iincN (c := 1) 2 (fun x18 => [(2, .int x18), (1, .int x17), (0, .ref u7)]) dX6_winningMoves_45 rfl (by decide) (Nat.le_of_ble_eq_true rfl) (fun _ => rfl) (fun x18 => ?_)
      refine S_goto 24 dX6_winningMoves_48 (by decide) ?_
      exact Sim.sub [2, 1, 0] rfl (ih x17 x18 h15)
set_option maxRecDepth 20000 in
set_option maxHeartbeats 4000000 in
theorem ss_X6_winningMoves (hs : l.stackTraces = false) (o : Nat) (h : Hp) : Sim l G 127 M_X6_winningMoves (fun p : Int32 × Hp => ((.inl (some (.int p.1)) : Oc), p.2)) 0 [(0, .ref o)] [] h (m_X6_winningMoves  o h) := by
  rw [m_X6_winningMoves]
  refine S_aload_n 0 dX6_winningMoves_0 rfl rfl ?_
  refine S_iconst 0 dX6_winningMoves_1 (by decide) ?_
  refine S_put kc6 (k := 7) (by decide) rfl kw_1047 rfl rfl dX6_winningMoves_2 (fun h1 _ => ?_)
  refine S_aload_n 0 dX6_winningMoves_5 rfl rfl ?_
  refine S_callV_VW (lev' := 0) (My := M_X6_forgets) [] [] kc6 K_X6_forgets kw_1324 kw_1326 kw_68 dX6_winningMoves_6 (by decide) rfl (Nat.le_of_ble_eq_true rfl) (fun xx ee => sm_X6_forgets hs o h1 xx ee) (fun h2 _ => ?_)
  refine S_aload_n 0 dX6_winningMoves_9 rfl rfl ?_
  refine S_callV_BW (lev' := 125) (My := M_X6_passWins) [] [] kc6 K_X6_passWins kw_1364 kw_1366 kw_75 dX6_winningMoves_10 (by decide) rfl (Nat.le_of_ble_eq_true rfl) (fun xx yy ee => sm_X6_passWins hs o h2 xx yy ee) (fun bb3 h4 _ => ?_)
  refine S_jK (fun (k6 : Bool → Option (Int32 × Hp)) => ∀ (v5 : Bool), Sim l G 127 M_X6_winningMoves (fun p : Int32 × Hp => ((.inl (some (.int p.1)) : Oc), p.2)) 21 [(0, .ref o)] [.int (bI v5)] h4 (k6 v5)) ?_ (fun k6 hk6 => ?_)
  · intro v5
    refine S_istore_n [(1, .int (bI v5)), (0, .ref o)] dX6_winningMoves_21 rfl (Nat.le_of_ble_eq_true rfl) rfl ?_
    refine S_iconst 0 dX6_winningMoves_22 (by decide) ?_
    refine S_istore_n [(2, .int 0), (1, .int (bI v5)), (0, .ref o)] dX6_winningMoves_23 rfl (Nat.le_of_ble_eq_true rfl) rfl ?_
    refine Sim.sub [2, 1, 0] rfl (sl_X6_winningMoves_L24 hs o _ ?_ LF (bI v5) (0 : Int32) h4)
    · intro v10 h11
      refine S_iload_n 0 dX6_winningMoves_51 rfl rfl ?_
      exact S_ireturn rfl rfl dX6_winningMoves_52
  refine S_if_eqB 20 dX6_winningMoves_13 (by decide) (fun c20 => ?_) (fun c20 => ?_)
  · refine S_iconst 0 dX6_winningMoves_20 (by decide) ?_
    exact Sim.sub [0] rfl (hk6 false)
  · refine S_iconst 1 dX6_winningMoves_16 (by decide) ?_
    refine S_goto 21 dX6_winningMoves_17 (by decide) ?_
    exact Sim.sub [0] rfl (hk6 true)
theorem sm_X6_winningMoves (hs : l.stackTraces = false) (o : Nat) (h : Hp) : ∀ x h1, m_X6_winningMoves  o h = some (x, h1) → SR l G 127 M_X6_winningMoves [.ref o] h (some (.int x)) h1 := fun x h1 e => SR.of K_X6_winningMoves hs rfl (Nat.le_of_ble_eq_true rfl) (ss_X6_winningMoves hs o h) e rfl
end
section
variable {l : Launch} {G : Gx}
set_option maxRecDepth 20000 in
set_option maxHeartbeats 4000000 in
theorem ss_X6_winningColours (hs : l.stackTraces = false) (o : Nat) (p1 : Int32) (h : Hp) : Sim l G 127 M_X6_winningColours (fun p : Int32 × Hp => ((.inl (some (.int p.1)) : Oc), p.2)) 0 [(0, .ref o), (1, .int p1)] [] h (m_X6_winningColours  o p1 h) := by
  rw [m_X6_winningColours]
  refine S_aload_n 0 dX6_winningColours_0 rfl rfl ?_
  refine S_aload_n 0 dX6_winningColours_1 rfl rfl ?_
  refine S_iload_n 1 dX6_winningColours_2 rfl rfl ?_
  refine S_callV_BR (lev' := 1) (My := M_X6_isVertex) [.int p1] [.ref o] kc6 K_X6_isVertex kw_1292 kw_1294 kw_62 dX6_winningColours_3 (by decide) rfl (Nat.le_of_ble_eq_true rfl) (fun xx ee => sm_X6_isVertex hs o p1 h xx ee) (fun bb1 _ => ?_)
  refine S_jK (fun (k3 : Bool → Option (Int32 × Hp)) => ∀ (v2 : Bool), Sim l G 127 M_X6_winningColours (fun p : Int32 × Hp => ((.inl (some (.int p.1)) : Oc), p.2)) 14 [(0, .ref o), (1, .int p1)] [.int (bI v2), .ref o] h (k3 v2)) ?_ (fun k3 hk3 => ?_)
  · intro v2
    refine S_put kc6 (k := 7) (by decide) rfl kw_1047 rfl rfl dX6_winningColours_14 (fun h4 _ => ?_)
    refine S_aload_n 0 dX6_winningColours_17 rfl rfl ?_
    refine S_getI kc6 (k := 7) (by decide) kw_1047 dX6_winningColours_18 (fun x5 _ => ?_)
    refine S_if_le 26 dX6_winningColours_21 (by decide) (fun c9 => ?_) (fun c9 => ?_)
    · refine S_aload_n 0 dX6_winningColours_26 rfl rfl ?_
      refine S_callV_VW (lev' := 0) (My := M_X6_forgets) [] [] kc6 K_X6_forgets kw_1324 kw_1326 kw_68 dX6_winningColours_27 (by decide) rfl (Nat.le_of_ble_eq_true rfl) (fun xx ee => sm_X6_forgets hs o h4 xx ee) (fun h6 _ => ?_)
      refine S_aload_n 0 dX6_winningColours_30 rfl rfl ?_
      refine S_iload_n 1 dX6_winningColours_31 rfl rfl ?_
      refine S_callV_IW (lev' := 126) (My := M_X6_winningOn) [.int p1] [] kc6 K_X6_winningOn kw_1368 kw_1370 kw_76 dX6_winningColours_32 (by decide) rfl (Nat.le_of_ble_eq_true rfl) (fun xx yy ee => sm_X6_winningOn hs o p1 h6 xx yy ee) (fun x7 h8 _ => ?_)
      exact S_ireturn rfl rfl dX6_winningColours_35
    · refine S_iconst 0 dX6_winningColours_24 (by decide) ?_
      exact S_ireturn rfl rfl dX6_winningColours_25
  refine S_if_eqB 13 dX6_winningColours_6 (by decide) (fun c10 => ?_) (fun c10 => ?_)
  · refine S_iconst 1 dX6_winningColours_13 (by decide) ?_
    exact Sim.sub [0, 1] rfl (hk3 true)
  · refine S_iconst 0 dX6_winningColours_9 (by decide) ?_
    refine S_goto 14 dX6_winningColours_10 (by decide) ?_
    exact Sim.sub [0, 1] rfl (hk3 false)
theorem sm_X6_winningColours (hs : l.stackTraces = false) (o : Nat) (p1 : Int32) (h : Hp) : ∀ x h1, m_X6_winningColours  o p1 h = some (x, h1) → SR l G 127 M_X6_winningColours [.ref o, .int p1] h (some (.int x)) h1 := fun x h1 e => SR.of K_X6_winningColours hs rfl (Nat.le_of_ble_eq_true rfl) (ss_X6_winningColours hs o p1 h) e rfl
end
section
variable {l : Launch} {G : Gx}
set_option maxRecDepth 20000 in
set_option maxHeartbeats 4000000 in
theorem sl_X6_best_L2 (hs : l.stackTraces = false) (u1 : Nat) (k2_39 : Hp → Option (Int32 × Hp)) (k2_20 : Int32 → Hp → Option (Int32 × Hp)) (hk2_39 : ∀ (h3 : Hp), Sim l G 127 M_X6_best (fun p : Int32 × Hp => ((.inl (some (.int p.1)) : Oc), p.2)) 39 [(0, .ref u1)] [] h3 (k2_39 h3)) (hk2_20 : ∀ (v4 : Int32) (h5 : Hp), Sim l G 127 M_X6_best (fun p : Int32 × Hp => ((.inl (some (.int p.1)) : Oc), p.2)) 20 [(0, .ref u1), (1, .int v4)] [] h5 (k2_20 v4 h5)) : ∀ (f : Nat) (w2 : Int32) (h : Hp), Sim l G 127 M_X6_best (fun p : Int32 × Hp => ((.inl (some (.int p.1)) : Oc), p.2)) 2 [(0, .ref u1), (1, .int w2)] [] h (m_X6_best_L2 u1 k2_39 k2_20 f w2 h) := by
  intro f
  induction f with
  | zero => intro w2 h; exact S_none rfl
  | succ f ih =>
    intro w2 h
    rw [m_X6_best_L2]
    refine S_iload_n 1 dX6_best_2 rfl rfl ?_
    refine S_aload_n 0 dX6_best_3 rfl rfl ?_
    refine S_getR kc6 (k := 0) (by decide) kw_1040 dX6_best_4 (fun a6 _ => ?_)
    refine S_iconst 0 dX6_best_7 (by decide) ?_
    refine S_iaload dX6_best_8 (fun x7 _ => ?_)
    refine S_icmp_ge 39 dX6_best_9 (by decide) (fun c12 => ?_) (fun c12 => ?_)
    · exact Sim.sub [0] rfl (hk2_39 h)
    · refine S_aload_n 0 dX6_best_12 rfl rfl ?_
      refine S_iload_n 1 dX6_best_13 rfl rfl ?_
      refine S_callV_IW (lev' := 126) (My := M_X6_winningOn) [.int w2] [] kc6 K_X6_winningOn kw_1368 kw_1370 kw_76 dX6_best_14 (by decide) rfl (Nat.le_of_ble_eq_true rfl) (fun xx yy ee => sm_X6_winningOn hs u1 w2 h xx yy ee) (fun x8 h9 _ => ?_)
      refine S_if_le 33 dX6_best_17 (by decide) (fun c11 => ?_) (fun c11 => ?_)
      · refine S_iincN (c := 1) 1 (fun x10 => [(1, .int x10), (0, .ref u1)]) dX6_best_33 rfl (by decide) (Nat.le_of_ble_eq_true rfl) (fun _ => rfl) (fun x10 => ?_)
        refine S_goto 2 dX6_best_36 (by decide) ?_
        exact Sim.sub [1, 0] rfl (ih x10 h9)
      · exact Sim.sub [0, 1] rfl (hk2_20 w2 h9)
set_option maxRecDepth 20000 in
set_option maxHeartbeats 4000000 in
theorem sl_X6_best_L75 (hs : l.stackTraces = false) (u25 : Nat) (u28 : Int32) (u29 : Int32) (k75_158 : Int32 → Int32 → Hp → Option (Int32 × Hp)) (hk75_158 : ∀ (v31 : Int32) (v32 : Int32) (h33 : Hp), Sim l G 127 M_X6_best (fun p : Int32 × Hp => ((.inl (some (.int p.1)) : Oc), p.2)) 158 [(0, .ref u25), (1, .int v31), (2, .int v32), (3, .int u28)] [] h33 (k75_158 v31 v32 h33)) : ∀ (f : Nat) (w26 : Int32) (w27 : Int32) (w30 : Int32) (h : Hp), Sim l G 127 M_X6_best (fun p : Int32 × Hp => ((.inl (some (.int p.1)) : Oc), p.2)) 75 [(0, .ref u25), (1, .int w26), (2, .int w27), (3, .int u28), (4, .int u29), (5, .int w30)] [] h (m_X6_best_L75 u25 u28 u29 k75_158 f w26 w27 w30 h) := by
  intro f
  induction f with
  | zero => intro w26 w27 w30 h; exact S_none rfl
  | succ f ih =>
    intro w26 w27 w30 h
    rw [m_X6_best_L75]
    refine S_iload 5 dX6_best_75 rfl ?_
    refine S_aload_n 0 dX6_best_77 rfl rfl ?_
    refine S_getR kc6 (k := 0) (by decide) kw_1040 dX6_best_78 (fun a34 _ => ?_)
    refine S_iconst 1 dX6_best_81 (by decide) ?_
    refine S_iaload dX6_best_82 (fun x35 _ => ?_)
    refine S_icmp_ge 158 dX6_best_83 (by decide) (fun c53 => ?_) (fun c53 => ?_)
    · exact Sim.sub [0, 1, 2, 3] rfl (hk75_158 w26 w27 h)
    · refine S_iload 4 dX6_best_86 rfl ?_
      refine S_iload 5 dX6_best_88 rfl ?_
      refine S_ishr dX6_best_90 ?_
      refine S_iconst 1 dX6_best_91 (by decide) ?_
      refine S_iand dX6_best_92 ?_
      refine S_iconst 1 dX6_best_93 (by decide) ?_
      refine S_jK (fun (k38 : Int32 → Hp → Option (Int32 × Hp)) => ∀ (v36 : Int32) (h37 : Hp), Sim l G 127 M_X6_best (fun p : Int32 × Hp => ((.inl (some (.int p.1)) : Oc), p.2)) 120 [(0, .ref u25), (1, .int w26), (2, .int w27), (3, .int u28), (4, .int u29), (5, .int w30)] [.int v36] h37 (k38 v36 h37)) ?_ (fun k38 hk38 => ?_)
      · intro v36 h37
        refine S_istore [(6, .int v36), (0, .ref u25), (1, .int w26), (2, .int w27), (3, .int u28), (4, .int u29), (5, .int w30)] dX6_best_120 (Nat.le_of_ble_eq_true rfl) rfl ?_
        refine S_iload 0 dX6_best_122 rfl ?_
        refine S_iconst (-1) dX6_best_124 (by decide) ?_
        refine S_jK (fun (k41 : Int32 → Int32 → Option (Int32 × Hp)) => ∀ (v39 : Int32) (v40 : Int32), Sim l G 127 M_X6_best (fun p : Int32 × Hp => ((.inl (some (.int p.1)) : Oc), p.2)) 152 [(0, .ref u25), (1, .int v39), (2, .int v40), (3, .int u28), (4, .int u29), (5, .int w30)] [] h37 (k41 v39 v40)) ?_ (fun k41 hk41 => ?_)
        · intro v39 v40
          refine S_iincN (c := 1) 5 (fun x42 => [(5, .int x42), (0, .ref u25), (1, .int v39), (2, .int v40), (3, .int u28), (4, .int u29)]) dX6_best_152 rfl (by decide) (Nat.le_of_ble_eq_true rfl) (fun _ => rfl) (fun x42 => ?_)
          refine S_goto 75 dX6_best_155 (by decide) ?_
          exact Sim.sub [1, 2, 3, 4, 5, 0] rfl (ih v39 v40 x42 h37)
        refine S_icmp_eq 152 dX6_best_125 (by decide) (fun c47 => ?_) (fun c47 => ?_)
        · exact Sim.sub [1, 2, 3, 4, 5, 6] rfl (hk41 w26 w27)
        · refine S_iload_n 2 dX6_best_128 rfl rfl ?_
          refine S_iconst (-1) dX6_best_129 (by decide) ?_
          refine S_jK (fun (k43 : Option (Int32 × Hp)) => Sim l G 127 M_X6_best (fun p : Int32 × Hp => ((.inl (some (.int p.1)) : Oc), p.2)) 142 [(0, .ref u25), (3, .int u28), (4, .int u29), (5, .int w30), (6, .int v36)] [] h37 (k43)) ?_ (fun k43 hk43 => ?_)
          · refine S_iconst 4 dX6_best_142 (by decide) ?_
            refine S_iload_n 1 dX6_best_143 rfl rfl ?_
            refine S_imul dX6_best_144 ?_
            refine S_iload 3 dX6_best_145 rfl ?_
            refine S_iadd dX6_best_147 ?_
            refine S_nmI (fun x44 => ?_)
            refine S_istore_n [(1, .int x44), (0, .ref u25), (3, .int u28), (4, .int u29), (5, .int w30), (6, .int v36)] dX6_best_148 rfl (Nat.le_of_ble_eq_true rfl) rfl ?_
            refine S_iload 5 dX6_best_149 rfl ?_
            refine S_istore_n [(2, .int v36), (1, .int x44), (0, .ref u25), (3, .int u28), (4, .int u29), (5, .int w30), (6, .int v36)] dX6_best_151 rfl (Nat.le_of_ble_eq_true rfl) rfl ?_
            exact Sim.sub [2, 1, 0, 3, 4, 5] rfl (hk41 x44 v36)
          refine S_icmp_eq 142 dX6_best_130 (by decide) (fun c46 => ?_) (fun c46 => ?_)
          · exact Sim.sub [1, 4, 5, 6, 0] rfl (hk43)
          · refine S_iload 0 dX6_best_133 rfl ?_
            refine S_iload_n 3 dX6_best_135 rfl rfl ?_
            refine S_icmp_gt 142 dX6_best_136 (by decide) (fun c45 => ?_) (fun c45 => ?_)
            · exact Sim.sub [1, 4, 5, 6, 0] rfl (hk43)
            · refine S_goto 152 dX6_best_139 (by decide) ?_
              exact Sim.sub [1, 2, 3, 4, 5, 6] rfl (hk41 w26 w27)
      refine S_icmp_ne 119 dX6_best_94 (by decide) (fun c52 => ?_) (fun c52 => ?_)
      · refine S_iconst (-1) dX6_best_119 (by decide) ?_
        exact Sim.sub [0, 1, 2, 3, 4, 5] rfl (hk38 (-1 : Int32) h)
      · refine S_aload_n 0 dX6_best_97 rfl rfl ?_
        refine S_iload_n 3 dX6_best_98 rfl rfl ?_
        refine S_iload 5 dX6_best_99 rfl ?_
        refine S_callV_IW (lev' := 125) (My := M_X6_boardIf) [.int u28, .int w30] [] kc6 K_X6_boardIf kw_1356 kw_1358 kw_74 dX6_best_101 (by decide) rfl (Nat.le_of_ble_eq_true rfl) (fun xx yy ee => sm_X6_boardIf hs u25 u28 w30 h xx yy ee) (fun x48 h49 _ => ?_)
        refine S_iconst 5 dX6_best_104 (by decide) ?_
        refine S_ishr dX6_best_105 ?_
        refine S_bipush 31 dX6_best_106 (by decide) ?_
        refine S_iand dX6_best_108 ?_
        refine S_aload_n 0 dX6_best_109 rfl rfl ?_
        refine S_getR kc6 (k := 0) (by decide) kw_1040 dX6_best_110 (fun a50 _ => ?_)
        refine S_iconst 2 dX6_best_113 (by decide) ?_
        refine S_iaload dX6_best_114 (fun x51 _ => ?_)
        refine S_iadd dX6_best_115 ?_
        refine S_goto 120 dX6_best_116 (by decide) ?_
        exact Sim.sub [0, 1, 2, 3, 4, 5] rfl (hk38 (((x48 >>> ((5 : Int32) &&& 31)) &&& (31 : Int32)) + x51) h49)
set_option maxRecDepth 20000 in
set_option maxHeartbeats 4000000 in
theorem sl_X6_best_L55 (hs : l.stackTraces = false) (u15 : Nat) (k55_164 : Int32 → Int32 → Hp → Option (Int32 × Hp)) (hk55_164 : ∀ (v19 : Int32) (v20 : Int32) (h21 : Hp), Sim l G 127 M_X6_best (fun p : Int32 × Hp => ((.inl (some (.int p.1)) : Oc), p.2)) 164 [(0, .ref u15), (1, .int v19), (2, .int v20)] [] h21 (k55_164 v19 v20 h21)) : ∀ (f : Nat) (w16 : Int32) (w17 : Int32) (w18 : Int32) (h : Hp), Sim l G 127 M_X6_best (fun p : Int32 × Hp => ((.inl (some (.int p.1)) : Oc), p.2)) 55 [(0, .ref u15), (1, .int w16), (2, .int w17), (3, .int w18)] [] h (m_X6_best_L55 u15 k55_164 f w16 w17 w18 h) := by
  intro f
  induction f with
  | zero => intro w16 w17 w18 h; exact S_none rfl
  | succ f ih =>
    intro w16 w17 w18 h
    rw [m_X6_best_L55]
    refine S_iload_n 3 dX6_best_55 rfl rfl ?_
    refine S_aload_n 0 dX6_best_56 rfl rfl ?_
    refine S_getR kc6 (k := 0) (by decide) kw_1040 dX6_best_57 (fun a22 _ => ?_)
    refine S_iconst 0 dX6_best_60 (by decide) ?_
    refine S_iaload dX6_best_61 (fun x23 _ => ?_)
    refine S_icmp_ge 164 dX6_best_62 (by decide) (fun c55 => ?_) (fun c55 => ?_)
    · exact Sim.sub [0, 1, 2] rfl (hk55_164 w16 w17 h)
    · refine S_aload_n 0 dX6_best_65 rfl rfl ?_
      refine S_iload_n 3 dX6_best_66 rfl rfl ?_
      refine S_callV_IR (lev' := 3) (My := M_X6_colours) [.int w18] [] kc6 K_X6_colours kw_1210 kw_1212 kw_46 dX6_best_67 (by decide) rfl (Nat.le_of_ble_eq_true rfl) (fun xx ee => sm_X6_colours hs u15 w18 h xx ee) (fun x24 _ => ?_)
      refine S_istore [(4, .int x24), (0, .ref u15), (1, .int w16), (2, .int w17), (3, .int w18)] dX6_best_70 (Nat.le_of_ble_eq_true rfl) rfl ?_
      refine S_iconst 0 dX6_best_72 (by decide) ?_
      refine S_istore [(5, .int 0), (4, .int x24), (0, .ref u15), (1, .int w16), (2, .int w17), (3, .int w18)] dX6_best_73 (Nat.le_of_ble_eq_true rfl) rfl ?_
      refine Sim.sub [2, 3, 4, 5, 1, 0] rfl (sl_X6_best_L75 hs u15 w18 x24 _ ?_ LF w16 w17 (0 : Int32) h)
      · intro v31 v32 h33
        refine S_iincN (c := 1) 3 (fun x54 => [(3, .int x54), (0, .ref u15), (1, .int v31), (2, .int v32)]) dX6_best_158 rfl (by decide) (Nat.le_of_ble_eq_true rfl) (fun _ => rfl) (fun x54 => ?_)
        refine S_goto 55 dX6_best_161 (by decide) ?_
        exact Sim.sub [1, 2, 3, 0] rfl (ih v31 v32 x54 h33)
set_option maxRecDepth 20000 in
set_option maxHeartbeats 4000000 in
theorem ss_X6_best (hs : l.stackTraces = false) (o : Nat) (h : Hp) : Sim l G 127 M_X6_best (fun p : Int32 × Hp => ((.inl (some (.int p.1)) : Oc), p.2)) 0 [(0, .ref o)] [] h (m_X6_best  o h) := by
  rw [m_X6_best]
  refine S_iconst 0 dX6_best_0 (by decide) ?_
  refine S_istore_n [(1, .int 0), (0, .ref o)] dX6_best_1 rfl (Nat.le_of_ble_eq_true rfl) rfl ?_
  refine Sim.sub [1, 0] rfl (sl_X6_best_L2 hs o _ _ ?_ ?_ LF (0 : Int32) h)
  · intro h3
    refine S_aload_n 0 dX6_best_39 rfl rfl ?_
    refine S_callV_BW (lev' := 125) (My := M_X6_passWins) [] [] kc6 K_X6_passWins kw_1364 kw_1366 kw_75 dX6_best_40 (by decide) rfl (Nat.le_of_ble_eq_true rfl) (fun xx yy ee => sm_X6_passWins hs o h3 xx yy ee) (fun bb13 h14 _ => ?_)
    refine S_if_eqB 49 dX6_best_43 (by decide) (fun c67 => ?_) (fun c67 => ?_)
    · refine S_iconst (-1) dX6_best_49 (by decide) ?_
      refine S_istore_n [(1, .int (-1)), (0, .ref o)] dX6_best_50 rfl (Nat.le_of_ble_eq_true rfl) rfl ?_
      refine S_iconst 0 dX6_best_51 (by decide) ?_
      refine S_istore_n [(2, .int 0), (1, .int (-1)), (0, .ref o)] dX6_best_52 rfl (Nat.le_of_ble_eq_true rfl) rfl ?_
      refine S_iconst 0 dX6_best_53 (by decide) ?_
      refine S_istore_n [(3, .int 0), (2, .int 0), (1, .int (-1)), (0, .ref o)] dX6_best_54 rfl (Nat.le_of_ble_eq_true rfl) rfl ?_
      refine Sim.sub [3, 2, 1, 0] rfl (sl_X6_best_L55 hs o _ ?_ LF (-1 : Int32) (0 : Int32) (0 : Int32) h14)
      · intro v19 v20 h21
        refine S_aload_n 0 dX6_best_164 rfl rfl ?_
        refine S_getR kc6 (k := 0) (by decide) kw_1040 dX6_best_165 (fun a56 _ => ?_)
        refine S_iconst 2 dX6_best_168 (by decide) ?_
        refine S_iaload dX6_best_169 (fun x57 _ => ?_)
        refine S_if_le 203 dX6_best_170 (by decide) (fun c66 => ?_) (fun c66 => ?_)
        · refine S_iload_n 1 dX6_best_203 rfl rfl ?_
          exact S_ireturn rfl rfl dX6_best_204
        · refine S_iload_n 1 dX6_best_173 rfl rfl ?_
          refine S_iconst (-1) dX6_best_174 (by decide) ?_
          refine S_jK (fun (k59 : Hp → Option (Int32 × Hp)) => ∀ (h58 : Hp), Sim l G 127 M_X6_best (fun p : Int32 × Hp => ((.inl (some (.int p.1)) : Oc), p.2)) 200 [] [] h58 (k59 h58)) ?_ (fun k59 hk59 => ?_)
          · intro h58
            refine S_bipush 100 dX6_best_200 (by decide) ?_
            refine S_istore_n [(1, .int 100)] dX6_best_202 rfl (Nat.le_of_ble_eq_true rfl) rfl ?_
            refine S_iload_n 0 dX6_best_203 rfl rfl ?_
            exact S_ireturn rfl rfl dX6_best_204
          refine S_icmp_eq 200 dX6_best_175 (by decide) (fun c65 => ?_) (fun c65 => ?_)
          · exact Sim.sub [] rfl (hk59 h21)
          · refine S_aload_n 0 dX6_best_178 rfl rfl ?_
            refine S_callV_IW (lev' := 124) (My := M_X6_board) [] [] kc6 K_X6_board kw_1348 kw_1350 kw_73 dX6_best_179 (by decide) rfl (Nat.le_of_ble_eq_true rfl) (fun xx yy ee => sm_X6_board hs o h21 xx yy ee) (fun x60 h61 _ => ?_)
            refine S_iconst 5 dX6_best_182 (by decide) ?_
            refine S_ishr dX6_best_183 ?_
            refine S_bipush 31 dX6_best_184 (by decide) ?_
            refine S_iand dX6_best_186 ?_
            refine S_aload_n 0 dX6_best_187 rfl rfl ?_
            refine S_getR kc6 (k := 0) (by decide) kw_1040 dX6_best_188 (fun a62 _ => ?_)
            refine S_iconst 2 dX6_best_191 (by decide) ?_
            refine S_iaload dX6_best_192 (fun x63 _ => ?_)
            refine S_iadd dX6_best_193 ?_
            refine S_iconst 1 dX6_best_194 (by decide) ?_
            refine S_isub dX6_best_195 ?_
            refine S_iload_n 2 dX6_best_196 rfl rfl ?_
            refine S_icmp_le 203 dX6_best_197 (by decide) (fun c64 => ?_) (fun c64 => ?_)
            · refine S_iload_n 1 dX6_best_203 rfl rfl ?_
              exact S_ireturn rfl rfl dX6_best_204
            · exact Sim.sub [] rfl (hk59 h61)
    · refine S_bipush 100 dX6_best_46 (by decide) ?_
      exact S_ireturn rfl rfl dX6_best_48
  · intro v4 h5
    refine S_iconst 4 dX6_best_20 (by decide) ?_
    refine S_iload_n 1 dX6_best_21 rfl rfl ?_
    refine S_imul dX6_best_22 ?_
    refine S_aload_n 0 dX6_best_23 rfl rfl ?_
    refine S_iload_n 1 dX6_best_24 rfl rfl ?_
    refine S_callV_IW (lev' := 126) (My := M_X6_winningOn) [.int v4] [.int ((4 : Int32) * v4)] kc6 K_X6_winningOn kw_1368 kw_1370 kw_76 dX6_best_25 (by decide) rfl (Nat.le_of_ble_eq_true rfl) (fun xx yy ee => sm_X6_winningOn hs o v4 h5 xx yy ee) (fun x68 h69 _ => ?_)
    refine S_callS_IR (lev' := 0) (My := M_X6_lowest) [.int x68] [.int ((4 : Int32) * v4)] K_X6_lowest kw_1241 kw_1242 dX6_best_28 (by decide) rfl (Nat.le_of_ble_eq_true rfl) (fun xx ee => sm_X6_lowest hs x68 _ xx ee) (fun x70 _ => ?_)
    refine S_iadd dX6_best_31 ?_
    exact S_ireturn rfl rfl dX6_best_32
theorem sm_X6_best (hs : l.stackTraces = false) (o : Nat) (h : Hp) : ∀ x h1, m_X6_best  o h = some (x, h1) → SR l G 127 M_X6_best [.ref o] h (some (.int x)) h1 := fun x h1 e => SR.of K_X6_best hs rfl (Nat.le_of_ble_eq_true rfl) (ss_X6_best hs o h) e rfl
end
section
variable {l : Launch} {G : Gx}
set_option maxRecDepth 20000 in
set_option maxHeartbeats 4000000 in
theorem ss_X6_bestMove (hs : l.stackTraces = false) (o : Nat) (h : Hp) : Sim l G 128 M_X6_bestMove (fun p : Int32 × Hp => ((.inl (some (.int p.1)) : Oc), p.2)) 0 [(0, .ref o)] [] h (m_X6_bestMove  o h) := by
  rw [m_X6_bestMove]
  refine S_aload_n 0 dX6_bestMove_0 rfl rfl ?_
  refine S_aload_n 0 dX6_bestMove_1 rfl rfl ?_
  refine S_callV_BR (lev' := 5) (My := M_X6_isOver) [] [.ref o] kc6 K_X6_isOver kw_1276 kw_1278 kw_59 dX6_bestMove_2 (by decide) rfl (Nat.le_of_ble_eq_true rfl) (fun xx ee => sm_X6_isOver hs o h xx ee) (fun bb1 _ => ?_)
  refine S_jK (fun (k3 : Bool → Option (Int32 × Hp)) => ∀ (v2 : Bool), Sim l G 128 M_X6_bestMove (fun p : Int32 × Hp => ((.inl (some (.int p.1)) : Oc), p.2)) 13 [(0, .ref o)] [.int (bI v2), .ref o] h (k3 v2)) ?_ (fun k3 hk3 => ?_)
  · intro v2
    refine S_put kc6 (k := 7) (by decide) rfl kw_1047 rfl rfl dX6_bestMove_13 (fun h4 _ => ?_)
    refine S_aload_n 0 dX6_bestMove_16 rfl rfl ?_
    refine S_getI kc6 (k := 7) (by decide) kw_1047 dX6_bestMove_17 (fun x5 _ => ?_)
    refine S_if_le 25 dX6_bestMove_20 (by decide) (fun c9 => ?_) (fun c9 => ?_)
    · refine S_aload_n 0 dX6_bestMove_25 rfl rfl ?_
      refine S_callV_VW (lev' := 0) (My := M_X6_forgets) [] [] kc6 K_X6_forgets kw_1324 kw_1326 kw_68 dX6_bestMove_26 (by decide) rfl (Nat.le_of_ble_eq_true rfl) (fun xx ee => sm_X6_forgets hs o h4 xx ee) (fun h6 _ => ?_)
      refine S_aload_n 0 dX6_bestMove_29 rfl rfl ?_
      refine S_callV_IW (lev' := 127) (My := M_X6_best) [] [] kc6 K_X6_best kw_1380 kw_1382 kw_77 dX6_bestMove_30 (by decide) rfl (Nat.le_of_ble_eq_true rfl) (fun xx yy ee => sm_X6_best hs o h6 xx yy ee) (fun x7 h8 _ => ?_)
      exact S_ireturn rfl rfl dX6_bestMove_33
    · refine S_iconst 0 dX6_bestMove_23 (by decide) ?_
      exact S_ireturn rfl rfl dX6_bestMove_24
  refine S_if_eqB 12 dX6_bestMove_5 (by decide) (fun c10 => ?_) (fun c10 => ?_)
  · refine S_iconst 0 dX6_bestMove_12 (by decide) ?_
    exact Sim.sub [0] rfl (hk3 false)
  · refine S_iconst 1 dX6_bestMove_8 (by decide) ?_
    refine S_goto 13 dX6_bestMove_9 (by decide) ?_
    exact Sim.sub [0] rfl (hk3 true)
theorem sm_X6_bestMove (hs : l.stackTraces = false) (o : Nat) (h : Hp) : ∀ x h1, m_X6_bestMove  o h = some (x, h1) → SR l G 128 M_X6_bestMove [.ref o] h (some (.int x)) h1 := fun x h1 e => SR.of K_X6_bestMove hs rfl (Nat.le_of_ble_eq_true rfl) (ss_X6_bestMove hs o h) e rfl
end
section
variable {l : Launch} {G : Gx}
set_option maxRecDepth 20000 in
set_option maxHeartbeats 4000000 in
theorem sl_X6_playOut_L38 (hs : l.stackTraces = false) (u8 : Nat) (u9 : Int32) (k38_84 : Int32 → Hp → Option (Int32 × Hp)) (hk38_84 : ∀ (v11 : Int32) (h12 : Hp), Sim l G 128 M_X6_playOut (fun p : Int32 × Hp => ((.inl (some (.int p.1)) : Oc), p.2)) 84 [(2, .int v11)] [] h12 (k38_84 v11 h12)) : ∀ (f : Nat) (w10 : Int32) (h : Hp), Sim l G 128 M_X6_playOut (fun p : Int32 × Hp => ((.inl (some (.int p.1)) : Oc), p.2)) 38 [(0, .ref u8), (1, .int u9), (2, .int w10)] [] h (m_X6_playOut_L38 u8 u9 k38_84 f w10 h) := by
  intro f
  induction f with
  | zero => intro w10 h; exact S_none rfl
  | succ f ih =>
    intro w10 h
    rw [m_X6_playOut_L38]
    refine S_iload_n 2 dX6_playOut_38 rfl rfl ?_
    refine S_iload_n 1 dX6_playOut_39 rfl rfl ?_
    refine S_icmp_ge 84 dX6_playOut_40 (by decide) (fun c23 => ?_) (fun c23 => ?_)
    · exact Sim.sub [2] rfl (hk38_84 w10 h)
    · refine S_aload_n 0 dX6_playOut_43 rfl rfl ?_
      refine S_callV_BR (lev' := 5) (My := M_X6_isOver) [] [] kc6 K_X6_isOver kw_1276 kw_1278 kw_59 dX6_playOut_44 (by decide) rfl (Nat.le_of_ble_eq_true rfl) (fun xx ee => sm_X6_isOver hs u8 h xx ee) (fun bb13 _ => ?_)
      refine S_if_neB 84 dX6_playOut_47 (by decide) (fun c22 => ?_) (fun c22 => ?_)
      · exact Sim.sub [2] rfl (hk38_84 w10 h)
      · refine S_aload_n 0 dX6_playOut_50 rfl rfl ?_
        refine S_callV_IW (lev' := 127) (My := M_X6_best) [] [] kc6 K_X6_best kw_1380 kw_1382 kw_77 dX6_playOut_51 (by decide) rfl (Nat.le_of_ble_eq_true rfl) (fun xx yy ee => sm_X6_best hs u8 h xx yy ee) (fun x14 h15 _ => ?_)
        refine S_istore_n [(3, .int x14), (0, .ref u8), (1, .int u9), (2, .int w10)] dX6_playOut_54 rfl (Nat.le_of_ble_eq_true rfl) rfl ?_
        refine S_iload_n 0 dX6_playOut_55 rfl rfl ?_
        refine S_bipush 100 dX6_playOut_56 (by decide) ?_
        refine S_jK (fun (k17 : Hp → Option (Int32 × Hp)) => ∀ (h16 : Hp), Sim l G 128 M_X6_playOut (fun p : Int32 × Hp => ((.inl (some (.int p.1)) : Oc), p.2)) 78 [(0, .ref u8), (1, .int u9), (2, .int w10)] [] h16 (k17 h16)) ?_ (fun k17 hk17 => ?_)
        · intro h16
          refine S_iincN (c := 1) 2 (fun x18 => [(2, .int x18), (0, .ref u8), (1, .int u9)]) dX6_playOut_78 rfl (by decide) (Nat.le_of_ble_eq_true rfl) (fun _ => rfl) (fun x18 => ?_)
          refine S_goto 38 dX6_playOut_81 (by decide) ?_
          exact Sim.sub [1, 2, 0] rfl (ih x18 h16)
        refine S_icmp_ne 68 dX6_playOut_58 (by decide) (fun c21 => ?_) (fun c21 => ?_)
        · refine S_aload_n 1 dX6_playOut_68 rfl rfl ?_
          refine S_iload_n 0 dX6_playOut_69 rfl rfl ?_
          refine S_iconst 4 dX6_playOut_70 (by decide) ?_
          refine S_idivC dX6_playOut_71 (by decide) ?_
          refine S_iload_n 0 dX6_playOut_72 rfl rfl ?_
          refine S_iconst 4 dX6_playOut_73 (by decide) ?_
          refine S_iremC dX6_playOut_74 (by decide) ?_
          refine S_callV_VW (lev' := 3) (My := M_X6_lays) [.int (jdiv x14 (4 : Int32)), .int (jrem x14 (4 : Int32))] [] kc6 K_X6_lays kw_1233 kw_1235 kw_51 dX6_playOut_75 (by decide) rfl (Nat.le_of_ble_eq_true rfl) (fun xx ee => sm_X6_lays hs u8 (jdiv x14 (4 : Int32)) (jrem x14 (4 : Int32)) h15 xx ee) (fun h19 _ => ?_)
          exact Sim.sub [1, 2, 3] rfl (hk17 h19)
        · refine S_aload_n 1 dX6_playOut_61 rfl rfl ?_
          refine S_callV_VW (lev' := 3) (My := M_X6_passes) [] [] kc6 K_X6_passes kw_1256 kw_1258 kw_56 dX6_playOut_62 (by decide) rfl (Nat.le_of_ble_eq_true rfl) (fun xx ee => sm_X6_passes hs u8 h15 xx ee) (fun h20 _ => ?_)
          refine S_goto 78 dX6_playOut_65 (by decide) ?_
          exact Sim.sub [1, 2, 3] rfl (hk17 h20)
set_option maxRecDepth 20000 in
set_option maxHeartbeats 4000000 in
theorem ss_X6_playOut (hs : l.stackTraces = false) (o : Nat) (p1 : Int32) (h : Hp) : Sim l G 128 M_X6_playOut (fun p : Int32 × Hp => ((.inl (some (.int p.1)) : Oc), p.2)) 0 [(0, .ref o), (1, .int p1)] [] h (m_X6_playOut  o p1 h) := by
  rw [m_X6_playOut]
  refine S_aload_n 0 dX6_playOut_0 rfl rfl ?_
  refine S_iload_n 1 dX6_playOut_1 rfl rfl ?_
  refine S_iconst 1 dX6_playOut_2 (by decide) ?_
  refine S_bipush 20 dX6_playOut_3 (by decide) ?_
  refine S_callS_BR (lev' := 0) (My := M_X6_isIn) [.int p1, .int 1, .int 20] [.ref o] K_X6_isIn kw_1127 kw_1128 dX6_playOut_5 (by decide) rfl (Nat.le_of_ble_eq_true rfl) (fun xx ee => sm_X6_isIn hs p1 (1 : Int32) (20 : Int32) _ xx ee) (fun bb1 _ => ?_)
  refine S_jK (fun (k3 : Bool → Option (Int32 × Hp)) => ∀ (v2 : Bool), Sim l G 128 M_X6_playOut (fun p : Int32 × Hp => ((.inl (some (.int p.1)) : Oc), p.2)) 16 [(0, .ref o), (1, .int p1)] [.int (bI v2), .ref o] h (k3 v2)) ?_ (fun k3 hk3 => ?_)
  · intro v2
    refine S_put kc6 (k := 7) (by decide) rfl kw_1047 rfl rfl dX6_playOut_16 (fun h4 _ => ?_)
    refine S_aload_n 0 dX6_playOut_19 rfl rfl ?_
    refine S_getI kc6 (k := 7) (by decide) kw_1047 dX6_playOut_20 (fun x5 _ => ?_)
    refine S_if_le 28 dX6_playOut_23 (by decide) (fun c24 => ?_) (fun c24 => ?_)
    · refine S_aload_n 0 dX6_playOut_28 rfl rfl ?_
      refine S_callV_VW (lev' := 1) (My := M_X6_keeps) [] [] kc6 K_X6_keeps kw_1260 kw_1262 kw_57 dX6_playOut_29 (by decide) rfl (Nat.le_of_ble_eq_true rfl) (fun xx ee => sm_X6_keeps hs o h4 xx ee) (fun h6 _ => ?_)
      refine S_aload_n 0 dX6_playOut_32 rfl rfl ?_
      refine S_callV_VW (lev' := 0) (My := M_X6_forgets) [] [] kc6 K_X6_forgets kw_1324 kw_1326 kw_68 dX6_playOut_33 (by decide) rfl (Nat.le_of_ble_eq_true rfl) (fun xx ee => sm_X6_forgets hs o h6 xx ee) (fun h7 _ => ?_)
      refine S_iconst 0 dX6_playOut_36 (by decide) ?_
      refine S_istore_n [(2, .int 0), (0, .ref o), (1, .int p1)] dX6_playOut_37 rfl (Nat.le_of_ble_eq_true rfl) rfl ?_
      refine Sim.sub [1, 2, 0] rfl (sl_X6_playOut_L38 hs o p1 _ ?_ LF (0 : Int32) h7)
      · intro v11 h12
        refine S_iload_n 0 dX6_playOut_84 rfl rfl ?_
        exact S_ireturn rfl rfl dX6_playOut_85
    · refine S_iconst 0 dX6_playOut_26 (by decide) ?_
      exact S_ireturn rfl rfl dX6_playOut_27
  refine S_if_eqB 15 dX6_playOut_8 (by decide) (fun c25 => ?_) (fun c25 => ?_)
  · refine S_iconst 1 dX6_playOut_15 (by decide) ?_
    exact Sim.sub [0, 1] rfl (hk3 true)
  · refine S_iconst 0 dX6_playOut_11 (by decide) ?_
    refine S_goto 16 dX6_playOut_12 (by decide) ?_
    exact Sim.sub [0, 1] rfl (hk3 false)
theorem sm_X6_playOut (hs : l.stackTraces = false) (o : Nat) (p1 : Int32) (h : Hp) : ∀ x h1, m_X6_playOut  o p1 h = some (x, h1) → SR l G 128 M_X6_playOut [.ref o, .int p1] h (some (.int x)) h1 := fun x h1 e => SR.of K_X6_playOut hs rfl (Nat.le_of_ble_eq_true rfl) (ss_X6_playOut hs o p1 h) e rfl
end
section
variable {l : Launch} {G : Gx}
set_option maxRecDepth 20000 in
set_option maxHeartbeats 4000000 in
theorem sl_X4_ofPartsIn_L7 (hs : l.stackTraces = false) (u1 : Nat) (k7_61 : Int32 → Hp → Option (Int32 × Hp)) (hk7_61 : ∀ (v5 : Int32) (h6 : Hp), Sim l G 183 M_X4_ofPartsIn (fun p : Int32 × Hp => ((.inl (some (.int p.1)) : Oc), p.2)) 61 [(2, .int v5)] [] h6 (k7_61 v5 h6)) : ∀ (f : Nat) (w2 : Int32) (w3 : Int32) (w4 : Int32) (h : Hp), Sim l G 183 M_X4_ofPartsIn (fun p : Int32 × Hp => ((.inl (some (.int p.1)) : Oc), p.2)) 7 [(0, .ref u1), (2, .int w2), (3, .int w3), (4, .int w4)] [] h (m_X4_ofPartsIn_L7 u1 k7_61 f w2 w3 w4 h) := by
  intro f
  induction f with
  | zero => intro w2 w3 w4 h; exact S_none rfl
  | succ f ih =>
    intro w2 w3 w4 h
    rw [m_X4_ofPartsIn_L7]
    refine S_iload 3 dX4_ofPartsIn_7 rfl ?_
    refine S_bipush 9 dX4_ofPartsIn_9 (by decide) ?_
    refine S_icmp_ge 61 dX4_ofPartsIn_11 (by decide) (fun c16 => ?_) (fun c16 => ?_)
    · exact Sim.sub [1] rfl (hk7_61 w2 h)
    · refine S_iload_n 2 dX4_ofPartsIn_14 rfl rfl ?_
      refine S_if_eq 61 dX4_ofPartsIn_15 (by decide) (fun c15 => ?_) (fun c15 => ?_)
      · exact Sim.sub [1] rfl (hk7_61 w2 h)
      · refine S_aload_n 0 dX4_ofPartsIn_18 rfl rfl ?_
        refine S_getR kc4 (k := 0) (by decide) kw_168 dX4_ofPartsIn_19 (fun a7 _ => ?_)
        refine S_iload_n 2 dX4_ofPartsIn_22 rfl rfl ?_
        refine S_iload_n 2 dX4_ofPartsIn_23 rfl rfl ?_
        refine S_ineg dX4_ofPartsIn_24 ?_
        refine S_iand dX4_ofPartsIn_25 ?_
        refine S_iload_n 2 dX4_ofPartsIn_26 rfl rfl ?_
        refine S_callV_IR (lev' := 1) (My := M_X0_reachable) [.int (w3 &&& (-w3)), .int w3] [] kc0 K_X0_reachable kw_280 kw_281 kw_282 dX4_ofPartsIn_27 (by decide) rfl (Nat.le_of_ble_eq_true rfl) (fun xx ee => sm_X0_reachable hs a7 (w3 &&& (-w3)) w3 h xx ee) (fun x8 _ => ?_)
        refine S_istore [(5, .int x8), (0, .ref u1), (2, .int w2), (3, .int w3), (4, .int w4)] dX4_ofPartsIn_30 (Nat.le_of_ble_eq_true rfl) rfl ?_
        refine S_iload_n 2 dX4_ofPartsIn_32 rfl rfl ?_
        refine S_aload_n 1 dX4_ofPartsIn_33 rfl rfl ?_
        refine S_aload_n 1 dX4_ofPartsIn_34 rfl rfl ?_
        refine S_iload 0 dX4_ofPartsIn_35 rfl ?_
        refine S_callV_JR (lev' := 2) (My := M_X4_placeOf) [.int x8] [.ref u1, .int w2] kc4 K_X4_placeOf kw_290 kw_292 kw_0 dX4_ofPartsIn_37 (by decide) rfl (Nat.le_of_ble_eq_true rfl) (fun xx ee => sm_X4_placeOf hs u1 x8 h xx ee) (fun x9 _ => ?_)
        refine S_iconst 0 dX4_ofPartsIn_40 (by decide) ?_
        refine S_callV_IW (lev' := 182) (My := M_X4_ofPlace) [.long x9, .int 0] [.int w2] kc4 K_X4_ofPlace kw_308 kw_310 kw_1 dX4_ofPartsIn_41 (by decide) rfl (Nat.le_of_ble_eq_true rfl) (fun xx yy ee => sm_X4_ofPlace hs RD u1 x9 (0 : Int32) h xx yy ee) (fun x10 h11 _ => ?_)
        refine S_callSN_IR (lev' := 0) (My := M_X5_together) [.int w2, .int x10] [] K_X5_together kn_337 kw_338 dX4_ofPartsIn_44 (by decide) rfl (Nat.le_of_ble_eq_true rfl) (fun xx ee => sm_X5_together hs w2 x10 _ xx ee) (fun x12 _ => ?_)
        refine S_istore_n [(2, .int x12), (5, .int x8), (0, .ref u1), (3, .int w3), (4, .int w4)] dX4_ofPartsIn_47 rfl (Nat.le_of_ble_eq_true rfl) rfl ?_
        refine S_iload_n 3 dX4_ofPartsIn_48 rfl rfl ?_
        refine S_iload 1 dX4_ofPartsIn_49 rfl ?_
        refine S_iconst (-1) dX4_ofPartsIn_51 (by decide) ?_
        refine S_ixor dX4_ofPartsIn_52 ?_
        refine S_iand dX4_ofPartsIn_53 ?_
        refine S_nmI (fun x13 => ?_)
        refine S_istore_n [(3, .int x13), (2, .int x12), (5, .int x8), (0, .ref u1), (4, .int w4)] dX4_ofPartsIn_54 rfl (Nat.le_of_ble_eq_true rfl) rfl ?_
        refine S_iincN (c := 1) 4 (fun x14 => [(4, .int x14), (3, .int x13), (2, .int x12), (5, .int x8), (0, .ref u1)]) dX4_ofPartsIn_55 rfl (by decide) (Nat.le_of_ble_eq_true rfl) (fun _ => rfl) (fun x14 => ?_)
        refine S_goto 7 dX4_ofPartsIn_58 (by decide) ?_
        exact Sim.sub [4, 2, 1, 0] rfl (ih x12 x13 x14 h11)
set_option maxRecDepth 20000 in
set_option maxHeartbeats 4000000 in
theorem ss_X4_ofPartsIn (hs : l.stackTraces = false) (o : Nat) (p1 : Int32) (h : Hp) : Sim l G 183 M_X4_ofPartsIn (fun p : Int32 × Hp => ((.inl (some (.int p.1)) : Oc), p.2)) 0 [(0, .ref o), (1, .int p1)] [] h (m_X4_ofPartsIn  o p1 h) := by
  rw [m_X4_ofPartsIn]
  refine S_iconst 0 dX4_ofPartsIn_0 (by decide) ?_
  refine S_istore_n [(2, .int 0), (0, .ref o), (1, .int p1)] dX4_ofPartsIn_1 rfl (Nat.le_of_ble_eq_true rfl) rfl ?_
  refine S_iload_n 2 dX4_ofPartsIn_2 rfl rfl ?_
  refine S_istore_n [(3, .int p1), (2, .int 0), (0, .ref o), (1, .int p1)] dX4_ofPartsIn_3 rfl (Nat.le_of_ble_eq_true rfl) rfl ?_
  refine S_iconst 0 dX4_ofPartsIn_4 (by decide) ?_
  refine S_istore [(4, .int 0), (3, .int p1), (2, .int 0), (0, .ref o), (1, .int p1)] dX4_ofPartsIn_5 (Nat.le_of_ble_eq_true rfl) rfl ?_
  refine Sim.sub [3, 2, 1, 0] rfl (sl_X4_ofPartsIn_L7 hs o _ ?_ LF (0 : Int32) p1 (0 : Int32) h)
  · intro v5 h6
    refine S_iload_n 0 dX4_ofPartsIn_61 rfl rfl ?_
    exact S_ireturn rfl rfl dX4_ofPartsIn_62
theorem sm_X4_ofPartsIn (hs : l.stackTraces = false) (o : Nat) (p1 : Int32) (h : Hp) : ∀ x h1, m_X4_ofPartsIn  o p1 h = some (x, h1) → SR l G 183 M_X4_ofPartsIn [.ref o, .int p1] h (some (.int x)) h1 := fun x h1 e => SR.of K_X4_ofPartsIn hs rfl (Nat.le_of_ble_eq_true rfl) (ss_X4_ofPartsIn hs o p1 h) e rfl
end
section
variable {l : Launch} {G : Gx}
set_option maxRecDepth 20000 in
set_option maxHeartbeats 4000000 in
theorem ss_X5_part (hs : l.stackTraces = false) (o : Nat) (p1 : Int32) (p2 : Int32) (h : Hp) : Sim l G 184 M_X5_part finX 0 [(0, .ref o), (1, .int p1), (2, .int p2)] [] h (m_X5_part  o p1 p2 h) := by
  rw [m_X5_part]
  refine S_aload_n 0 dX5_part_0 rfl rfl ?_
  refine S_getR kc5 (k := 0) (by decide) kw_243 dX5_part_1 (fun a1 _ => ?_)
  refine S_iload_n 1 dX5_part_4 rfl rfl ?_
  refine S_callV_IR (lev' := 2) (My := M_X0_partAt) [.int p1] [] kc0 K_X0_partAt kw_422 kw_423 kw_424 dX5_part_5 (by decide) rfl (Nat.le_of_ble_eq_true rfl) (fun xx ee => sm_X0_partAt hs a1 p1 h xx ee) (fun x2 _ => ?_)
  refine S_istore_n [(3, .int x2), (0, .ref o), (1, .int p1), (2, .int p2)] dX5_part_8 rfl (Nat.le_of_ble_eq_true rfl) rfl ?_
  refine S_iload_n 0 dX5_part_9 rfl rfl ?_
  refine S_if_ne 23 dX5_part_10 (by decide) (fun c23 => ?_) (fun c23 => ?_)
  · refine S_iload_n 3 dX5_part_23 rfl rfl ?_
    refine S_sw 145 [72, 77, 82, 91, 100, 109, 121, 133] dX5_part_24 (by decide) (by decide) rfl (by decide) ?_ ⟨?_, ?_, ?_, ?_, ?_, ?_, ?_, ?_, trivial⟩
    · exact S_throw1 rfl (by decide +kernel) kw_536 kn_862 kw_546 dX5_part_145 dX5_part_148 dX5_part_149 dX5_part_151 dX5_part_154
    · refine S_iload_n 0 dX5_part_72 rfl rfl ?_
      refine S_callS_IR (lev' := 0) (My := M_J6_bitCount) [.int x2] [] K_J6_bitCount kw_358 kw_285 dX5_part_73 (by decide) rfl (Nat.le_of_ble_eq_true rfl) (fun xx ee => sm_J6_bitCount hs x2 _ xx ee) (fun x3 _ => ?_)
      exact S_ireturn rfl rfl dX5_part_76
    · refine S_iload_n 0 dX5_part_77 rfl rfl ?_
      refine S_callS_IR (lev' := 1) (My := M_X5_least) [.int x2] [] K_X5_least kw_860 kw_356 dX5_part_78 (by decide) rfl (Nat.le_of_ble_eq_true rfl) (fun xx ee => sm_X5_least hs x2 _ xx ee) (fun x4 _ => ?_)
      exact S_ireturn rfl rfl dX5_part_81
    · refine S_aload_n 1 dX5_part_82 rfl rfl ?_
      refine S_getR kc5 (k := 0) (by decide) kw_243 dX5_part_83 (fun a5 _ => ?_)
      refine S_iload_n 0 dX5_part_86 rfl rfl ?_
      refine S_callV_IR (lev' := 0) (My := M_X0_banOf) [.int x2] [] kc0 K_X0_banOf kw_861 kw_295 kw_296 dX5_part_87 (by decide) rfl (Nat.le_of_ble_eq_true rfl) (fun xx ee => sm_X0_banOf hs a5 x2 h xx ee) (fun x6 _ => ?_)
      exact S_ireturn rfl rfl dX5_part_90
    · refine S_aload_n 1 dX5_part_91 rfl rfl ?_
      refine S_getR kc5 (k := 0) (by decide) kw_243 dX5_part_92 (fun a7 _ => ?_)
      refine S_iload_n 0 dX5_part_95 rfl rfl ?_
      refine S_callV_IR (lev' := 1) (My := M_X0_edgesIn) [.int x2] [] kc0 K_X0_edgesIn kw_780 kw_781 kw_782 dX5_part_96 (by decide) rfl (Nat.le_of_ble_eq_true rfl) (fun xx ee => sm_X0_edgesIn hs a7 x2 h xx ee) (fun x8 _ => ?_)
      exact S_ireturn rfl rfl dX5_part_99
    · refine S_aload_n 1 dX5_part_100 rfl rfl ?_
      refine S_getR kc5 (k := 0) (by decide) kw_243 dX5_part_101 (fun a9 _ => ?_)
      refine S_iload_n 0 dX5_part_104 rfl rfl ?_
      refine S_callV_IR (lev' := 4) (My := M_X0_choicesIn) [.int x2] [] kc0 K_X0_choicesIn kw_793 kw_789 kw_790 dX5_part_105 (by decide) rfl (Nat.le_of_ble_eq_true rfl) (fun xx ee => sm_X0_choicesIn hs a9 x2 h xx ee) (fun x10 _ => ?_)
      exact S_ireturn rfl rfl dX5_part_108
    · refine S_aload_n 1 dX5_part_109 rfl rfl ?_
      refine S_getR kc5 (k := 1) (by decide) kw_244 dX5_part_110 (fun a11 _ => ?_)
      refine S_iload_n 0 dX5_part_113 rfl rfl ?_
      refine S_callV_IW (lev' := 183) (My := M_X4_ofPartsIn) [.int x2] [] kc4 K_X4_ofPartsIn kw_276 kw_277 kw_278 dX5_part_114 (by decide) rfl (Nat.le_of_ble_eq_true rfl) (fun xx yy ee => sm_X4_ofPartsIn hs a11 x2 h xx yy ee) (fun x12 h13 _ => ?_)
      refine S_callS_IR (lev' := 0) (My := M_X5_valueIn) [.int x12] [] K_X5_valueIn kw_362 kw_341 dX5_part_117 (by decide) rfl (Nat.le_of_ble_eq_true rfl) (fun xx ee => sm_X5_valueIn hs x12 _ xx ee) (fun x14 _ => ?_)
      exact S_ireturn rfl rfl dX5_part_120
    · refine S_aload_n 1 dX5_part_121 rfl rfl ?_
      refine S_getR kc5 (k := 1) (by decide) kw_244 dX5_part_122 (fun a15 _ => ?_)
      refine S_iload_n 0 dX5_part_125 rfl rfl ?_
      refine S_callV_IW (lev' := 183) (My := M_X4_ofPartsIn) [.int x2] [] kc4 K_X4_ofPartsIn kw_276 kw_277 kw_278 dX5_part_126 (by decide) rfl (Nat.le_of_ble_eq_true rfl) (fun xx yy ee => sm_X4_ofPartsIn hs a15 x2 h xx yy ee) (fun x16 h17 _ => ?_)
      refine S_callS_IR (lev' := 0) (My := M_X5_longestIn) [.int x16] [] K_X5_longestIn kw_408 kw_344 dX5_part_129 (by decide) rfl (Nat.le_of_ble_eq_true rfl) (fun xx ee => sm_X5_longestIn hs x16 _ xx ee) (fun x18 _ => ?_)
      exact S_ireturn rfl rfl dX5_part_132
    · refine S_aload_n 1 dX5_part_133 rfl rfl ?_
      refine S_getR kc5 (k := 1) (by decide) kw_244 dX5_part_134 (fun a19 _ => ?_)
      refine S_iload_n 0 dX5_part_137 rfl rfl ?_
      refine S_callV_IW (lev' := 183) (My := M_X4_ofPartsIn) [.int x2] [] kc4 K_X4_ofPartsIn kw_276 kw_277 kw_278 dX5_part_138 (by decide) rfl (Nat.le_of_ble_eq_true rfl) (fun xx yy ee => sm_X4_ofPartsIn hs a19 x2 h xx yy ee) (fun x20 h21 _ => ?_)
      refine S_callS_IR (lev' := 0) (My := M_X5_shortestIn) [.int x20] [] K_X5_shortestIn kw_413 kw_350 dX5_part_141 (by decide) rfl (Nat.le_of_ble_eq_true rfl) (fun xx ee => sm_X5_shortestIn hs x20 _ xx ee) (fun x22 _ => ?_)
      exact S_ireturn rfl rfl dX5_part_144
  · exact S_throw2 rfl (by decide +kernel) kw_811 kn_859 kw_821 dX5_part_13 dX5_part_16 dX5_part_17 dX5_part_19 dX5_part_22
end
section
variable {l : Launch} {G : Gx}
set_option maxRecDepth 20000 in
set_option maxHeartbeats 4000000 in
theorem ss_X5_value (hs : l.stackTraces = false) (o : Nat) (h : Hp) : Sim l G 184 M_X5_value (fun p : Int32 × Hp => ((.inl (some (.int p.1)) : Oc), p.2)) 0 [(0, .ref o)] [] h (m_X5_value  o h) := by
  rw [m_X5_value]
  refine S_aload_n 0 dX5_value_0 rfl rfl ?_
  refine S_getR kc5 (k := 1) (by decide) kw_244 dX5_value_1 (fun a1 _ => ?_)
  refine S_aload_n 0 dX5_value_4 rfl rfl ?_
  refine S_getR kc5 (k := 0) (by decide) kw_243 dX5_value_5 (fun a2 _ => ?_)
  refine S_getI kc0 (k := 4) (by decide) kw_135 dX5_value_8 (fun x3 _ => ?_)
  refine S_callV_IW (lev' := 183) (My := M_X4_ofPartsIn) [.int x3] [] kc4 K_X4_ofPartsIn kw_276 kw_277 kw_278 dX5_value_11 (by decide) rfl (Nat.le_of_ble_eq_true rfl) (fun xx yy ee => sm_X4_ofPartsIn hs a1 x3 h xx yy ee) (fun x4 h5 _ => ?_)
  refine S_callS_IR (lev' := 0) (My := M_X5_valueIn) [.int x4] [] K_X5_valueIn kw_362 kw_341 dX5_value_14 (by decide) rfl (Nat.le_of_ble_eq_true rfl) (fun xx ee => sm_X5_valueIn hs x4 _ xx ee) (fun x6 _ => ?_)
  refine S_aload_n 0 dX5_value_17 rfl rfl ?_
  refine S_getR kc5 (k := 0) (by decide) kw_243 dX5_value_18 (fun a7 _ => ?_)
  refine S_callV_IR (lev' := 0) (My := M_X0_passValue) [] [.int x6] kc0 K_X0_passValue kw_363 kw_364 kw_365 dX5_value_21 (by decide) rfl (Nat.le_of_ble_eq_true rfl) (fun xx ee => sm_X0_passValue hs a7 h5 xx ee) (fun x8 _ => ?_)
  refine S_ixor dX5_value_24 ?_
  exact S_ireturn rfl rfl dX5_value_25
theorem sm_X5_value (hs : l.stackTraces = false) (o : Nat) (h : Hp) : ∀ x h1, m_X5_value  o h = some (x, h1) → SR l G 184 M_X5_value [.ref o] h (some (.int x)) h1 := fun x h1 e => SR.of K_X5_value hs rfl (Nat.le_of_ble_eq_true rfl) (ss_X5_value hs o h) e rfl
end
section
variable {l : Launch} {G : Gx}
set_option maxRecDepth 20000 in
set_option maxHeartbeats 4000000 in
theorem ss_X5_longest (hs : l.stackTraces = false) (o : Nat) (h : Hp) : Sim l G 184 M_X5_longest (fun p : Int32 × Hp => ((.inl (some (.int p.1)) : Oc), p.2)) 0 [(0, .ref o)] [] h (m_X5_longest  o h) := by
  rw [m_X5_longest]
  refine S_aload_n 0 dX5_longest_0 rfl rfl ?_
  refine S_getR kc5 (k := 1) (by decide) kw_244 dX5_longest_1 (fun a1 _ => ?_)
  refine S_aload_n 0 dX5_longest_4 rfl rfl ?_
  refine S_getR kc5 (k := 0) (by decide) kw_243 dX5_longest_5 (fun a2 _ => ?_)
  refine S_getI kc0 (k := 4) (by decide) kw_135 dX5_longest_8 (fun x3 _ => ?_)
  refine S_callV_IW (lev' := 183) (My := M_X4_ofPartsIn) [.int x3] [] kc4 K_X4_ofPartsIn kw_276 kw_277 kw_278 dX5_longest_11 (by decide) rfl (Nat.le_of_ble_eq_true rfl) (fun xx yy ee => sm_X4_ofPartsIn hs a1 x3 h xx yy ee) (fun x4 h5 _ => ?_)
  refine S_callS_IR (lev' := 0) (My := M_X5_longestIn) [.int x4] [] K_X5_longestIn kw_408 kw_344 dX5_longest_14 (by decide) rfl (Nat.le_of_ble_eq_true rfl) (fun xx ee => sm_X5_longestIn hs x4 _ xx ee) (fun x6 _ => ?_)
  refine S_aload_n 0 dX5_longest_17 rfl rfl ?_
  refine S_getR kc5 (k := 0) (by decide) kw_243 dX5_longest_18 (fun a7 _ => ?_)
  refine S_getI kc0 (k := 3) (by decide) kw_132 dX5_longest_21 (fun x8 _ => ?_)
  refine S_iadd dX5_longest_24 ?_
  exact S_ireturn rfl rfl dX5_longest_25
theorem sm_X5_longest (hs : l.stackTraces = false) (o : Nat) (h : Hp) : ∀ x h1, m_X5_longest  o h = some (x, h1) → SR l G 184 M_X5_longest [.ref o] h (some (.int x)) h1 := fun x h1 e => SR.of K_X5_longest hs rfl (Nat.le_of_ble_eq_true rfl) (ss_X5_longest hs o h) e rfl
end
section
variable {l : Launch} {G : Gx}
set_option maxRecDepth 20000 in
set_option maxHeartbeats 4000000 in
theorem ss_X5_shortest (hs : l.stackTraces = false) (o : Nat) (h : Hp) : Sim l G 184 M_X5_shortest (fun p : Int32 × Hp => ((.inl (some (.int p.1)) : Oc), p.2)) 0 [(0, .ref o)] [] h (m_X5_shortest  o h) := by
  rw [m_X5_shortest]
  refine S_aload_n 0 dX5_shortest_0 rfl rfl ?_
  refine S_getR kc5 (k := 1) (by decide) kw_244 dX5_shortest_1 (fun a1 _ => ?_)
  refine S_aload_n 0 dX5_shortest_4 rfl rfl ?_
  refine S_getR kc5 (k := 0) (by decide) kw_243 dX5_shortest_5 (fun a2 _ => ?_)
  refine S_getI kc0 (k := 4) (by decide) kw_135 dX5_shortest_8 (fun x3 _ => ?_)
  refine S_callV_IW (lev' := 183) (My := M_X4_ofPartsIn) [.int x3] [] kc4 K_X4_ofPartsIn kw_276 kw_277 kw_278 dX5_shortest_11 (by decide) rfl (Nat.le_of_ble_eq_true rfl) (fun xx yy ee => sm_X4_ofPartsIn hs a1 x3 h xx yy ee) (fun x4 h5 _ => ?_)
  refine S_callS_IR (lev' := 0) (My := M_X5_shortestIn) [.int x4] [] K_X5_shortestIn kw_413 kw_350 dX5_shortest_14 (by decide) rfl (Nat.le_of_ble_eq_true rfl) (fun xx ee => sm_X5_shortestIn hs x4 _ xx ee) (fun x6 _ => ?_)
  refine S_aload_n 0 dX5_shortest_17 rfl rfl ?_
  refine S_getR kc5 (k := 0) (by decide) kw_243 dX5_shortest_18 (fun a7 _ => ?_)
  refine S_getI kc0 (k := 3) (by decide) kw_132 dX5_shortest_21 (fun x8 _ => ?_)
  refine S_iadd dX5_shortest_24 ?_
  exact S_ireturn rfl rfl dX5_shortest_25
theorem sm_X5_shortest (hs : l.stackTraces = false) (o : Nat) (h : Hp) : ∀ x h1, m_X5_shortest  o h = some (x, h1) → SR l G 184 M_X5_shortest [.ref o] h (some (.int x)) h1 := fun x h1 e => SR.of K_X5_shortest hs rfl (Nat.le_of_ble_eq_true rfl) (ss_X5_shortest hs o h) e rfl
end
section
variable {l : Launch} {G : Gx}
set_option maxRecDepth 20000 in
set_option maxHeartbeats 4000000 in
theorem sl_X5_meanValue_L25 (hs : l.stackTraces = false) (u5 : Nat) (u6 : Int32) (k25_57 : Int32 → Hp → Option (UInt32 × Hp)) (hk25_57 : ∀ (v9 : Int32) (h10 : Hp), Sim l G 184 M_X5_meanValue (fun p : UInt32 × Hp => ((.inl (some (.float p.1)) : Oc), p.2)) 57 [(1, .int u6), (2, .int v9)] [] h10 (k25_57 v9 h10)) : ∀ (f : Nat) (w7 : Int32) (w8 : Int32) (h : Hp), Sim l G 184 M_X5_meanValue (fun p : UInt32 × Hp => ((.inl (some (.float p.1)) : Oc), p.2)) 25 [(0, .ref u5), (1, .int u6), (2, .int w7), (3, .int w8)] [] h (m_X5_meanValue_L25 u5 u6 k25_57 f w7 w8 h) := by
  intro f
  induction f with
  | zero => intro w7 w8 h; exact S_none rfl
  | succ f ih =>
    intro w7 w8 h
    rw [m_X5_meanValue_L25]
    refine S_iload_n 3 dX5_meanValue_25 rfl rfl ?_
    refine S_iload_n 1 dX5_meanValue_26 rfl rfl ?_
    refine S_icmp_ge 57 dX5_meanValue_27 (by decide) (fun c19 => ?_) (fun c19 => ?_)
    · exact Sim.sub [1, 2] rfl (hk25_57 w7 h)
    · refine S_iload_n 2 dX5_meanValue_30 rfl rfl ?_
      refine S_aload_n 0 dX5_meanValue_31 rfl rfl ?_
      refine S_getR kc5 (k := 1) (by decide) kw_244 dX5_meanValue_32 (fun a11 _ => ?_)
      refine S_aload_n 0 dX5_meanValue_35 rfl rfl ?_
      refine S_getR kc5 (k := 0) (by decide) kw_243 dX5_meanValue_36 (fun a12 _ => ?_)
      refine S_iload_n 3 dX5_meanValue_39 rfl rfl ?_
      refine S_callV_IR (lev' := 2) (My := M_X0_partAt) [.int w8] [.ref a11, .int w7] kc0 K_X0_partAt kw_422 kw_423 kw_424 dX5_meanValue_40 (by decide) rfl (Nat.le_of_ble_eq_true rfl) (fun xx ee => sm_X0_partAt hs a12 w8 h xx ee) (fun x13 _ => ?_)
      refine S_callV_IW (lev' := 183) (My := M_X4_ofPartsIn) [.int x13] [.int w7] kc4 K_X4_ofPartsIn kw_276 kw_277 kw_278 dX5_meanValue_43 (by decide) rfl (Nat.le_of_ble_eq_true rfl) (fun xx yy ee => sm_X4_ofPartsIn hs a11 x13 h xx yy ee) (fun x14 h15 _ => ?_)
      refine S_callS_IR (lev' := 0) (My := M_X5_valueIn) [.int x14] [.int w7] K_X5_valueIn kw_362 kw_341 dX5_meanValue_46 (by decide) rfl (Nat.le_of_ble_eq_true rfl) (fun xx ee => sm_X5_valueIn hs x14 _ xx ee) (fun x16 _ => ?_)
      refine S_iadd dX5_meanValue_49 ?_
      refine S_nmI (fun x17 => ?_)
      refine S_istore_n [(2, .int x17), (0, .ref u5), (1, .int u6), (3, .int w8)] dX5_meanValue_50 rfl (Nat.le_of_ble_eq_true rfl) rfl ?_
      refine S_iincN (c := 1) 3 (fun x18 => [(3, .int x18), (2, .int x17), (0, .ref u5), (1, .int u6)]) dX5_meanValue_51 rfl (by decide) (Nat.le_of_ble_eq_true rfl) (fun _ => rfl) (fun x18 => ?_)
      refine S_goto 25 dX5_meanValue_54 (by decide) ?_
      exact Sim.sub [2, 3, 1, 0] rfl (ih x17 x18 h15)
set_option maxRecDepth 20000 in
set_option maxHeartbeats 4000000 in
theorem ss_X5_meanValue (hs : l.stackTraces = false) (o : Nat) (h : Hp) : Sim l G 184 M_X5_meanValue (fun p : UInt32 × Hp => ((.inl (some (.float p.1)) : Oc), p.2)) 0 [(0, .ref o)] [] h (m_X5_meanValue  o h) := by
  rw [m_X5_meanValue]
  refine S_aload_n 0 dX5_meanValue_0 rfl rfl ?_
  refine S_getR kc5 (k := 0) (by decide) kw_243 dX5_meanValue_1 (fun a1 _ => ?_)
  refine S_aload_n 0 dX5_meanValue_4 rfl rfl ?_
  refine S_getR kc5 (k := 0) (by decide) kw_243 dX5_meanValue_5 (fun a2 _ => ?_)
  refine S_getI kc0 (k := 4) (by decide) kw_135 dX5_meanValue_8 (fun x3 _ => ?_)
  refine S_callV_IR (lev' := 2) (My := M_X0_partsIn) [.int x3] [] kc0 K_X0_partsIn kw_418 kw_419 kw_420 dX5_meanValue_11 (by decide) rfl (Nat.le_of_ble_eq_true rfl) (fun xx ee => sm_X0_partsIn hs a1 x3 h xx ee) (fun x4 _ => ?_)
  refine S_istore_n [(1, .int x4), (0, .ref o)] dX5_meanValue_14 rfl (Nat.le_of_ble_eq_true rfl) rfl ?_
  refine S_iload_n 0 dX5_meanValue_15 rfl rfl ?_
  refine S_if_ne 21 dX5_meanValue_16 (by decide) (fun c21 => ?_) (fun c21 => ?_)
  · refine S_iconst 0 dX5_meanValue_21 (by decide) ?_
    refine S_istore_n [(2, .int 0), (1, .int x4), (0, .ref o)] dX5_meanValue_22 rfl (Nat.le_of_ble_eq_true rfl) rfl ?_
    refine S_iconst 0 dX5_meanValue_23 (by decide) ?_
    refine S_istore_n [(3, .int 0), (2, .int 0), (1, .int x4), (0, .ref o)] dX5_meanValue_24 rfl (Nat.le_of_ble_eq_true rfl) rfl ?_
    refine Sim.sub [3, 2, 1, 0] rfl (sl_X5_meanValue_L25 hs o x4 _ ?_ LF (0 : Int32) (0 : Int32) h)
    · intro v9 h10
      refine S_iload_n 1 dX5_meanValue_57 rfl rfl ?_
      refine S_i2f dX5_meanValue_58 ?_
      refine S_iload_n 0 dX5_meanValue_59 rfl rfl ?_
      refine S_i2f dX5_meanValue_60 ?_
      refine S_fdiv dX5_meanValue_61 (fun x20 _ => ?_)
      exact S_freturn rfl rfl dX5_meanValue_62
  · refine S_fconst0 dX5_meanValue_19 ?_
    exact S_freturn rfl rfl dX5_meanValue_20
theorem sm_X5_meanValue (hs : l.stackTraces = false) (o : Nat) (h : Hp) : ∀ x h1, m_X5_meanValue  o h = some (x, h1) → SR l G 184 M_X5_meanValue [.ref o] h (some (.float x)) h1 := fun x h1 e => SR.of K_X5_meanValue hs rfl (Nat.le_of_ble_eq_true rfl) (ss_X5_meanValue hs o h) e rfl
end
section
variable {l : Launch} {G : Gx}
set_option maxRecDepth 20000 in
set_option maxHeartbeats 4000000 in
theorem ss_X5_passWins (hs : l.stackTraces = false) (o : Nat) (h : Hp) : Sim l G 184 M_X5_passWins (fun p : Bool × Hp => ((.inl (some (.int (bI p.1))) : Oc), p.2)) 0 [(0, .ref o)] [] h (m_X5_passWins  o h) := by
  rw [m_X5_passWins]
  refine S_aload_n 0 dX5_passWins_0 rfl rfl ?_
  refine S_getR kc5 (k := 1) (by decide) kw_244 dX5_passWins_1 (fun a1 _ => ?_)
  refine S_aload_n 0 dX5_passWins_4 rfl rfl ?_
  refine S_getR kc5 (k := 0) (by decide) kw_243 dX5_passWins_5 (fun a2 _ => ?_)
  refine S_getI kc0 (k := 4) (by decide) kw_135 dX5_passWins_8 (fun x3 _ => ?_)
  refine S_callV_IW (lev' := 183) (My := M_X4_ofPartsIn) [.int x3] [] kc4 K_X4_ofPartsIn kw_276 kw_277 kw_278 dX5_passWins_11 (by decide) rfl (Nat.le_of_ble_eq_true rfl) (fun xx yy ee => sm_X4_ofPartsIn hs a1 x3 h xx yy ee) (fun x4 h5 _ => ?_)
  refine S_callS_IR (lev' := 0) (My := M_X5_valueIn) [.int x4] [] K_X5_valueIn kw_362 kw_341 dX5_passWins_14 (by decide) rfl (Nat.le_of_ble_eq_true rfl) (fun xx ee => sm_X5_valueIn hs x4 _ xx ee) (fun x6 _ => ?_)
  refine S_aload_n 0 dX5_passWins_17 rfl rfl ?_
  refine S_getR kc5 (k := 0) (by decide) kw_243 dX5_passWins_18 (fun a7 _ => ?_)
  refine S_callV_IR (lev' := 0) (My := M_X0_passValue) [] [.int x6] kc0 K_X0_passValue kw_363 kw_364 kw_365 dX5_passWins_21 (by decide) rfl (Nat.le_of_ble_eq_true rfl) (fun xx ee => sm_X0_passValue hs a7 h5 xx ee) (fun x8 _ => ?_)
  refine S_ixor dX5_passWins_24 ?_
  refine S_iconst 1 dX5_passWins_25 (by decide) ?_
  refine S_ixor dX5_passWins_26 ?_
  refine S_nmI (fun x9 => ?_)
  refine S_istore_n [(1, .int x9), (0, .ref o)] dX5_passWins_27 rfl (Nat.le_of_ble_eq_true rfl) rfl ?_
  refine S_aload_n 1 dX5_passWins_28 rfl rfl ?_
  refine S_getR kc5 (k := 0) (by decide) kw_243 dX5_passWins_29 (fun a10 _ => ?_)
  refine S_getI kc0 (k := 3) (by decide) kw_132 dX5_passWins_32 (fun x11 _ => ?_)
  refine S_if_le 46 dX5_passWins_35 (by decide) (fun c13 => ?_) (fun c13 => ?_)
  · refine S_iconst 0 dX5_passWins_46 (by decide) ?_
    exact S_zreturn (b := false) rfl rfl dX5_passWins_47
  · refine S_iload_n 0 dX5_passWins_38 rfl rfl ?_
    refine S_if_ne 46 dX5_passWins_39 (by decide) (fun c12 => ?_) (fun c12 => ?_)
    · refine S_iconst 0 dX5_passWins_46 (by decide) ?_
      exact S_zreturn (b := false) rfl rfl dX5_passWins_47
    · refine S_iconst 1 dX5_passWins_42 (by decide) ?_
      refine S_goto 47 dX5_passWins_43 (by decide) ?_
      exact S_zreturn (b := true) rfl rfl dX5_passWins_47
theorem sm_X5_passWins (hs : l.stackTraces = false) (o : Nat) (h : Hp) : ∀ x h1, m_X5_passWins  o h = some (x, h1) → SR l G 184 M_X5_passWins [.ref o] h (some (.int (bI x))) h1 := fun x h1 e => SR.of K_X5_passWins hs rfl (Nat.le_of_ble_eq_true rfl) (ss_X5_passWins hs o h) e rfl
end
section
variable {l : Launch} {G : Gx}
set_option maxRecDepth 20000 in
set_option maxHeartbeats 4000000 in
theorem ss_X4_behindLay (hs : l.stackTraces = false) (o : Nat) (p1 : Int32) (p2 : Int32) (h : Hp) : Sim l G 184 M_X4_behindLay (fun p : Int32 × Hp => ((.inl (some (.int p.1)) : Oc), p.2)) 0 [(0, .ref o), (1, .int p1), (2, .int p2)] [] h (m_X4_behindLay  o p1 p2 h) := by
  rw [m_X4_behindLay]
  refine S_aload_n 0 dX4_behindLay_0 rfl rfl ?_
  refine S_getR kc4 (k := 0) (by decide) kw_168 dX4_behindLay_1 (fun a1 _ => ?_)
  refine S_iload_n 1 dX4_behindLay_4 rfl rfl ?_
  refine S_callV_IR (lev' := 2) (My := M_X0_partWith) [.int p1] [] kc0 K_X0_partWith kw_398 kw_399 kw_400 dX4_behindLay_5 (by decide) rfl (Nat.le_of_ble_eq_true rfl) (fun xx ee => sm_X0_partWith hs a1 p1 h xx ee) (fun x2 _ => ?_)
  refine S_istore_n [(3, .int x2), (0, .ref o), (1, .int p1), (2, .int p2)] dX4_behindLay_8 rfl (Nat.le_of_ble_eq_true rfl) rfl ?_
  refine S_aload_n 1 dX4_behindLay_9 rfl rfl ?_
  refine S_aload_n 1 dX4_behindLay_10 rfl rfl ?_
  refine S_iload_n 0 dX4_behindLay_11 rfl rfl ?_
  refine S_callV_JR (lev' := 2) (My := M_X4_placeOf) [.int x2] [.ref o] kc4 K_X4_placeOf kw_290 kw_292 kw_0 dX4_behindLay_12 (by decide) rfl (Nat.le_of_ble_eq_true rfl) (fun xx ee => sm_X4_placeOf hs o x2 h xx ee) (fun x3 _ => ?_)
  refine S_iload_n 2 dX4_behindLay_15 rfl rfl ?_
  refine S_iload_n 3 dX4_behindLay_16 rfl rfl ?_
  refine S_callV_JR (lev' := 1) (My := M_X4_behind) [.long x3, .int p1, .int p2] [] kc4 K_X4_behind kw_321 kw_323 kw_3 dX4_behindLay_17 (by decide) rfl (Nat.le_of_ble_eq_true rfl) (fun xx ee => sm_X4_behind hs o x3 p1 p2 h xx ee) (fun x4 _ => ?_)
  refine S_lstore [(4, .long x4), (3, .int x2), (0, .ref o), (1, .int p1), (2, .int p2)] dX4_behindLay_20 (Nat.le_of_ble_eq_true rfl) rfl ?_
  refine S_aload_n 2 dX4_behindLay_22 rfl rfl ?_
  refine S_aload_n 2 dX4_behindLay_23 rfl rfl ?_
  refine S_getR kc4 (k := 0) (by decide) kw_168 dX4_behindLay_24 (fun a5 _ => ?_)
  refine S_getI kc0 (k := 4) (by decide) kw_134 dX4_behindLay_27 (fun x6 _ => ?_)
  refine S_iload_n 1 dX4_behindLay_30 rfl rfl ?_
  refine S_iconst (-1) dX4_behindLay_31 (by decide) ?_
  refine S_ixor dX4_behindLay_32 ?_
  refine S_iand dX4_behindLay_33 ?_
  refine S_callV_IW (lev' := 183) (My := M_X4_ofPartsIn) [.int (x6 &&& (x2 ^^^ (-1 : Int32)))] [] kc4 K_X4_ofPartsIn kw_403 kw_277 kw_278 dX4_behindLay_34 (by decide) rfl (Nat.le_of_ble_eq_true rfl) (fun xx yy ee => sm_X4_ofPartsIn hs o (x6 &&& (x2 ^^^ (-1 : Int32))) h xx yy ee) (fun x7 h8 _ => ?_)
  refine S_aload_n 2 dX4_behindLay_37 rfl rfl ?_
  refine S_lload 0 dX4_behindLay_38 rfl ?_
  refine S_iconst 0 dX4_behindLay_40 (by decide) ?_
  refine S_callV_IW (lev' := 183) (My := M_X4_ofPieces) [.long x4, .int 0] [.int x7] kc4 K_X4_ofPieces kw_332 kw_334 kw_4 dX4_behindLay_41 (by decide) rfl (Nat.le_of_ble_eq_true rfl) (fun xx yy ee => sm_X4_ofPieces hs (by decide) (m_X4_ofPlace RD) (fun z0 z1 z2 z3 => sm_X4_ofPlace hs RD z0 z1 z2 z3) o x4 (0 : Int32) h8 xx yy ee) (fun x9 h10 _ => ?_)
  refine S_callSN_IR (lev' := 0) (My := M_X5_together) [.int x7, .int x9] [] K_X5_together kn_337 kw_338 dX4_behindLay_44 (by decide) rfl (Nat.le_of_ble_eq_true rfl) (fun xx ee => sm_X5_together hs x7 x9 _ xx ee) (fun x11 _ => ?_)
  exact S_ireturn rfl rfl dX4_behindLay_47
theorem sm_X4_behindLay (hs : l.stackTraces = false) (o : Nat) (p1 : Int32) (p2 : Int32) (h : Hp) : ∀ x h1, m_X4_behindLay  o p1 p2 h = some (x, h1) → SR l G 184 M_X4_behindLay [.ref o, .int p1, .int p2] h (some (.int x)) h1 := fun x h1 e => SR.of K_X4_behindLay hs rfl (Nat.le_of_ble_eq_true rfl) (ss_X4_behindLay hs o p1 p2 h) e rfl
end
section
variable {l : Launch} {G : Gx}
set_option maxRecDepth 20000 in
set_option maxHeartbeats 4000000 in
theorem ss_X4_without (hs : l.stackTraces = false) (o : Nat) (p1 : Int32) (h : Hp) : Sim l G 184 M_X4_without (fun p : Int32 × Hp => ((.inl (some (.int p.1)) : Oc), p.2)) 0 [(0, .ref o), (1, .int p1)] [] h (m_X4_without  o p1 h) := by
  rw [m_X4_without]
  refine S_aload_n 0 dX4_without_0 rfl rfl ?_
  refine S_getR kc4 (k := 0) (by decide) kw_168 dX4_without_1 (fun a1 _ => ?_)
  refine S_iload_n 1 dX4_without_4 rfl rfl ?_
  refine S_callV_IR (lev' := 2) (My := M_X0_partWith) [.int p1] [] kc0 K_X0_partWith kw_398 kw_399 kw_400 dX4_without_5 (by decide) rfl (Nat.le_of_ble_eq_true rfl) (fun xx ee => sm_X0_partWith hs a1 p1 h xx ee) (fun x2 _ => ?_)
  refine S_istore_n [(2, .int x2), (0, .ref o), (1, .int p1)] dX4_without_8 rfl (Nat.le_of_ble_eq_true rfl) rfl ?_
  refine S_aload_n 1 dX4_without_9 rfl rfl ?_
  refine S_iload_n 0 dX4_without_10 rfl rfl ?_
  refine S_callV_JR (lev' := 2) (My := M_X4_placeOf) [.int x2] [] kc4 K_X4_placeOf kw_290 kw_292 kw_0 dX4_without_11 (by decide) rfl (Nat.le_of_ble_eq_true rfl) (fun xx ee => sm_X4_placeOf hs o x2 h xx ee) (fun x3 _ => ?_)
  refine S_ldc2 134480385 kw_329 dX4_without_14 ?_
  refine S_iload_n 2 dX4_without_17 rfl rfl ?_
  refine S_lshl dX4_without_18 ?_
  refine S_ldc2 (-1) kw_331 dX4_without_19 ?_
  refine S_lxor dX4_without_22 ?_
  refine S_land dX4_without_23 ?_
  refine S_nmJ (fun x4 => ?_)
  refine S_lstore_n [(3, .long x4), (2, .int x2), (0, .ref o), (1, .int p1)] dX4_without_24 rfl (Nat.le_of_ble_eq_true rfl) rfl ?_
  refine S_aload_n 2 dX4_without_25 rfl rfl ?_
  refine S_aload_n 2 dX4_without_26 rfl rfl ?_
  refine S_getR kc4 (k := 0) (by decide) kw_168 dX4_without_27 (fun a5 _ => ?_)
  refine S_getI kc0 (k := 4) (by decide) kw_134 dX4_without_30 (fun x6 _ => ?_)
  refine S_iload_n 1 dX4_without_33 rfl rfl ?_
  refine S_iconst (-1) dX4_without_34 (by decide) ?_
  refine S_ixor dX4_without_35 ?_
  refine S_iand dX4_without_36 ?_
  refine S_callV_IW (lev' := 183) (My := M_X4_ofPartsIn) [.int (x6 &&& (x2 ^^^ (-1 : Int32)))] [] kc4 K_X4_ofPartsIn kw_403 kw_277 kw_278 dX4_without_37 (by decide) rfl (Nat.le_of_ble_eq_true rfl) (fun xx yy ee => sm_X4_ofPartsIn hs o (x6 &&& (x2 ^^^ (-1 : Int32))) h xx yy ee) (fun x7 h8 _ => ?_)
  refine S_aload_n 2 dX4_without_40 rfl rfl ?_
  refine S_lload_n 0 dX4_without_41 rfl rfl ?_
  refine S_iconst 0 dX4_without_42 (by decide) ?_
  refine S_callV_IW (lev' := 183) (My := M_X4_ofPieces) [.long x4, .int 0] [.int x7] kc4 K_X4_ofPieces kw_332 kw_334 kw_4 dX4_without_43 (by decide) rfl (Nat.le_of_ble_eq_true rfl) (fun xx yy ee => sm_X4_ofPieces hs (by decide) (m_X4_ofPlace RD) (fun z0 z1 z2 z3 => sm_X4_ofPlace hs RD z0 z1 z2 z3) o x4 (0 : Int32) h8 xx yy ee) (fun x9 h10 _ => ?_)
  refine S_callSN_IR (lev' := 0) (My := M_X5_together) [.int x7, .int x9] [] K_X5_together kn_337 kw_338 dX4_without_46 (by decide) rfl (Nat.le_of_ble_eq_true rfl) (fun xx ee => sm_X5_together hs x7 x9 _ xx ee) (fun x11 _ => ?_)
  exact S_ireturn rfl rfl dX4_without_49
theorem sm_X4_without (hs : l.stackTraces = false) (o : Nat) (p1 : Int32) (h : Hp) : ∀ x h1, m_X4_without  o p1 h = some (x, h1) → SR l G 184 M_X4_without [.ref o, .int p1] h (some (.int x)) h1 := fun x h1 e => SR.of K_X4_without hs rfl (Nat.le_of_ble_eq_true rfl) (ss_X4_without hs o p1 h) e rfl
end
