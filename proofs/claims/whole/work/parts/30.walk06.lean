/-! printed by wip/whole/emit.py: walks -/
section
variable {l : Launch} {G : Gx}
set_option maxRecDepth 20000 in
set_option maxHeartbeats 4000000 in
theorem ss_X0_colourOf (hs : l.stackTraces = false) (o : Nat) (p1 : Int32) (h : Hp) : Sim l G 2 M_X0_colourOf (fun v : Int32 => ((.inl (some (.int v)) : Oc), h)) 0 [(0, .ref o), (1, .int p1)] [] h (m_X0_colourOf  o p1 h) := by
  rw [m_X0_colourOf]
  refine S_aload_n 0 dX0_colourOf_0 rfl rfl ?_
  refine S_aload_n 0 dX0_colourOf_1 rfl rfl ?_
  refine S_getR kc0 (k := 9) (by decide) kw_141 dX0_colourOf_2 (fun a1 _ => ?_)
  refine S_iload_n 1 dX0_colourOf_5 rfl rfl ?_
  refine S_callV_IR (lev' := 1) (My := M_X0_coloursAt) [.ref a1, .int p1] [] kc0 K_X0_coloursAt kw_435 kw_437 kw_7 dX0_colourOf_6 (by decide) rfl (Nat.le_of_ble_eq_true rfl) (fun xx ee => sm_X0_coloursAt hs o a1 p1 h xx ee) (fun x2 _ => ?_)
  refine S_istore_n [(2, .int x2), (0, .ref o), (1, .int p1)] dX0_colourOf_9 rfl (Nat.le_of_ble_eq_true rfl) rfl ?_
  refine S_iload_n 0 dX0_colourOf_10 rfl rfl ?_
  refine S_if_ne 18 dX0_colourOf_11 (by decide) (fun c4 => ?_) (fun c4 => ?_)
  · refine S_iload_n 0 dX0_colourOf_18 rfl rfl ?_
    refine S_callSN_IR (lev' := 1) (My := M_X5_least) [.int x2] [] K_X5_least kn_439 kw_356 dX0_colourOf_19 (by decide) rfl (Nat.le_of_ble_eq_true rfl) (fun xx ee => sm_X5_least hs x2 _ xx ee) (fun x3 _ => ?_)
    exact S_ireturn rfl rfl dX0_colourOf_22
  · refine S_iconst (-1) dX0_colourOf_14 (by decide) ?_
    refine S_goto 22 dX0_colourOf_15 (by decide) ?_
    exact S_ireturn rfl rfl dX0_colourOf_22
theorem sm_X0_colourOf (hs : l.stackTraces = false) (o : Nat) (p1 : Int32) (h : Hp) : ∀ x, m_X0_colourOf  o p1 h = some x → SR l G 2 M_X0_colourOf [.ref o, .int p1] h (some (.int x)) h := fun x e => SR.of K_X0_colourOf hs rfl (Nat.le_of_ble_eq_true rfl) (ss_X0_colourOf hs o p1 h) e rfl
end
section
variable {l : Launch} {G : Gx}
set_option maxRecDepth 20000 in
set_option maxHeartbeats 4000000 in
theorem ss_X0_whyNot (hs : l.stackTraces = false) (o : Nat) (p1 : Int32) (p2 : Int32) (h : Hp) : Sim l G 2 M_X0_whyNot (fun v : Int32 => ((.inl (some (.int v)) : Oc), h)) 0 [(0, .ref o), (1, .int p1), (2, .int p2)] [] h (m_X0_whyNot  o p1 p2 h) := by
  rw [m_X0_whyNot]
  refine S_aload_n 0 dX0_whyNot_0 rfl rfl ?_
  refine S_iload_n 1 dX0_whyNot_1 rfl rfl ?_
  refine S_callV_BR (lev' := 1) (My := M_X0_isFree) [.int p1] [] kc0 K_X0_isFree kw_387 kw_388 kw_389 dX0_whyNot_2 (by decide) rfl (Nat.le_of_ble_eq_true rfl) (fun xx ee => sm_X0_isFree hs o p1 h xx ee) (fun bb1 _ => ?_)
  refine S_if_neB 10 dX0_whyNot_5 (by decide) (fun c20 => ?_) (fun c20 => ?_)
  · refine S_aload_n 0 dX0_whyNot_10 rfl rfl ?_
    refine S_getR kc0 (k := 8) (by decide) kw_140 dX0_whyNot_11 (fun a2 _ => ?_)
    refine S_iload_n 2 dX0_whyNot_14 rfl rfl ?_
    refine S_callSN_IR (lev' := 0) (My := M_X5_at) [.ref a2, .int p2] [] K_X5_at kn_302 kw_303 dX0_whyNot_15 (by decide) rfl (Nat.le_of_ble_eq_true rfl) (fun xx ee => sm_X5_at hs a2 p2 h xx ee) (fun x3 _ => ?_)
    refine S_iload_n 1 dX0_whyNot_18 rfl rfl ?_
    refine S_callSN_BR (lev' := 0) (My := M_X5_has) [.int x3, .int p1] [] K_X5_has kn_391 kw_319 dX0_whyNot_19 (by decide) rfl (Nat.le_of_ble_eq_true rfl) (fun xx ee => sm_X5_has hs x3 p1 _ xx ee) (fun bb4 _ => ?_)
    refine S_if_neB 27 dX0_whyNot_22 (by decide) (fun c19 => ?_) (fun c19 => ?_)
    · refine S_aload_n 0 dX0_whyNot_27 rfl rfl ?_
      refine S_iload_n 1 dX0_whyNot_28 rfl rfl ?_
      refine S_callV_IR (lev' := 0) (My := M_X0_neighbours) [.int p1] [] kc0 K_X0_neighbours kw_392 kw_326 kw_327 dX0_whyNot_29 (by decide) rfl (Nat.le_of_ble_eq_true rfl) (fun xx ee => sm_X0_neighbours hs o p1 h xx ee) (fun x5 _ => ?_)
      refine S_aload_n 0 dX0_whyNot_32 rfl rfl ?_
      refine S_getR kc0 (k := 9) (by decide) kw_141 dX0_whyNot_33 (fun a6 _ => ?_)
      refine S_iload_n 2 dX0_whyNot_36 rfl rfl ?_
      refine S_callSN_IR (lev' := 0) (My := M_X5_at) [.ref a6, .int p2] [.int x5] K_X5_at kn_302 kw_303 dX0_whyNot_37 (by decide) rfl (Nat.le_of_ble_eq_true rfl) (fun xx ee => sm_X5_at hs a6 p2 h xx ee) (fun x7 _ => ?_)
      refine S_iand dX0_whyNot_40 ?_
      refine S_if_eq 46 dX0_whyNot_41 (by decide) (fun c18 => ?_) (fun c18 => ?_)
      · refine S_aload_n 0 dX0_whyNot_46 rfl rfl ?_
        refine S_iload_n 1 dX0_whyNot_47 rfl rfl ?_
        refine S_callV_IR (lev' := 0) (My := M_X0_neighbours) [.int p1] [] kc0 K_X0_neighbours kw_392 kw_326 kw_327 dX0_whyNot_48 (by decide) rfl (Nat.le_of_ble_eq_true rfl) (fun xx ee => sm_X0_neighbours hs o p1 h xx ee) (fun x8 _ => ?_)
        refine S_aload_n 0 dX0_whyNot_51 rfl rfl ?_
        refine S_getI kc0 (k := 4) (by decide) kw_133 dX0_whyNot_52 (fun x9 _ => ?_)
        refine S_iand dX0_whyNot_55 ?_
        refine S_jK (fun (k11 : Bool → Option Int32) => ∀ (v10 : Bool), Sim l G 2 M_X0_whyNot (fun v : Int32 => ((.inl (some (.int v)) : Oc), h)) 64 [(0, .ref o), (1, .int p1), (2, .int p2)] [.int (bI v10)] h (k11 v10)) ?_ (fun k11 hk11 => ?_)
        · intro v10
          refine S_istore_n [(3, .int (bI v10)), (0, .ref o), (1, .int p1), (2, .int p2)] dX0_whyNot_64 rfl (Nat.le_of_ble_eq_true rfl) rfl ?_
          refine S_iload_n 0 dX0_whyNot_65 rfl rfl ?_
          refine S_if_neB 88 dX0_whyNot_66 (by decide) (fun c16 => ?_) (fun c16 => ?_)
          · refine S_iconst 0 dX0_whyNot_88 (by decide) ?_
            exact S_ireturn rfl rfl dX0_whyNot_89
          · refine S_aload_n 1 dX0_whyNot_69 rfl rfl ?_
            refine S_getR kc0 (k := 10) (by decide) kw_142 dX0_whyNot_70 (fun a12 _ => ?_)
            refine S_iload_n 3 dX0_whyNot_73 rfl rfl ?_
            refine S_callSN_IR (lev' := 0) (My := M_X5_at) [.ref a12, .int p2] [] K_X5_at kn_302 kw_303 dX0_whyNot_74 (by decide) rfl (Nat.le_of_ble_eq_true rfl) (fun xx ee => sm_X5_at hs a12 p2 h xx ee) (fun x13 _ => ?_)
            refine S_iload_n 2 dX0_whyNot_77 rfl rfl ?_
            refine S_callSN_BR (lev' := 0) (My := M_X5_has) [.int x13, .int p1] [] K_X5_has kn_391 kw_319 dX0_whyNot_78 (by decide) rfl (Nat.le_of_ble_eq_true rfl) (fun xx ee => sm_X5_has hs x13 p1 _ xx ee) (fun bb14 _ => ?_)
            refine S_if_eqB 88 dX0_whyNot_81 (by decide) (fun c15 => ?_) (fun c15 => ?_)
            · refine S_iconst 0 dX0_whyNot_88 (by decide) ?_
              exact S_ireturn rfl rfl dX0_whyNot_89
            · refine S_iconst 4 dX0_whyNot_84 (by decide) ?_
              refine S_goto 89 dX0_whyNot_85 (by decide) ?_
              exact S_ireturn rfl rfl dX0_whyNot_89
        refine S_if_ne 63 dX0_whyNot_56 (by decide) (fun c17 => ?_) (fun c17 => ?_)
        · refine S_iconst 0 dX0_whyNot_63 (by decide) ?_
          exact Sim.sub [0, 1, 2] rfl (hk11 false)
        · refine S_iconst 1 dX0_whyNot_59 (by decide) ?_
          refine S_goto 64 dX0_whyNot_60 (by decide) ?_
          exact Sim.sub [0, 1, 2] rfl (hk11 true)
      · refine S_iconst 3 dX0_whyNot_44 (by decide) ?_
        exact S_ireturn rfl rfl dX0_whyNot_45
    · refine S_iconst 2 dX0_whyNot_25 (by decide) ?_
      exact S_ireturn rfl rfl dX0_whyNot_26
  · refine S_iconst 1 dX0_whyNot_8 (by decide) ?_
    exact S_ireturn rfl rfl dX0_whyNot_9
theorem sm_X0_whyNot (hs : l.stackTraces = false) (o : Nat) (p1 : Int32) (p2 : Int32) (h : Hp) : ∀ x, m_X0_whyNot  o p1 p2 h = some x → SR l G 2 M_X0_whyNot [.ref o, .int p1, .int p2] h (some (.int x)) h := fun x e => SR.of K_X0_whyNot hs rfl (Nat.le_of_ble_eq_true rfl) (ss_X0_whyNot hs o p1 p2 h) e rfl
end
section
variable {l : Launch} {G : Gx}
set_option maxRecDepth 20000 in
set_option maxHeartbeats 4000000 in
theorem ss_X1_bringBack (hs : l.stackTraces = false) (o : Nat) (p1 : Nat) (h : Hp) : Sim l G 2 M_X1_bringBack (fun v : Hp => ((.inl none : Oc), v)) 0 [(0, .ref o), (1, .ref p1)] [] h (m_X1_bringBack  o p1 h) := by
  rw [m_X1_bringBack]
  refine S_aload_n 0 dX1_bringBack_0 rfl rfl ?_
  refine S_getI kc1 (k := 1) (by decide) kw_233 dX1_bringBack_1 (fun x1 _ => ?_)
  refine S_jK (fun (k3 : Int32 → Option Hp) => ∀ (v2 : Int32), Sim l G 2 M_X1_bringBack (fun v : Hp => ((.inl none : Oc), v)) 23 [(0, .ref o), (1, .ref p1)] [.int v2] h (k3 v2)) ?_ (fun k3 hk3 => ?_)
  · intro v2
    refine S_istore_n [(2, .int v2), (0, .ref o), (1, .ref p1)] dX1_bringBack_23 rfl (Nat.le_of_ble_eq_true rfl) rfl ?_
    refine S_iload_n 0 dX1_bringBack_24 rfl rfl ?_
    refine S_jK (fun (k5 : Bool → Option Hp) => ∀ (v4 : Bool), Sim l G 2 M_X1_bringBack (fun v : Hp => ((.inl none : Oc), v)) 42 [(0, .ref o), (1, .ref p1), (2, .int v2)] [.int (bI v4)] h (k5 v4)) ?_ (fun k5 hk5 => ?_)
    · intro v4
      refine S_istore_n [(3, .int (bI v4)), (0, .ref o), (1, .ref p1), (2, .int v2)] dX1_bringBack_42 rfl (Nat.le_of_ble_eq_true rfl) rfl ?_
      refine S_aload_n 1 dX1_bringBack_43 rfl rfl ?_
      refine S_getI kc1 (k := 0) (by decide) kw_231 dX1_bringBack_44 (fun x6 _ => ?_)
      refine S_if_le 88 dX1_bringBack_47 (by decide) (fun c18 => ?_) (fun c18 => ?_)
      · exact S_return rfl rfl dX1_bringBack_88
      · refine S_iload_n 0 dX1_bringBack_50 rfl rfl ?_
        refine S_if_eqB 88 dX1_bringBack_51 (by decide) (fun c17 => ?_) (fun c17 => ?_)
        · exact S_return rfl rfl dX1_bringBack_88
        · refine S_aload_n 1 dX1_bringBack_54 rfl rfl ?_
          refine S_getR kc1 (k := 2) (by decide) kw_234 dX1_bringBack_55 (fun a7 _ => ?_)
          refine S_iload_n 3 dX1_bringBack_58 rfl rfl ?_
          refine S_aaload dX1_bringBack_59 (fun q8 _ => ?_)
          refine S_ifnull 88 dX1_bringBack_60 (by decide) ?_ ?_
          · intro _
            exact S_return rfl rfl dX1_bringBack_88
          · intro a9 ha9
            subst ha9
            refine S_aload_n 2 dX1_bringBack_63 rfl rfl ?_
            refine S_aload_n 1 dX1_bringBack_64 rfl rfl ?_
            refine S_getR kc1 (k := 2) (by decide) kw_234 dX1_bringBack_65 (fun a10 _ => ?_)
            refine S_iload_n 3 dX1_bringBack_68 rfl rfl ?_
            refine S_aaload dX1_bringBack_69 (fun q11 _ => ?_)
            refine S_deref (fun a12 ha12 => ?_)
            subst ha12
            refine S_callV_VW (lev' := 1) (My := M_X0_takeFrom) [.ref a12] [] kc0 K_X0_takeFrom kw_1014 kw_762 kw_763 dX1_bringBack_70 (by decide) rfl (Nat.le_of_ble_eq_true rfl) (fun xx ee => sm_X0_takeFrom hs p1 a12 h xx ee) (fun h13 _ => ?_)
            refine S_aload_n 1 dX1_bringBack_73 rfl rfl ?_
            refine S_iload_n 3 dX1_bringBack_74 rfl rfl ?_
            refine S_put kc1 (k := 1) (by decide) rfl kw_233 rfl rfl dX1_bringBack_75 (fun h14 _ => ?_)
            refine S_aload_n 1 dX1_bringBack_78 rfl rfl ?_
            refine S_dup dX1_bringBack_79 rfl ?_
            refine S_getI kc1 (k := 0) (by decide) kw_231 dX1_bringBack_80 (fun x15 _ => ?_)
            refine S_iconst 1 dX1_bringBack_83 (by decide) ?_
            refine S_isub dX1_bringBack_84 ?_
            refine S_put kc1 (k := 0) (by decide) rfl kw_231 rfl rfl dX1_bringBack_85 (fun h16 _ => ?_)
            exact S_return rfl rfl dX1_bringBack_88
    refine S_if_lt 41 dX1_bringBack_25 (by decide) (fun c22 => ?_) (fun c22 => ?_)
    · refine S_iconst 0 dX1_bringBack_41 (by decide) ?_
      exact Sim.sub [1, 2, 0] rfl (hk5 false)
    · refine S_iload_n 0 dX1_bringBack_28 rfl rfl ?_
      refine S_aload_n 1 dX1_bringBack_29 rfl rfl ?_
      refine S_getR kc1 (k := 2) (by decide) kw_234 dX1_bringBack_30 (fun a19 _ => ?_)
      refine S_alen (t := 4) (ty := .object "ColourDuel$Board") rfl dX1_bringBack_33 (fun x20 _ => ?_)
      refine S_icmp_ge 41 dX1_bringBack_34 (by decide) (fun c21 => ?_) (fun c21 => ?_)
      · refine S_iconst 0 dX1_bringBack_41 (by decide) ?_
        exact Sim.sub [1, 2, 0] rfl (hk5 false)
      · refine S_iconst 1 dX1_bringBack_37 (by decide) ?_
        refine S_goto 42 dX1_bringBack_38 (by decide) ?_
        exact Sim.sub [1, 2, 0] rfl (hk5 true)
  refine S_if_le 16 dX1_bringBack_4 (by decide) (fun c26 => ?_) (fun c26 => ?_)
  · refine S_aload_n 0 dX1_bringBack_16 rfl rfl ?_
    refine S_getR kc1 (k := 2) (by decide) kw_234 dX1_bringBack_17 (fun a23 _ => ?_)
    refine S_alen (t := 4) (ty := .object "ColourDuel$Board") rfl dX1_bringBack_20 (fun x24 _ => ?_)
    refine S_iconst 1 dX1_bringBack_21 (by decide) ?_
    refine S_isub dX1_bringBack_22 ?_
    exact Sim.sub [0, 1] rfl (hk3 (x24 - (1 : Int32)))
  · refine S_aload_n 0 dX1_bringBack_7 rfl rfl ?_
    refine S_getI kc1 (k := 1) (by decide) kw_233 dX1_bringBack_8 (fun x25 _ => ?_)
    refine S_iconst 1 dX1_bringBack_11 (by decide) ?_
    refine S_isub dX1_bringBack_12 ?_
    refine S_goto 23 dX1_bringBack_13 (by decide) ?_
    exact Sim.sub [0, 1] rfl (hk3 (x25 - (1 : Int32)))
theorem sm_X1_bringBack (hs : l.stackTraces = false) (o : Nat) (p1 : Nat) (h : Hp) : ∀ h1, m_X1_bringBack  o p1 h = some h1 → SR l G 2 M_X1_bringBack [.ref o, .ref p1] h none h1 := fun h1 e => SR.of K_X1_bringBack hs rfl (Nat.le_of_ble_eq_true rfl) (ss_X1_bringBack hs o p1 h) e rfl
end
section
variable {l : Launch} {G : Gx}
set_option maxRecDepth 20000 in
set_option maxHeartbeats 4000000 in
theorem ss_X3_readNumber (hs : l.stackTraces = false) (o : Nat) (p1 : Int32) (p2 : Int32) (h : Hp) : Sim l G 2 M_X3_readNumber (fun p : Int32 × Hp => ((.inl (some (.int p.1)) : Oc), p.2)) 0 [(0, .ref o), (1, .int p1), (2, .int p2)] [] h (m_X3_readNumber  o p1 p2 h) := by
  rw [m_X3_readNumber]
  refine S_aload_n 0 dX3_readNumber_0 rfl rfl ?_
  refine S_getI kc3 (k := 6) (by decide) kw_197 dX3_readNumber_1 (fun x1 _ => ?_)
  refine S_iconst 2 dX3_readNumber_4 (by decide) ?_
  refine S_icmp_eq 17 dX3_readNumber_5 (by decide) (fun c13 => ?_) (fun c13 => ?_)
  · refine S_aload_n 0 dX3_readNumber_17 rfl rfl ?_
    refine S_getI kc3 (k := 9) (by decide) kw_200 dX3_readNumber_18 (fun x2 _ => ?_)
    refine S_iload_n 1 dX3_readNumber_21 rfl rfl ?_
    refine S_jK (fun (k3 : Option (Int32 × Hp)) => Sim l G 2 M_X3_readNumber (fun p : Int32 × Hp => ((.inl (some (.int p.1)) : Oc), p.2)) 33 [(0, .ref o)] [] h (k3)) ?_ (fun k3 hk3 => ?_)
    · refine S_aload_n 0 dX3_readNumber_33 rfl rfl ?_
      refine S_bipush (-3) dX3_readNumber_34 (by decide) ?_
      refine S_callV_BW (lev' := 0) (My := M_X3_fail) [.int (-3)] [] kc3 K_X3_fail kw_632 kw_634 kw_15 dX3_readNumber_36 (by decide) rfl (Nat.le_of_ble_eq_true rfl) (fun xx yy ee => sm_X3_fail hs o (-3 : Int32) h xx yy ee) (fun bb4 h5 _ => ?_)
      refine S_pop dX3_readNumber_39 rfl ?_
      refine S_iconst (-1) dX3_readNumber_40 (by decide) ?_
      exact S_ireturn rfl rfl dX3_readNumber_41
    refine S_icmp_lt 33 dX3_readNumber_22 (by decide) (fun c10 => ?_) (fun c10 => ?_)
    · exact Sim.sub [0] rfl (hk3)
    · refine S_aload_n 0 dX3_readNumber_25 rfl rfl ?_
      refine S_getI kc3 (k := 9) (by decide) kw_200 dX3_readNumber_26 (fun x6 _ => ?_)
      refine S_iload_n 2 dX3_readNumber_29 rfl rfl ?_
      refine S_icmp_le 42 dX3_readNumber_30 (by decide) (fun c9 => ?_) (fun c9 => ?_)
      · refine S_aload_n 0 dX3_readNumber_42 rfl rfl ?_
        refine S_getI kc3 (k := 9) (by decide) kw_200 dX3_readNumber_43 (fun x7 _ => ?_)
        refine S_istore_n [(3, .int x7), (0, .ref o), (1, .int p1), (2, .int p2)] dX3_readNumber_46 rfl (Nat.le_of_ble_eq_true rfl) rfl ?_
        refine S_aload_n 1 dX3_readNumber_47 rfl rfl ?_
        refine S_callV_VW (lev' := 1) (My := M_X3_advance) [] [] kc3 K_X3_advance kw_556 kw_558 kw_10 dX3_readNumber_48 (by decide) rfl (Nat.le_of_ble_eq_true rfl) (fun xx ee => sm_X3_advance hs o h xx ee) (fun h8 _ => ?_)
        refine S_iload_n 0 dX3_readNumber_51 rfl rfl ?_
        exact S_ireturn rfl rfl dX3_readNumber_52
      · exact Sim.sub [0] rfl (hk3)
  · refine S_aload_n 0 dX3_readNumber_8 rfl rfl ?_
    refine S_bipush (-2) dX3_readNumber_9 (by decide) ?_
    refine S_callV_BW (lev' := 0) (My := M_X3_fail) [.int (-2)] [] kc3 K_X3_fail kw_632 kw_634 kw_15 dX3_readNumber_11 (by decide) rfl (Nat.le_of_ble_eq_true rfl) (fun xx yy ee => sm_X3_fail hs o (-2 : Int32) h xx yy ee) (fun bb11 h12 _ => ?_)
    refine S_pop dX3_readNumber_14 rfl ?_
    refine S_iconst (-1) dX3_readNumber_15 (by decide) ?_
    exact S_ireturn rfl rfl dX3_readNumber_16
theorem sm_X3_readNumber (hs : l.stackTraces = false) (o : Nat) (p1 : Int32) (p2 : Int32) (h : Hp) : ∀ x h1, m_X3_readNumber  o p1 p2 h = some (x, h1) → SR l G 2 M_X3_readNumber [.ref o, .int p1, .int p2] h (some (.int x)) h1 := fun x h1 e => SR.of K_X3_readNumber hs rfl (Nat.le_of_ble_eq_true rfl) (ss_X3_readNumber hs o p1 p2 h) e rfl
end
section
variable {l : Launch} {G : Gx}
set_option maxRecDepth 20000 in
set_option maxHeartbeats 4000000 in
theorem ss_X3_readSemicolon (hs : l.stackTraces = false) (o : Nat) (h : Hp) : Sim l G 2 M_X3_readSemicolon (fun p : Bool × Hp => ((.inl (some (.int (bI p.1))) : Oc), p.2)) 0 [(0, .ref o)] [] h (m_X3_readSemicolon  o h) := by
  rw [m_X3_readSemicolon]
  refine S_aload_n 0 dX3_readSemicolon_0 rfl rfl ?_
  refine S_getI kc3 (k := 6) (by decide) kw_197 dX3_readSemicolon_1 (fun x1 _ => ?_)
  refine S_iconst 3 dX3_readSemicolon_4 (by decide) ?_
  refine S_icmp_eq 15 dX3_readSemicolon_5 (by decide) (fun c5 => ?_) (fun c5 => ?_)
  · refine S_aload_n 0 dX3_readSemicolon_15 rfl rfl ?_
    refine S_callV_VW (lev' := 1) (My := M_X3_advance) [] [] kc3 K_X3_advance kw_556 kw_558 kw_10 dX3_readSemicolon_16 (by decide) rfl (Nat.le_of_ble_eq_true rfl) (fun xx ee => sm_X3_advance hs o h xx ee) (fun h2 _ => ?_)
    refine S_iconst 1 dX3_readSemicolon_19 (by decide) ?_
    exact S_zreturn (b := true) rfl rfl dX3_readSemicolon_20
  · refine S_aload_n 0 dX3_readSemicolon_8 rfl rfl ?_
    refine S_bipush (-2) dX3_readSemicolon_9 (by decide) ?_
    refine S_callV_BW (lev' := 0) (My := M_X3_fail) [.int (-2)] [] kc3 K_X3_fail kw_632 kw_634 kw_15 dX3_readSemicolon_11 (by decide) rfl (Nat.le_of_ble_eq_true rfl) (fun xx yy ee => sm_X3_fail hs o (-2 : Int32) h xx yy ee) (fun bb3 h4 _ => ?_)
    exact S_zreturn (b := bb3) rfl rfl dX3_readSemicolon_14
theorem sm_X3_readSemicolon (hs : l.stackTraces = false) (o : Nat) (h : Hp) : ∀ x h1, m_X3_readSemicolon  o h = some (x, h1) → SR l G 2 M_X3_readSemicolon [.ref o] h (some (.int (bI x))) h1 := fun x h1 e => SR.of K_X3_readSemicolon hs rfl (Nat.le_of_ble_eq_true rfl) (ss_X3_readSemicolon hs o h) e rfl
end
section
variable {l : Launch} {G : Gx}
set_option maxRecDepth 20000 in
set_option maxHeartbeats 4000000 in
theorem sl_X4_placeOf_L33 (hs : l.stackTraces = false) (u6 : Nat) (u7 : Int32) (h : Hp) (k33_66 : Int64 → Option Int64) (hk33_66 : ∀ (v10 : Int64), Sim l G 2 M_X4_placeOf (fun v : Int64 => ((.inl (some (.long v)) : Oc), h)) 66 [(2, .long v10)] [] h (k33_66 v10)) : ∀ (f : Nat) (w8 : Int64) (w9 : Int32), Sim l G 2 M_X4_placeOf (fun v : Int64 => ((.inl (some (.long v)) : Oc), h)) 33 [(0, .ref u6), (1, .int u7), (2, .long w8), (4, .int w9)] [] h (m_X4_placeOf_L33 u6 u7 h k33_66 f w8 w9) := by
  intro f
  induction f with
  | zero => intro w8 w9; exact S_none rfl
  | succ f ih =>
    intro w8 w9
    rw [m_X4_placeOf_L33]
    refine S_iload 3 dX4_placeOf_33 rfl ?_
    refine S_iconst 3 dX4_placeOf_35 (by decide) ?_
    refine S_icmp_ge 66 dX4_placeOf_36 (by decide) (fun c16 => ?_) (fun c16 => ?_)
    · exact Sim.sub [2] rfl (hk33_66 w8)
    · refine S_lload_n 2 dX4_placeOf_39 rfl rfl ?_
      refine S_aload_n 0 dX4_placeOf_40 rfl rfl ?_
      refine S_getR kc4 (k := 0) (by decide) kw_168 dX4_placeOf_41 (fun a11 _ => ?_)
      refine S_iload 3 dX4_placeOf_44 rfl ?_
      refine S_callV_IR (lev' := 1) (My := M_X0_openTo) [.int w9] [.long w8] kc0 K_X0_openTo kw_298 kw_299 kw_300 dX4_placeOf_46 (by decide) rfl (Nat.le_of_ble_eq_true rfl) (fun xx ee => sm_X0_openTo hs a11 w9 h xx ee) (fun x12 _ => ?_)
      refine S_iload_n 1 dX4_placeOf_49 rfl rfl ?_
      refine S_iand dX4_placeOf_50 ?_
      refine S_i2l dX4_placeOf_51 ?_
      refine S_iload 3 dX4_placeOf_52 rfl ?_
      refine S_callS_IR (lev' := 0) (My := M_X4_setShift) [.int w9] [.long (Int32.toInt64 (x12 &&& u7)), .long w8] K_X4_setShift kw_305 kw_306 dX4_placeOf_54 (by decide) rfl (Nat.le_of_ble_eq_true rfl) (fun xx ee => sm_X4_setShift hs w9 _ xx ee) (fun x13 _ => ?_)
      refine S_lshl dX4_placeOf_57 ?_
      refine S_lor dX4_placeOf_58 ?_
      refine S_nmJ (fun x14 => ?_)
      refine S_lstore_n [(2, .long x14), (0, .ref u6), (1, .int u7), (4, .int w9)] dX4_placeOf_59 rfl (Nat.le_of_ble_eq_true rfl) rfl ?_
      refine S_iincN (c := 1) 3 (fun x15 => [(4, .int x15), (2, .long x14), (0, .ref u6), (1, .int u7)]) dX4_placeOf_60 rfl (by decide) (Nat.le_of_ble_eq_true rfl) (fun _ => rfl) (fun x15 => ?_)
      refine S_goto 33 dX4_placeOf_63 (by decide) ?_
      exact Sim.sub [2, 3, 1, 0] rfl (ih x14 x15)
set_option maxRecDepth 20000 in
set_option maxHeartbeats 4000000 in
theorem ss_X4_placeOf (hs : l.stackTraces = false) (o : Nat) (p1 : Int32) (h : Hp) : Sim l G 2 M_X4_placeOf (fun v : Int64 => ((.inl (some (.long v)) : Oc), h)) 0 [(0, .ref o), (1, .int p1)] [] h (m_X4_placeOf  o p1 h) := by
  rw [m_X4_placeOf]
  refine S_aload_n 0 dX4_placeOf_0 rfl rfl ?_
  refine S_getR kc4 (k := 0) (by decide) kw_168 dX4_placeOf_1 (fun a1 _ => ?_)
  refine S_getI kc0 (k := 0) (by decide) kw_124 dX4_placeOf_4 (fun x2 _ => ?_)
  refine S_i2l dX4_placeOf_7 ?_
  refine S_bipush 38 dX4_placeOf_8 (by decide) ?_
  refine S_lshl dX4_placeOf_10 ?_
  refine S_aload_n 0 dX4_placeOf_11 rfl rfl ?_
  refine S_getR kc4 (k := 0) (by decide) kw_168 dX4_placeOf_12 (fun a3 _ => ?_)
  refine S_iload_n 1 dX4_placeOf_15 rfl rfl ?_
  refine S_callV_IR (lev' := 0) (My := M_X0_banOf) [.int p1] [.long (jlshl (Int32.toInt64 x2) (38 : Int32))] kc0 K_X0_banOf kw_294 kw_295 kw_296 dX4_placeOf_16 (by decide) rfl (Nat.le_of_ble_eq_true rfl) (fun xx ee => sm_X0_banOf hs a3 p1 h xx ee) (fun x4 _ => ?_)
  refine S_iconst 1 dX4_placeOf_19 (by decide) ?_
  refine S_iadd dX4_placeOf_20 ?_
  refine S_i2l dX4_placeOf_21 ?_
  refine S_bipush 36 dX4_placeOf_22 (by decide) ?_
  refine S_lshl dX4_placeOf_24 ?_
  refine S_lor dX4_placeOf_25 ?_
  refine S_iload_n 1 dX4_placeOf_26 rfl rfl ?_
  refine S_i2l dX4_placeOf_27 ?_
  refine S_lor dX4_placeOf_28 ?_
  refine S_nmJ (fun x5 => ?_)
  refine S_lstore_n [(2, .long x5), (0, .ref o), (1, .int p1)] dX4_placeOf_29 rfl (Nat.le_of_ble_eq_true rfl) rfl ?_
  refine S_iconst 0 dX4_placeOf_30 (by decide) ?_
  refine S_istore [(4, .int 0), (2, .long x5), (0, .ref o), (1, .int p1)] dX4_placeOf_31 (Nat.le_of_ble_eq_true rfl) rfl ?_
  refine Sim.sub [2, 3, 1, 0] rfl (sl_X4_placeOf_L33 hs o p1 h _ ?_ LF x5 (0 : Int32))
  · intro v10
    refine S_lload_n 0 dX4_placeOf_66 rfl rfl ?_
    exact S_lreturn rfl rfl dX4_placeOf_67
theorem sm_X4_placeOf (hs : l.stackTraces = false) (o : Nat) (p1 : Int32) (h : Hp) : ∀ x, m_X4_placeOf  o p1 h = some x → SR l G 2 M_X4_placeOf [.ref o, .int p1] h (some (.long x)) h := fun x e => SR.of K_X4_placeOf hs rfl (Nat.le_of_ble_eq_true rfl) (ss_X4_placeOf hs o p1 h) e rfl
end
section
variable {l : Launch} {G : Gx} {L : Nat}
set_option maxRecDepth 20000 in
set_option maxHeartbeats 4000000 in
theorem sl_X4_ofPieces_L21 (hs : l.stackTraces = false) (hL : 2 ≤ L) (rc : Nat → Int64 → Int32 → Hp → Option (Int32 × Hp)) (hrc : ∀ (z0 : Nat) (z1 : Int64) (z2 : Int32) (h : Hp) x h1, rc z0 z1 z2 h = some (x, h1) → SR l G L M_X4_ofPlace [.ref z0, .long z1, .int z2] h (some (.int x)) h1) (u3 : Nat) (u4 : Int64) (u5 : Int32) (u6 : Int64) (k21_89 : Int32 → Hp → Option (Int32 × Hp)) (hk21_89 : ∀ (v10 : Int32) (h11 : Hp), Sim l G (L + 1) M_X4_ofPieces (fun p : Int32 × Hp => ((.inl (some (.int p.1)) : Oc), p.2)) 89 [(7, .int v10)] [] h11 (k21_89 v10 h11)) : ∀ (f : Nat) (w7 : Int32) (w8 : Int32) (w9 : Int32) (h : Hp), Sim l G (L + 1) M_X4_ofPieces (fun p : Int32 × Hp => ((.inl (some (.int p.1)) : Oc), p.2)) 21 [(0, .ref u3), (1, .long u4), (3, .int u5), (4, .long u6), (6, .int w7), (7, .int w8), (8, .int w9)] [] h (m_X4_ofPieces_L21 rc u3 u4 u5 u6 k21_89 f w7 w8 w9 h) := by
  intro f
  induction f with
  | zero => intro w7 w8 w9 h; exact S_none rfl
  | succ f ih =>
    intro w7 w8 w9 h
    rw [m_X4_ofPieces_L21]
    refine S_iload 6 dX4_ofPieces_21 rfl ?_
    refine S_bipush 9 dX4_ofPieces_23 (by decide) ?_
    refine S_icmp_ge 89 dX4_ofPieces_25 (by decide) (fun c20 => ?_) (fun c20 => ?_)
    · exact Sim.sub [5] rfl (hk21_89 w8 h)
    · refine S_iload 4 dX4_ofPieces_28 rfl ?_
      refine S_if_eq 89 dX4_ofPieces_30 (by decide) (fun c19 => ?_) (fun c19 => ?_)
      · exact Sim.sub [5] rfl (hk21_89 w8 h)
      · refine S_aload_n 0 dX4_ofPieces_33 rfl rfl ?_
        refine S_getR kc4 (k := 0) (by decide) kw_168 dX4_ofPieces_34 (fun a12 _ => ?_)
        refine S_iload 4 dX4_ofPieces_37 rfl ?_
        refine S_iload 4 dX4_ofPieces_39 rfl ?_
        refine S_ineg dX4_ofPieces_41 ?_
        refine S_iand dX4_ofPieces_42 ?_
        refine S_iload 4 dX4_ofPieces_43 rfl ?_
        refine S_callV_IR (lev' := 1) (My := M_X0_reachable) [.int (w7 &&& (-w7)), .int w7] [] kc0 K_X0_reachable kw_280 kw_281 kw_282 dX4_ofPieces_45 (by omega) rfl (Nat.le_of_ble_eq_true rfl) (fun xx ee => sm_X0_reachable hs a12 (w7 &&& (-w7)) w7 h xx ee) (fun x13 _ => ?_)
        refine S_istore [(9, .int x13), (0, .ref u3), (1, .long u4), (3, .int u5), (4, .long u6), (6, .int w7), (7, .int w8), (8, .int w9)] dX4_ofPieces_48 (Nat.le_of_ble_eq_true rfl) rfl ?_
        refine S_iload 6 dX4_ofPieces_50 rfl ?_
        refine S_aload_n 1 dX4_ofPieces_52 rfl rfl ?_
        refine S_lload 4 dX4_ofPieces_53 rfl ?_
        refine S_lload_n 2 dX4_ofPieces_55 rfl rfl ?_
        refine S_ldc2 134480385 kw_329 dX4_ofPieces_56 ?_
        refine S_iload 0 dX4_ofPieces_59 rfl ?_
        refine S_i2l dX4_ofPieces_61 ?_
        refine S_lmul dX4_ofPieces_62 ?_
        refine S_land dX4_ofPieces_63 ?_
        refine S_lor dX4_ofPieces_64 ?_
        refine S_iload_n 3 dX4_ofPieces_65 rfl rfl ?_
        refine S_callV_IW (lev' := L) (My := M_X4_ofPlace) [.long (u6 ||| (u4 &&& (134480385 * (Int32.toInt64 x13)))), .int u5] [.int w8] kc4 K_X4_ofPlace kw_308 kw_310 kw_1 dX4_ofPieces_66 (by omega) rfl (Nat.le_of_ble_eq_true rfl) (fun xx yy ee => hrc u3 (u6 ||| (u4 &&& (134480385 * (Int32.toInt64 x13)))) u5 h xx yy ee) (fun x14 h15 _ => ?_)
        refine S_callSN_IR (lev' := 0) (My := M_X5_together) [.int w8, .int x14] [] K_X5_together kn_337 kw_338 dX4_ofPieces_69 (by omega) rfl (Nat.le_of_ble_eq_true rfl) (fun xx ee => sm_X5_together hs w8 x14 _ xx ee) (fun x16 _ => ?_)
        refine S_istore [(7, .int x16), (9, .int x13), (0, .ref u3), (1, .long u4), (3, .int u5), (4, .long u6), (6, .int w7), (8, .int w9)] dX4_ofPieces_72 (Nat.le_of_ble_eq_true rfl) rfl ?_
        refine S_iload 6 dX4_ofPieces_74 rfl ?_
        refine S_iload 1 dX4_ofPieces_76 rfl ?_
        refine S_iconst (-1) dX4_ofPieces_78 (by decide) ?_
        refine S_ixor dX4_ofPieces_79 ?_
        refine S_iand dX4_ofPieces_80 ?_
        refine S_nmI (fun x17 => ?_)
        refine S_istore [(6, .int x17), (7, .int x16), (9, .int x13), (0, .ref u3), (1, .long u4), (3, .int u5), (4, .long u6), (8, .int w9)] dX4_ofPieces_81 (Nat.le_of_ble_eq_true rfl) rfl ?_
        refine S_iincN (c := 1) 7 (fun x18 => [(8, .int x18), (6, .int x17), (7, .int x16), (9, .int x13), (0, .ref u3), (1, .long u4), (3, .int u5), (4, .long u6)]) dX4_ofPieces_83 rfl (by decide) (Nat.le_of_ble_eq_true rfl) (fun _ => rfl) (fun x18 => ?_)
        refine S_goto 21 dX4_ofPieces_86 (by decide) ?_
        exact Sim.sub [4, 5, 6, 7, 1, 2, 0] rfl (ih x17 x16 x18 h15)
set_option maxRecDepth 20000 in
set_option maxHeartbeats 4000000 in
theorem ss_X4_ofPieces (hs : l.stackTraces = false) (hL : 2 ≤ L) (rc : Nat → Int64 → Int32 → Hp → Option (Int32 × Hp)) (hrc : ∀ (z0 : Nat) (z1 : Int64) (z2 : Int32) (h : Hp) x h1, rc z0 z1 z2 h = some (x, h1) → SR l G L M_X4_ofPlace [.ref z0, .long z1, .int z2] h (some (.int x)) h1) (o : Nat) (p1 : Int64) (p2 : Int32) (h : Hp) : Sim l G (L + 1) M_X4_ofPieces (fun p : Int32 × Hp => ((.inl (some (.int p.1)) : Oc), p.2)) 0 [(0, .ref o), (1, .long p1), (3, .int p2)] [] h (m_X4_ofPieces rc  o p1 p2 h) := by
  rw [m_X4_ofPieces]
  refine S_lload_n 1 dX4_ofPieces_0 rfl rfl ?_
  refine S_ldc2 (-68719476736) kw_336 dX4_ofPieces_1 ?_
  refine S_land dX4_ofPieces_4 ?_
  refine S_nmJ (fun x1 => ?_)
  refine S_lstore [(4, .long x1), (0, .ref o), (1, .long p1), (3, .int p2)] dX4_ofPieces_5 (Nat.le_of_ble_eq_true rfl) rfl ?_
  refine S_lload_n 2 dX4_ofPieces_7 rfl rfl ?_
  refine S_l2i dX4_ofPieces_8 ?_
  refine S_sipush 511 dX4_ofPieces_9 (by decide) ?_
  refine S_iand dX4_ofPieces_12 ?_
  refine S_nmI (fun x2 => ?_)
  refine S_istore [(6, .int x2), (4, .long x1), (0, .ref o), (1, .long p1), (3, .int p2)] dX4_ofPieces_13 (Nat.le_of_ble_eq_true rfl) rfl ?_
  refine S_iconst 0 dX4_ofPieces_15 (by decide) ?_
  refine S_istore [(7, .int 0), (6, .int x2), (4, .long x1), (0, .ref o), (1, .long p1), (3, .int p2)] dX4_ofPieces_16 (Nat.le_of_ble_eq_true rfl) rfl ?_
  refine S_iconst 0 dX4_ofPieces_18 (by decide) ?_
  refine S_istore [(8, .int 0), (7, .int 0), (6, .int x2), (4, .long x1), (0, .ref o), (1, .long p1), (3, .int p2)] dX4_ofPieces_19 (Nat.le_of_ble_eq_true rfl) rfl ?_
  refine Sim.sub [4, 5, 6, 3, 2, 1, 0] rfl (sl_X4_ofPieces_L21 hs hL rc hrc o p1 p2 x1 _ ?_ LF x2 (0 : Int32) (0 : Int32) h)
  · intro v10 h11
    refine S_iload 0 dX4_ofPieces_89 rfl ?_
    exact S_ireturn rfl rfl dX4_ofPieces_91
theorem sm_X4_ofPieces (hs : l.stackTraces = false) (hL : 2 ≤ L) (rc : Nat → Int64 → Int32 → Hp → Option (Int32 × Hp)) (hrc : ∀ (z0 : Nat) (z1 : Int64) (z2 : Int32) (h : Hp) x h1, rc z0 z1 z2 h = some (x, h1) → SR l G L M_X4_ofPlace [.ref z0, .long z1, .int z2] h (some (.int x)) h1) (o : Nat) (p1 : Int64) (p2 : Int32) (h : Hp) : ∀ x h1, m_X4_ofPieces rc  o p1 p2 h = some (x, h1) → SR l G (L + 1) M_X4_ofPieces [.ref o, .long p1, .int p2] h (some (.int x)) h1 := fun x h1 e => SR.of K_X4_ofPieces hs rfl (Nat.le_of_ble_eq_true rfl) (ss_X4_ofPieces hs hL rc hrc o p1 p2 h) e rfl
end
section
variable {l : Launch} {G : Gx} {L : Nat}
set_option maxRecDepth 20000 in
set_option maxHeartbeats 4000000 in
theorem sl_X4_workOut_L98 (hs : l.stackTraces = false) (hL : 2 ≤ L) (rc : Nat → Int64 → Int32 → Hp → Option (Int32 × Hp)) (hrc : ∀ (z0 : Nat) (z1 : Int64) (z2 : Int32) (h : Hp) x h1, rc z0 z1 z2 h = some (x, h1) → SR l G L M_X4_ofPlace [.ref z0, .long z1, .int z2] h (some (.int x)) h1) (u20 : Nat) (u21 : Int64) (u22 : Int32) (u23 : Bool) (u24 : Int32) (u28 : Int32) (u29 : Int32) (k98_179 : Int32 → Int32 → Int32 → Hp → Option (Int32 × Hp)) (hk98_179 : ∀ (v31 : Int32) (v32 : Int32) (v33 : Int32) (h34 : Hp), Sim l G (L + 2) M_X4_workOut (fun p : Int32 × Hp => ((.inl (some (.int p.1)) : Oc), p.2)) 179 [(0, .ref u20), (1, .long u21), (3, .int u22), (5, .int (bI u23)), (6, .int u24), (7, .int v31), (8, .int v32), (9, .int v33), (10, .int u28)] [] h34 (k98_179 v31 v32 v33 h34)) : ∀ (f : Nat) (w25 : Int32) (w26 : Int32) (w27 : Int32) (w30 : Int32) (h : Hp), Sim l G (L + 2) M_X4_workOut (fun p : Int32 × Hp => ((.inl (some (.int p.1)) : Oc), p.2)) 98 [(0, .ref u20), (1, .long u21), (3, .int u22), (5, .int (bI u23)), (6, .int u24), (7, .int w25), (8, .int w26), (9, .int w27), (10, .int u28), (11, .int u29), (12, .int w30)] [] h (m_X4_workOut_L98 rc u20 u21 u22 u23 u24 u28 u29 k98_179 f w25 w26 w27 w30 h) := by
  intro f
  induction f with
  | zero => intro w25 w26 w27 w30 h; exact S_none rfl
  | succ f ih =>
    intro w25 w26 w27 w30 h
    rw [m_X4_workOut_L98]
    refine S_iload 10 dX4_workOut_98 rfl ?_
    refine S_bipush 9 dX4_workOut_100 (by decide) ?_
    refine S_icmp_ge 179 dX4_workOut_102 (by decide) (fun c52 => ?_) (fun c52 => ?_)
    · exact Sim.sub [0, 1, 2, 3, 4, 5, 6, 7, 8] rfl (hk98_179 w25 w26 w27 h)
    · refine S_iload 9 dX4_workOut_105 rfl ?_
      refine S_iload 10 dX4_workOut_107 rfl ?_
      refine S_callSN_BR (lev' := 0) (My := M_X5_has) [.int u29, .int w30] [] K_X5_has kn_318 kw_319 dX4_workOut_109 (by omega) rfl (Nat.le_of_ble_eq_true rfl) (fun xx ee => sm_X5_has hs u29 w30 _ xx ee) (fun bb35 _ => ?_)
      refine S_jK (fun (k40 : Int32 → Int32 → Int32 → Hp → Option (Int32 × Hp)) => ∀ (v36 : Int32) (v37 : Int32) (v38 : Int32) (h39 : Hp), Sim l G (L + 2) M_X4_workOut (fun p : Int32 × Hp => ((.inl (some (.int p.1)) : Oc), p.2)) 173 [(0, .ref u20), (1, .long u21), (3, .int u22), (5, .int (bI u23)), (6, .int u24), (7, .int v36), (8, .int v37), (9, .int v38), (10, .int u28), (11, .int u29), (12, .int w30)] [] h39 (k40 v36 v37 v38 h39)) ?_ (fun k40 hk40 => ?_)
      · intro v36 v37 v38 h39
        refine S_iincN (c := 1) 10 (fun x41 => [(12, .int x41), (0, .ref u20), (1, .long u21), (3, .int u22), (5, .int (bI u23)), (6, .int u24), (7, .int v36), (8, .int v37), (9, .int v38), (10, .int u28), (11, .int u29)]) dX4_workOut_173 rfl (by decide) (Nat.le_of_ble_eq_true rfl) (fun _ => rfl) (fun x41 => ?_)
        refine S_goto 98 dX4_workOut_176 (by decide) ?_
        exact Sim.sub [1, 2, 3, 4, 5, 6, 7, 8, 9, 10, 0] rfl (ih v36 v37 v38 x41 h39)
      refine S_if_eqB 173 dX4_workOut_112 (by decide) (fun c51 => ?_) (fun c51 => ?_)
      · exact Sim.sub [0, 1, 2, 3, 4, 5, 6, 7, 8, 9, 10] rfl (hk40 w25 w26 w27 h)
      · refine S_aload_n 0 dX4_workOut_115 rfl rfl ?_
        refine S_aload_n 0 dX4_workOut_116 rfl rfl ?_
        refine S_lload_n 1 dX4_workOut_117 rfl rfl ?_
        refine S_iload 10 dX4_workOut_118 rfl ?_
        refine S_iload 8 dX4_workOut_120 rfl ?_
        refine S_callV_JR (lev' := 1) (My := M_X4_behind) [.long u21, .int w30, .int u28] [.ref u20] kc4 K_X4_behind kw_321 kw_323 kw_3 dX4_workOut_122 (by omega) rfl (Nat.le_of_ble_eq_true rfl) (fun xx ee => sm_X4_behind hs u20 u21 w30 u28 h xx ee) (fun x42 _ => ?_)
        refine S_iload_n 2 dX4_workOut_125 rfl rfl ?_
        refine S_iconst 1 dX4_workOut_126 (by decide) ?_
        refine S_iadd dX4_workOut_127 ?_
        refine S_callV_IW (lev' := (L + 1)) (My := M_X4_ofPieces) [.long x42, .int (u22 + (1 : Int32))] [] kc4 K_X4_ofPieces kw_332 kw_334 kw_4 dX4_workOut_128 (by omega) rfl (Nat.le_of_ble_eq_true rfl) (fun xx yy ee => sm_X4_ofPieces hs hL rc hrc u20 x42 (u22 + (1 : Int32)) h xx yy ee) (fun x43 h44 _ => ?_)
        refine S_istore [(13, .int x43), (0, .ref u20), (1, .long u21), (3, .int u22), (5, .int (bI u23)), (6, .int u24), (7, .int w25), (8, .int w26), (9, .int w27), (10, .int u28), (11, .int u29), (12, .int w30)] dX4_workOut_131 (Nat.le_of_ble_eq_true rfl) rfl ?_
        refine S_iload 6 dX4_workOut_133 rfl ?_
        refine S_iconst 1 dX4_workOut_135 (by decide) ?_
        refine S_iload 0 dX4_workOut_136 rfl ?_
        refine S_callSN_IR (lev' := 0) (My := M_X5_valueIn) [.int x43] [.int 1, .int w25] K_X5_valueIn kn_340 kw_341 dX4_workOut_138 (by omega) rfl (Nat.le_of_ble_eq_true rfl) (fun xx ee => sm_X5_valueIn hs x43 _ xx ee) (fun x45 _ => ?_)
        refine S_ishl dX4_workOut_141 ?_
        refine S_ior dX4_workOut_142 ?_
        refine S_nmI (fun x46 => ?_)
        refine S_istore [(7, .int x46), (13, .int x43), (0, .ref u20), (1, .long u21), (3, .int u22), (5, .int (bI u23)), (6, .int u24), (8, .int w26), (9, .int w27), (10, .int u28), (11, .int u29), (12, .int w30)] dX4_workOut_143 (Nat.le_of_ble_eq_true rfl) rfl ?_
        refine S_iload 7 dX4_workOut_145 rfl ?_
        refine S_iload 1 dX4_workOut_147 rfl ?_
        refine S_callSN_IR (lev' := 0) (My := M_X5_longestIn) [.int x43] [.int w26] K_X5_longestIn kn_343 kw_344 dX4_workOut_149 (by omega) rfl (Nat.le_of_ble_eq_true rfl) (fun xx ee => sm_X5_longestIn hs x43 _ xx ee) (fun x47 _ => ?_)
        refine S_iconst 1 dX4_workOut_152 (by decide) ?_
        refine S_iadd dX4_workOut_153 ?_
        refine S_mmax kw_346 (Nat.le_of_ble_eq_true rfl) dX4_workOut_154 ?_
        refine S_nmI (fun x48 => ?_)
        refine S_istore [(8, .int x48), (7, .int x46), (13, .int x43), (0, .ref u20), (1, .long u21), (3, .int u22), (5, .int (bI u23)), (6, .int u24), (9, .int w27), (10, .int u28), (11, .int u29), (12, .int w30)] dX4_workOut_157 (Nat.le_of_ble_eq_true rfl) rfl ?_
        refine S_iload 8 dX4_workOut_159 rfl ?_
        refine S_iload 2 dX4_workOut_161 rfl ?_
        refine S_callSN_IR (lev' := 0) (My := M_X5_shortestIn) [.int x43] [.int w27] K_X5_shortestIn kn_349 kw_350 dX4_workOut_163 (by omega) rfl (Nat.le_of_ble_eq_true rfl) (fun xx ee => sm_X5_shortestIn hs x43 _ xx ee) (fun x49 _ => ?_)
        refine S_iconst 1 dX4_workOut_166 (by decide) ?_
        refine S_iadd dX4_workOut_167 ?_
        refine S_mmin kw_352 (Nat.le_of_ble_eq_true rfl) dX4_workOut_168 ?_
        refine S_nmI (fun x50 => ?_)
        refine S_istore [(9, .int x50), (8, .int x48), (7, .int x46), (13, .int x43), (0, .ref u20), (1, .long u21), (3, .int u22), (5, .int (bI u23)), (6, .int u24), (10, .int u28), (11, .int u29), (12, .int w30)] dX4_workOut_171 (Nat.le_of_ble_eq_true rfl) rfl ?_
        exact Sim.sub [4, 5, 6, 7, 8, 2, 1, 0, 9, 10, 11] rfl (hk40 x46 x48 x50 h44)
set_option maxRecDepth 20000 in
set_option maxHeartbeats 4000000 in
theorem sl_X4_workOut_L59 (hs : l.stackTraces = false) (hL : 2 ≤ L) (rc : Nat → Int64 → Int32 → Hp → Option (Int32 × Hp)) (hrc : ∀ (z0 : Nat) (z1 : Int64) (z2 : Int32) (h : Hp) x h1, rc z0 z1 z2 h = some (x, h1) → SR l G L M_X4_ofPlace [.ref z0, .long z1, .int z2] h (some (.int x)) h1) (u5 : Nat) (u6 : Int64) (u7 : Int32) (u8 : Bool) (u9 : Int32) (k59_185 : Int32 → Int32 → Int32 → Hp → Option (Int32 × Hp)) (hk59_185 : ∀ (v14 : Int32) (v15 : Int32) (v16 : Int32) (h17 : Hp), Sim l G (L + 2) M_X4_workOut (fun p : Int32 × Hp => ((.inl (some (.int p.1)) : Oc), p.2)) 185 [(7, .int v14), (8, .int v15), (9, .int v16)] [] h17 (k59_185 v14 v15 v16 h17)) : ∀ (f : Nat) (w10 : Int32) (w11 : Int32) (w12 : Int32) (w13 : Int32) (h : Hp), Sim l G (L + 2) M_X4_workOut (fun p : Int32 × Hp => ((.inl (some (.int p.1)) : Oc), p.2)) 59 [(0, .ref u5), (1, .long u6), (3, .int u7), (5, .int (bI u8)), (6, .int u9), (7, .int w10), (8, .int w11), (9, .int w12), (10, .int w13)] [] h (m_X4_workOut_L59 rc u5 u6 u7 u8 u9 k59_185 f w10 w11 w12 w13 h) := by
  intro f
  induction f with
  | zero => intro w10 w11 w12 w13 h; exact S_none rfl
  | succ f ih =>
    intro w10 w11 w12 w13 h
    rw [m_X4_workOut_L59]
    refine S_iload 8 dX4_workOut_59 rfl ?_
    refine S_iconst 3 dX4_workOut_61 (by decide) ?_
    refine S_icmp_ge 185 dX4_workOut_62 (by decide) (fun c58 => ?_) (fun c58 => ?_)
    · exact Sim.sub [5, 6, 7] rfl (hk59_185 w10 w11 w12 h)
    · refine S_iload 8 dX4_workOut_65 rfl ?_
      refine S_iload 4 dX4_workOut_67 rfl ?_
      refine S_jK (fun (k19 : Int32 → Option (Int32 × Hp)) => ∀ (v18 : Int32), Sim l G (L + 2) M_X4_workOut (fun p : Int32 × Hp => ((.inl (some (.int p.1)) : Oc), p.2)) 93 [(0, .ref u5), (1, .long u6), (3, .int u7), (5, .int (bI u8)), (6, .int u9), (7, .int w10), (8, .int w11), (9, .int w12), (10, .int w13)] [.int v18] h (k19 v18)) ?_ (fun k19 hk19 => ?_)
      · intro v18
        refine S_istore [(11, .int v18), (0, .ref u5), (1, .long u6), (3, .int u7), (5, .int (bI u8)), (6, .int u9), (7, .int w10), (8, .int w11), (9, .int w12), (10, .int w13)] dX4_workOut_93 (Nat.le_of_ble_eq_true rfl) rfl ?_
        refine S_iconst 0 dX4_workOut_95 (by decide) ?_
        refine S_istore [(12, .int 0), (11, .int v18), (0, .ref u5), (1, .long u6), (3, .int u7), (5, .int (bI u8)), (6, .int u9), (7, .int w10), (8, .int w11), (9, .int w12), (10, .int w13)] dX4_workOut_96 (Nat.le_of_ble_eq_true rfl) rfl ?_
        refine Sim.sub [2, 3, 4, 5, 6, 7, 8, 9, 10, 1, 0] rfl (sl_X4_workOut_L98 hs hL rc hrc u5 u6 u7 u8 u9 w13 v18 _ ?_ LF w10 w11 w12 (0 : Int32) h)
        · intro v31 v32 v33 h34
          refine S_iincN (c := 1) 8 (fun x53 => [(10, .int x53), (0, .ref u5), (1, .long u6), (3, .int u7), (5, .int (bI u8)), (6, .int u9), (7, .int v31), (8, .int v32), (9, .int v33)]) dX4_workOut_179 rfl (by decide) (Nat.le_of_ble_eq_true rfl) (fun _ => rfl) (fun x53 => ?_)
          refine S_goto 59 dX4_workOut_182 (by decide) ?_
          exact Sim.sub [1, 2, 3, 4, 5, 6, 7, 8, 0] rfl (ih v31 v32 v33 x53 h34)
      refine S_jK (fun (k54 : Option (Int32 × Hp)) => Sim l G (L + 2) M_X4_workOut (fun p : Int32 × Hp => ((.inl (some (.int p.1)) : Oc), p.2)) 81 [(0, .ref u5), (1, .long u6), (3, .int u7), (5, .int (bI u8)), (6, .int u9), (7, .int w10), (8, .int w11), (9, .int w12), (10, .int w13)] [] h (k54)) ?_ (fun k54 hk54 => ?_)
      · refine S_lload_n 1 dX4_workOut_81 rfl rfl ?_
        refine S_iload 8 dX4_workOut_82 rfl ?_
        refine S_callS_IR (lev' := 0) (My := M_X4_setShift) [.int w13] [.long u6] K_X4_setShift kw_305 kw_306 dX4_workOut_84 (by omega) rfl (Nat.le_of_ble_eq_true rfl) (fun xx ee => sm_X4_setShift hs w13 _ xx ee) (fun x55 _ => ?_)
        refine S_lushr dX4_workOut_87 ?_
        refine S_l2i dX4_workOut_88 ?_
        refine S_sipush 511 dX4_workOut_89 (by decide) ?_
        refine S_iand dX4_workOut_92 ?_
        exact Sim.sub [0, 1, 2, 3, 4, 5, 6, 7, 8] rfl (hk19 ((Int64.toInt32 (jlushr u6 x55)) &&& (511 : Int32)))
      refine S_icmp_ne 81 dX4_workOut_69 (by decide) (fun c57 => ?_) (fun c57 => ?_)
      · exact Sim.sub [0, 1, 2, 3, 4, 5, 6, 7, 8] rfl (hk54)
      · refine S_iload 3 dX4_workOut_72 rfl ?_
        refine S_if_neB 81 dX4_workOut_74 (by decide) (fun c56 => ?_) (fun c56 => ?_)
        · exact Sim.sub [0, 1, 2, 3, 4, 5, 6, 7, 8] rfl (hk54)
        · refine S_iconst 0 dX4_workOut_77 (by decide) ?_
          refine S_goto 93 dX4_workOut_78 (by decide) ?_
          exact Sim.sub [0, 1, 2, 3, 4, 5, 6, 7, 8] rfl (hk19 (0 : Int32))
set_option maxRecDepth 20000 in
set_option maxHeartbeats 4000000 in
theorem ss_X4_workOut (hs : l.stackTraces = false) (hL : 2 ≤ L) (rc : Nat → Int64 → Int32 → Hp → Option (Int32 × Hp)) (hrc : ∀ (z0 : Nat) (z1 : Int64) (z2 : Int32) (h : Hp) x h1, rc z0 z1 z2 h = some (x, h1) → SR l G L M_X4_ofPlace [.ref z0, .long z1, .int z2] h (some (.int x)) h1) (o : Nat) (p1 : Int64) (p2 : Int32) (h : Hp) : Sim l G (L + 2) M_X4_workOut (fun p : Int32 × Hp => ((.inl (some (.int p.1)) : Oc), p.2)) 0 [(0, .ref o), (1, .long p1), (3, .int p2)] [] h (m_X4_workOut rc  o p1 p2 h) := by
  rw [m_X4_workOut]
  refine S_iload_n 2 dX4_workOut_0 rfl rfl ?_
  refine S_bipush 9 dX4_workOut_1 (by decide) ?_
  refine S_icmp_le 8 dX4_workOut_3 (by decide) (fun c63 => ?_) (fun c63 => ?_)
  · refine S_lload_n 1 dX4_workOut_8 rfl rfl ?_
    refine S_l2i dX4_workOut_9 ?_
    refine S_sipush 511 dX4_workOut_10 (by decide) ?_
    refine S_iand dX4_workOut_13 ?_
    refine S_nmI (fun x1 => ?_)
    refine S_istore [(4, .int x1), (0, .ref o), (1, .long p1), (3, .int p2)] dX4_workOut_14 (Nat.le_of_ble_eq_true rfl) rfl ?_
    refine S_iload 0 dX4_workOut_16 rfl ?_
    refine S_iload 0 dX4_workOut_18 rfl ?_
    refine S_iconst 1 dX4_workOut_20 (by decide) ?_
    refine S_isub dX4_workOut_21 ?_
    refine S_iand dX4_workOut_22 ?_
    refine S_jK (fun (k3 : Bool → Option (Int32 × Hp)) => ∀ (v2 : Bool), Sim l G (L + 2) M_X4_workOut (fun p : Int32 × Hp => ((.inl (some (.int p.1)) : Oc), p.2)) 31 [(0, .ref o), (1, .long p1), (3, .int p2)] [.int (bI v2)] h (k3 v2)) ?_ (fun k3 hk3 => ?_)
    · intro v2
      refine S_istore [(5, .int (bI v2)), (0, .ref o), (1, .long p1), (3, .int p2)] dX4_workOut_31 (Nat.le_of_ble_eq_true rfl) rfl ?_
      refine S_lload_n 2 dX4_workOut_33 rfl rfl ?_
      refine S_bipush 36 dX4_workOut_34 (by decide) ?_
      refine S_lushr dX4_workOut_36 ?_
      refine S_ldc2 3 kw_317 dX4_workOut_37 ?_
      refine S_land dX4_workOut_40 ?_
      refine S_l2i dX4_workOut_41 ?_
      refine S_iconst 1 dX4_workOut_42 (by decide) ?_
      refine S_isub dX4_workOut_43 ?_
      refine S_nmI (fun x4 => ?_)
      refine S_istore [(6, .int x4), (5, .int (bI v2)), (0, .ref o), (1, .long p1), (3, .int p2)] dX4_workOut_44 (Nat.le_of_ble_eq_true rfl) rfl ?_
      refine S_iconst 0 dX4_workOut_46 (by decide) ?_
      refine S_istore [(7, .int 0), (6, .int x4), (5, .int (bI v2)), (0, .ref o), (1, .long p1), (3, .int p2)] dX4_workOut_47 (Nat.le_of_ble_eq_true rfl) rfl ?_
      refine S_iconst 0 dX4_workOut_49 (by decide) ?_
      refine S_istore [(8, .int 0), (7, .int 0), (6, .int x4), (5, .int (bI v2)), (0, .ref o), (1, .long p1), (3, .int p2)] dX4_workOut_50 (Nat.le_of_ble_eq_true rfl) rfl ?_
      refine S_bipush 10 dX4_workOut_52 (by decide) ?_
      refine S_istore [(9, .int 10), (8, .int 0), (7, .int 0), (6, .int x4), (5, .int (bI v2)), (0, .ref o), (1, .long p1), (3, .int p2)] dX4_workOut_54 (Nat.le_of_ble_eq_true rfl) rfl ?_
      refine S_iconst 0 dX4_workOut_56 (by decide) ?_
      refine S_istore [(10, .int 0), (9, .int 10), (8, .int 0), (7, .int 0), (6, .int x4), (5, .int (bI v2)), (0, .ref o), (1, .long p1), (3, .int p2)] dX4_workOut_57 (Nat.le_of_ble_eq_true rfl) rfl ?_
      refine Sim.sub [6, 7, 8, 5, 4, 3, 2, 1, 0] rfl (sl_X4_workOut_L59 hs hL rc hrc o p1 p2 v2 x4 _ ?_ LF (0 : Int32) (0 : Int32) (10 : Int32) (0 : Int32) h)
      · intro v14 v15 v16 h17
        refine S_iload 0 dX4_workOut_185 rfl ?_
        refine S_if_ne 194 dX4_workOut_187 (by decide) (fun c61 => ?_) (fun c61 => ?_)
        · refine S_iload 0 dX4_workOut_194 rfl ?_
          refine S_iconst (-1) dX4_workOut_196 (by decide) ?_
          refine S_ixor dX4_workOut_197 ?_
          refine S_callSN_IR (lev' := 1) (My := M_X5_least) [.int (v14 ^^^ (-1 : Int32))] [] K_X5_least kn_355 kw_356 dX4_workOut_198 (by omega) rfl (Nat.le_of_ble_eq_true rfl) (fun xx ee => sm_X5_least hs (v14 ^^^ (-1 : Int32)) _ xx ee) (fun x59 _ => ?_)
          refine S_iload 1 dX4_workOut_201 rfl ?_
          refine S_iload 2 dX4_workOut_203 rfl ?_
          refine S_callSN_IR (lev' := 0) (My := M_X5_answerOf) [.int x59, .int v15, .int v16] [] K_X5_answerOf kn_359 kw_360 dX4_workOut_205 (by omega) rfl (Nat.le_of_ble_eq_true rfl) (fun xx ee => sm_X5_answerOf hs x59 v15 v16 _ xx ee) (fun x60 _ => ?_)
          exact S_ireturn rfl rfl dX4_workOut_208
        · refine S_iconst 0 dX4_workOut_190 (by decide) ?_
          refine S_goto 208 dX4_workOut_191 (by decide) ?_
          exact S_ireturn rfl rfl dX4_workOut_208
    refine S_if_ne 30 dX4_workOut_23 (by decide) (fun c62 => ?_) (fun c62 => ?_)
    · refine S_iconst 0 dX4_workOut_30 (by decide) ?_
      exact Sim.sub [1, 2, 3] rfl (hk3 false)
    · refine S_iconst 1 dX4_workOut_26 (by decide) ?_
      refine S_goto 31 dX4_workOut_27 (by decide) ?_
      exact Sim.sub [1, 2, 3] rfl (hk3 true)
  · refine S_iconst 0 dX4_workOut_6 (by decide) ?_
    exact S_ireturn rfl rfl dX4_workOut_7
theorem sm_X4_workOut (hs : l.stackTraces = false) (hL : 2 ≤ L) (rc : Nat → Int64 → Int32 → Hp → Option (Int32 × Hp)) (hrc : ∀ (z0 : Nat) (z1 : Int64) (z2 : Int32) (h : Hp) x h1, rc z0 z1 z2 h = some (x, h1) → SR l G L M_X4_ofPlace [.ref z0, .long z1, .int z2] h (some (.int x)) h1) (o : Nat) (p1 : Int64) (p2 : Int32) (h : Hp) : ∀ x h1, m_X4_workOut rc  o p1 p2 h = some (x, h1) → SR l G (L + 2) M_X4_workOut [.ref o, .long p1, .int p2] h (some (.int x)) h1 := fun x h1 e => SR.of K_X4_workOut hs rfl (Nat.le_of_ble_eq_true rfl) (ss_X4_workOut hs hL rc hrc o p1 p2 h) e rfl
end
section
variable {l : Launch} {G : Gx} {L : Nat}
set_option maxRecDepth 20000 in
set_option maxHeartbeats 4000000 in
theorem ss_X4_ofPlace (hs : l.stackTraces = false) (hL : 2 ≤ L) (rc : Nat → Int64 → Int32 → Hp → Option (Int32 × Hp)) (hrc : ∀ (z0 : Nat) (z1 : Int64) (z2 : Int32) (h : Hp) x h1, rc z0 z1 z2 h = some (x, h1) → SR l G L M_X4_ofPlace [.ref z0, .long z1, .int z2] h (some (.int x)) h1) (o : Nat) (p1 : Int64) (p2 : Int32) (h : Hp) : Sim l G (L + 3) M_X4_ofPlace (fun p : Int32 × Hp => ((.inl (some (.int p.1)) : Oc), p.2)) 0 [(0, .ref o), (1, .long p1), (3, .int p2)] [] h (m_X4_ofPlace_B rc  o p1 p2 h) := by
  rw [m_X4_ofPlace_B]
  refine S_lload_n 1 dX4_ofPlace_0 rfl rfl ?_
  refine S_ldc2 (-7046029254386353131) kw_312 dX4_ofPlace_1 ?_
  refine S_lmul dX4_ofPlace_4 ?_
  refine S_bipush 49 dX4_ofPlace_5 (by decide) ?_
  refine S_lushr dX4_ofPlace_7 ?_
  refine S_l2i dX4_ofPlace_8 ?_
  refine S_nmI (fun x1 => ?_)
  refine S_istore [(4, .int x1), (0, .ref o), (1, .long p1), (3, .int p2)] dX4_ofPlace_9 (Nat.le_of_ble_eq_true rfl) rfl ?_
  refine S_iload 0 dX4_ofPlace_11 rfl ?_
  refine S_if_lt 36 dX4_ofPlace_13 (by decide) (fun c21 => ?_) (fun c21 => ?_)
  · refine S_iconst 0 dX4_ofPlace_36 (by decide) ?_
    exact S_ireturn rfl rfl dX4_ofPlace_37
  · refine S_iload 0 dX4_ofPlace_16 rfl ?_
    refine S_aload_n 1 dX4_ofPlace_18 rfl rfl ?_
    refine S_getR kc4 (k := 1) (by decide) kw_170 dX4_ofPlace_19 (fun a2 _ => ?_)
    refine S_alen (t := 1) (ty := .long) rfl dX4_ofPlace_22 (fun x3 _ => ?_)
    refine S_icmp_ge 36 dX4_ofPlace_23 (by decide) (fun c20 => ?_) (fun c20 => ?_)
    · refine S_iconst 0 dX4_ofPlace_36 (by decide) ?_
      exact S_ireturn rfl rfl dX4_ofPlace_37
    · refine S_iload 0 dX4_ofPlace_26 rfl ?_
      refine S_aload_n 1 dX4_ofPlace_28 rfl rfl ?_
      refine S_getR kc4 (k := 2) (by decide) kw_171 dX4_ofPlace_29 (fun a4 _ => ?_)
      refine S_alen (t := 0) (ty := .int) rfl dX4_ofPlace_32 (fun x5 _ => ?_)
      refine S_icmp_lt 38 dX4_ofPlace_33 (by decide) (fun c19 => ?_) (fun c19 => ?_)
      · refine S_aload_n 1 dX4_ofPlace_38 rfl rfl ?_
        refine S_getR kc4 (k := 1) (by decide) kw_170 dX4_ofPlace_39 (fun a6 _ => ?_)
        refine S_iload 0 dX4_ofPlace_42 rfl ?_
        refine S_laload dX4_ofPlace_44 (fun x7 _ => ?_)
        refine S_lload_n 2 dX4_ofPlace_45 rfl rfl ?_
        refine S_lcmp dX4_ofPlace_46 ?_
        refine S_jK (fun (k9 : Hp → Option (Int32 × Hp)) => ∀ (h8 : Hp), Sim l G (L + 3) M_X4_ofPlace (fun p : Int32 × Hp => ((.inl (some (.int p.1)) : Oc), p.2)) 75 [(0, .ref o), (4, .int x1)] [] h8 (k9 h8)) ?_ (fun k9 hk9 => ?_)
        · intro h8
          refine S_aload_n 0 dX4_ofPlace_75 rfl rfl ?_
          refine S_getR kc4 (k := 2) (by decide) kw_171 dX4_ofPlace_76 (fun a10 _ => ?_)
          refine S_iload 1 dX4_ofPlace_79 rfl ?_
          refine S_iaload dX4_ofPlace_81 (fun x11 _ => ?_)
          exact S_ireturn rfl rfl dX4_ofPlace_82
        refine S_if_eq 75 dX4_ofPlace_47 (by decide) (fun c18 => ?_) (fun c18 => ?_)
        · exact Sim.sub [1, 0] rfl (hk9 h)
        · refine S_aload_n 1 dX4_ofPlace_50 rfl rfl ?_
          refine S_lload_n 2 dX4_ofPlace_51 rfl rfl ?_
          refine S_iload_n 3 dX4_ofPlace_52 rfl rfl ?_
          refine S_callV_IW (lev' := (L + 2)) (My := M_X4_workOut) [.long p1, .int p2] [] kc4 K_X4_workOut kw_313 kw_315 kw_2 dX4_ofPlace_53 (by omega) rfl (Nat.le_of_ble_eq_true rfl) (fun xx yy ee => sm_X4_workOut hs hL rc hrc o p1 p2 h xx yy ee) (fun x12 h13 _ => ?_)
          refine S_istore [(5, .int x12), (4, .int x1), (0, .ref o), (1, .long p1), (3, .int p2)] dX4_ofPlace_56 (Nat.le_of_ble_eq_true rfl) rfl ?_
          refine S_aload_n 2 dX4_ofPlace_58 rfl rfl ?_
          refine S_getR kc4 (k := 1) (by decide) kw_170 dX4_ofPlace_59 (fun a14 _ => ?_)
          refine S_iload 1 dX4_ofPlace_62 rfl ?_
          refine S_lload_n 3 dX4_ofPlace_64 rfl rfl ?_
          refine S_lastore dX4_ofPlace_65 (fun h15 _ => ?_)
          refine S_aload_n 2 dX4_ofPlace_66 rfl rfl ?_
          refine S_getR kc4 (k := 2) (by decide) kw_171 dX4_ofPlace_67 (fun a16 _ => ?_)
          refine S_iload 1 dX4_ofPlace_70 rfl ?_
          refine S_iload 0 dX4_ofPlace_72 rfl ?_
          refine S_iastore dX4_ofPlace_74 (fun h17 _ => ?_)
          exact Sim.sub [2, 1] rfl (hk9 h17)
      · refine S_iconst 0 dX4_ofPlace_36 (by decide) ?_
        exact S_ireturn rfl rfl dX4_ofPlace_37
theorem sm_X4_ofPlace_B (hs : l.stackTraces = false) (hL : 2 ≤ L) (rc : Nat → Int64 → Int32 → Hp → Option (Int32 × Hp)) (hrc : ∀ (z0 : Nat) (z1 : Int64) (z2 : Int32) (h : Hp) x h1, rc z0 z1 z2 h = some (x, h1) → SR l G L M_X4_ofPlace [.ref z0, .long z1, .int z2] h (some (.int x)) h1) (o : Nat) (p1 : Int64) (p2 : Int32) (h : Hp) : ∀ x h1, m_X4_ofPlace_B rc  o p1 p2 h = some (x, h1) → SR l G (L + 3) M_X4_ofPlace [.ref o, .long p1, .int p2] h (some (.int x)) h1 := fun x h1 e => SR.of K_X4_ofPlace hs rfl (Nat.le_of_ble_eq_true rfl) (ss_X4_ofPlace hs hL rc hrc o p1 p2 h) e rfl
end
theorem sm_X4_ofPlace {l : Launch} {G : Gx} (hs : l.stackTraces = false) : ∀ (d : Nat) (o : Nat) (p1 : Int64) (p2 : Int32) (h : Hp) x h1, m_X4_ofPlace d o p1 p2 h = some (x, h1) → SR l G (2 + 3 * d) M_X4_ofPlace [.ref o, .long p1, .int p2] h (some (.int x)) h1
  | 0, o, p1, p2, h, x, h1, e => by cases e
  | d + 1, o, p1, p2, h, x, h1, e => sm_X4_ofPlace_B (L := 2 + 3 * d) hs (by omega) (m_X4_ofPlace d) (sm_X4_ofPlace hs d) o p1 p2 h x h1 e
section
variable {l : Launch} {G : Gx}
set_option maxRecDepth 20000 in
set_option maxHeartbeats 4000000 in
theorem ss_X5_reason (hs : l.stackTraces = false) (o : Nat) (p1 : Int32) (p2 : Int32) (h : Hp) : Sim l G 3 M_X5_reason finX 0 [(0, .ref o), (1, .int p1), (2, .int p2)] [] h (m_X5_reason  o p1 p2 h) := by
  rw [m_X5_reason]
  refine S_aload_n 0 dX5_reason_0 rfl rfl ?_
  refine S_getR kc5 (k := 0) (by decide) kw_243 dX5_reason_1 (fun a1 _ => ?_)
  refine S_iload_n 1 dX5_reason_4 rfl rfl ?_
  refine S_iload_n 2 dX5_reason_5 rfl rfl ?_
  refine S_callV_BR (lev' := 1) (My := M_X0_hasPair) [.int p1, .int p2] [] kc0 K_X0_hasPair kw_845 kw_846 kw_847 dX5_reason_6 (by decide) rfl (Nat.le_of_ble_eq_true rfl) (fun xx ee => sm_X0_hasPair hs a1 p1 p2 h xx ee) (fun bb2 _ => ?_)
  refine S_if_neB 22 dX5_reason_9 (by decide) (fun c5 => ?_) (fun c5 => ?_)
  · refine S_aload_n 0 dX5_reason_22 rfl rfl ?_
    refine S_getR kc5 (k := 0) (by decide) kw_243 dX5_reason_23 (fun a3 _ => ?_)
    refine S_iload_n 1 dX5_reason_26 rfl rfl ?_
    refine S_iload_n 2 dX5_reason_27 rfl rfl ?_
    refine S_callV_IR (lev' := 2) (My := M_X0_whyNot) [.int p1, .int p2] [] kc0 K_X0_whyNot kw_851 kw_384 kw_385 dX5_reason_28 (by decide) rfl (Nat.le_of_ble_eq_true rfl) (fun xx ee => sm_X0_whyNot hs a3 p1 p2 h xx ee) (fun x4 _ => ?_)
    exact S_ireturn rfl rfl dX5_reason_31
  · exact S_throw2 rfl (by decide +kernel) kw_811 kn_850 kw_821 dX5_reason_12 dX5_reason_15 dX5_reason_16 dX5_reason_18 dX5_reason_21
end
section
variable {l : Launch} {G : Gx}
set_option maxRecDepth 20000 in
set_option maxHeartbeats 4000000 in
theorem ss_X5_falls (hs : l.stackTraces = false) (o : Nat) (p1 : Int32) (h : Hp) : Sim l G 3 M_X5_falls finX 0 [(0, .ref o), (1, .int p1)] [] h (m_X5_falls  o p1 h) := by
  rw [m_X5_falls]
  refine S_aload_n 0 dX5_falls_0 rfl rfl ?_
  refine S_getR kc5 (k := 0) (by decide) kw_243 dX5_falls_1 (fun a1 _ => ?_)
  refine S_iload_n 1 dX5_falls_4 rfl rfl ?_
  refine S_callV_BR (lev' := 0) (My := M_X0_hasVertex) [.int p1] [] kc0 K_X0_hasVertex kw_807 kw_808 kw_809 dX5_falls_5 (by decide) rfl (Nat.le_of_ble_eq_true rfl) (fun xx ee => sm_X0_hasVertex hs a1 p1 h xx ee) (fun bb2 _ => ?_)
  refine S_if_neB 21 dX5_falls_8 (by decide) (fun c10 => ?_) (fun c10 => ?_)
  · refine S_aload_n 0 dX5_falls_21 rfl rfl ?_
    refine S_getR kc5 (k := 0) (by decide) kw_243 dX5_falls_22 (fun a3 _ => ?_)
    refine S_iload_n 1 dX5_falls_25 rfl rfl ?_
    refine S_callV_BR (lev' := 1) (My := M_X0_isFree) [.int p1] [] kc0 K_X0_isFree kw_430 kw_388 kw_389 dX5_falls_26 (by decide) rfl (Nat.le_of_ble_eq_true rfl) (fun xx ee => sm_X0_isFree hs a3 p1 h xx ee) (fun bb4 _ => ?_)
    refine S_if_neB 42 dX5_falls_29 (by decide) (fun c9 => ?_) (fun c9 => ?_)
    · refine S_aload_n 0 dX5_falls_42 rfl rfl ?_
      refine S_getR kc5 (k := 0) (by decide) kw_243 dX5_falls_43 (fun a5 _ => ?_)
      refine S_aload_n 0 dX5_falls_46 rfl rfl ?_
      refine S_getR kc5 (k := 0) (by decide) kw_243 dX5_falls_47 (fun a6 _ => ?_)
      refine S_iload_n 1 dX5_falls_50 rfl rfl ?_
      refine S_callV_IR (lev' := 2) (My := M_X0_partWith) [.int p1] [.ref a5] kc0 K_X0_partWith kw_915 kw_399 kw_400 dX5_falls_51 (by decide) rfl (Nat.le_of_ble_eq_true rfl) (fun xx ee => sm_X0_partWith hs a6 p1 h xx ee) (fun x7 _ => ?_)
      refine S_iconst 1 dX5_falls_54 (by decide) ?_
      refine S_iload_n 1 dX5_falls_55 rfl rfl ?_
      refine S_ishl dX5_falls_56 ?_
      refine S_iconst (-1) dX5_falls_57 (by decide) ?_
      refine S_ixor dX5_falls_58 ?_
      refine S_iand dX5_falls_59 ?_
      refine S_callV_IR (lev' := 2) (My := M_X0_partsIn) [.int (x7 &&& (((1 : Int32) <<< (p1 &&& 31)) ^^^ (-1 : Int32)))] [] kc0 K_X0_partsIn kw_418 kw_419 kw_420 dX5_falls_60 (by decide) rfl (Nat.le_of_ble_eq_true rfl) (fun xx ee => sm_X0_partsIn hs a5 (x7 &&& (((1 : Int32) <<< (p1 &&& 31)) ^^^ (-1 : Int32))) h xx ee) (fun x8 _ => ?_)
      exact S_ireturn rfl rfl dX5_falls_63
    · exact S_throw3 rfl (by decide +kernel) kw_871 kn_914 kw_881 dX5_falls_32 dX5_falls_35 dX5_falls_36 dX5_falls_38 dX5_falls_41
  · exact S_throw2 rfl (by decide +kernel) kw_811 kn_820 kw_821 dX5_falls_11 dX5_falls_14 dX5_falls_15 dX5_falls_17 dX5_falls_20
end
section
variable {l : Launch} {G : Gx}
set_option maxRecDepth 20000 in
set_option maxHeartbeats 4000000 in
theorem sl_X5_writeBoard_L7 (hs : l.stackTraces = false) (u2 : Nat) (k7_55 : Hp → Option (Int32 × Hp)) (hk7_55 : ∀ (h4 : Hp), Sim l G 3 M_X5_writeBoard (fun p : Int32 × Hp => ((.inl (some (.int p.1)) : Oc), p.2)) 55 [(0, .ref u2)] [] h4 (k7_55 h4)) : ∀ (f : Nat) (w3 : Int32) (h : Hp), Sim l G 3 M_X5_writeBoard (fun p : Int32 × Hp => ((.inl (some (.int p.1)) : Oc), p.2)) 7 [(0, .ref u2), (1, .int w3)] [] h (m_X5_writeBoard_L7 u2 k7_55 f w3 h) := by
  intro f
  induction f with
  | zero => intro w3 h; exact S_none rfl
  | succ f ih =>
    intro w3 h
    rw [m_X5_writeBoard_L7]
    refine S_iload_n 1 dX5_writeBoard_7 rfl rfl ?_
    refine S_aload_n 0 dX5_writeBoard_8 rfl rfl ?_
    refine S_getR kc5 (k := 0) (by decide) kw_243 dX5_writeBoard_9 (fun a5 _ => ?_)
    refine S_getI kc0 (k := 2) (by decide) kw_128 dX5_writeBoard_12 (fun x6 _ => ?_)
    refine S_icmp_ge 55 dX5_writeBoard_15 (by decide) (fun c16 => ?_) (fun c16 => ?_)
    · exact Sim.sub [0] rfl (hk7_55 h)
    · refine S_aload_n 0 dX5_writeBoard_18 rfl rfl ?_
      refine S_aload_n 0 dX5_writeBoard_19 rfl rfl ?_
      refine S_getR kc5 (k := 0) (by decide) kw_243 dX5_writeBoard_20 (fun a7 _ => ?_)
      refine S_iload_n 1 dX5_writeBoard_23 rfl rfl ?_
      refine S_callV_BR (lev' := 1) (My := M_X0_isFree) [.int w3] [.ref u2] kc0 K_X0_isFree kw_430 kw_388 kw_389 dX5_writeBoard_24 (by decide) rfl (Nat.le_of_ble_eq_true rfl) (fun xx ee => sm_X0_isFree hs a7 w3 h xx ee) (fun bb8 _ => ?_)
      refine S_jK (fun (k10 : Int32 → Option (Int32 × Hp)) => ∀ (v9 : Int32), Sim l G 3 M_X5_writeBoard (fun p : Int32 × Hp => ((.inl (some (.int p.1)) : Oc), p.2)) 46 [(0, .ref u2), (1, .int w3)] [.int v9, .ref u2] h (k10 v9)) ?_ (fun k10 hk10 => ?_)
      · intro v9
        refine S_callV_VW (lev' := 0) (My := M_X5_write) [.int v9] [] kc5 K_X5_write kw_440 kw_442 kw_8 dX5_writeBoard_46 (by decide) rfl (Nat.le_of_ble_eq_true rfl) (fun xx ee => sm_X5_write hs u2 v9 h xx ee) (fun h11 _ => ?_)
        refine S_iincN (c := 1) 1 (fun x12 => [(1, .int x12), (0, .ref u2)]) dX5_writeBoard_49 rfl (by decide) (Nat.le_of_ble_eq_true rfl) (fun _ => rfl) (fun x12 => ?_)
        refine S_goto 7 dX5_writeBoard_52 (by decide) ?_
        exact Sim.sub [1, 0] rfl (ih x12 h11)
      refine S_if_eqB 35 dX5_writeBoard_27 (by decide) (fun c15 => ?_) (fun c15 => ?_)
      · refine S_bipush 97 dX5_writeBoard_35 (by decide) ?_
        refine S_aload_n 0 dX5_writeBoard_37 rfl rfl ?_
        refine S_getR kc5 (k := 0) (by decide) kw_243 dX5_writeBoard_38 (fun a13 _ => ?_)
        refine S_iload_n 1 dX5_writeBoard_41 rfl rfl ?_
        refine S_callV_IR (lev' := 2) (My := M_X0_colourOf) [.int w3] [.int 97, .ref u2] kc0 K_X0_colourOf kw_431 kw_432 kw_433 dX5_writeBoard_42 (by decide) rfl (Nat.le_of_ble_eq_true rfl) (fun xx ee => sm_X0_colourOf hs a13 w3 h xx ee) (fun x14 _ => ?_)
        refine S_iadd dX5_writeBoard_45 ?_
        exact Sim.sub [0, 1] rfl (hk10 ((97 : Int32) + x14))
      · refine S_bipush 46 dX5_writeBoard_30 (by decide) ?_
        refine S_goto 46 dX5_writeBoard_32 (by decide) ?_
        exact Sim.sub [0, 1] rfl (hk10 (46 : Int32))
set_option maxRecDepth 20000 in
set_option maxHeartbeats 4000000 in
theorem ss_X5_writeBoard (hs : l.stackTraces = false) (o : Nat) (h : Hp) : Sim l G 3 M_X5_writeBoard (fun p : Int32 × Hp => ((.inl (some (.int p.1)) : Oc), p.2)) 0 [(0, .ref o)] [] h (m_X5_writeBoard  o h) := by
  rw [m_X5_writeBoard]
  refine S_aload_n 0 dX5_writeBoard_0 rfl rfl ?_
  refine S_iconst 0 dX5_writeBoard_1 (by decide) ?_
  refine S_put kc5 (k := 6) (by decide) rfl kw_249 rfl rfl dX5_writeBoard_2 (fun h1 _ => ?_)
  refine S_iconst 0 dX5_writeBoard_5 (by decide) ?_
  refine S_istore_n [(1, .int 0), (0, .ref o)] dX5_writeBoard_6 rfl (Nat.le_of_ble_eq_true rfl) rfl ?_
  refine Sim.sub [1, 0] rfl (sl_X5_writeBoard_L7 hs o _ ?_ LF (0 : Int32) h1)
  · intro h4
    refine S_aload_n 0 dX5_writeBoard_55 rfl rfl ?_
    refine S_bipush 47 dX5_writeBoard_56 (by decide) ?_
    refine S_callV_VW (lev' := 0) (My := M_X5_write) [.int 47] [] kc5 K_X5_write kw_440 kw_442 kw_8 dX5_writeBoard_58 (by decide) rfl (Nat.le_of_ble_eq_true rfl) (fun xx ee => sm_X5_write hs o (47 : Int32) h4 xx ee) (fun h17 _ => ?_)
    refine S_aload_n 0 dX5_writeBoard_61 rfl rfl ?_
    refine S_bipush 48 dX5_writeBoard_62 (by decide) ?_
    refine S_aload_n 0 dX5_writeBoard_64 rfl rfl ?_
    refine S_getR kc5 (k := 0) (by decide) kw_243 dX5_writeBoard_65 (fun a18 _ => ?_)
    refine S_callV_IR (lev' := 0) (My := M_X0_turn) [] [.int 48, .ref o] kc0 K_X0_turn kw_444 kw_445 kw_446 dX5_writeBoard_68 (by decide) rfl (Nat.le_of_ble_eq_true rfl) (fun xx ee => sm_X0_turn hs a18 h17 xx ee) (fun x19 _ => ?_)
    refine S_iadd dX5_writeBoard_71 ?_
    refine S_callV_VW (lev' := 0) (My := M_X5_write) [.int ((48 : Int32) + x19)] [] kc5 K_X5_write kw_440 kw_442 kw_8 dX5_writeBoard_72 (by decide) rfl (Nat.le_of_ble_eq_true rfl) (fun xx ee => sm_X5_write hs o ((48 : Int32) + x19) h17 xx ee) (fun h20 _ => ?_)
    refine S_aload_n 0 dX5_writeBoard_75 rfl rfl ?_
    refine S_bipush 47 dX5_writeBoard_76 (by decide) ?_
    refine S_callV_VW (lev' := 0) (My := M_X5_write) [.int 47] [] kc5 K_X5_write kw_440 kw_442 kw_8 dX5_writeBoard_78 (by decide) rfl (Nat.le_of_ble_eq_true rfl) (fun xx ee => sm_X5_write hs o (47 : Int32) h20 xx ee) (fun h21 _ => ?_)
    refine S_aload_n 0 dX5_writeBoard_81 rfl rfl ?_
    refine S_bipush 48 dX5_writeBoard_82 (by decide) ?_
    refine S_aload_n 0 dX5_writeBoard_84 rfl rfl ?_
    refine S_getR kc5 (k := 0) (by decide) kw_243 dX5_writeBoard_85 (fun a22 _ => ?_)
    refine S_getI kc0 (k := 3) (by decide) kw_132 dX5_writeBoard_88 (fun x23 _ => ?_)
    refine S_iadd dX5_writeBoard_91 ?_
    refine S_callV_VW (lev' := 0) (My := M_X5_write) [.int ((48 : Int32) + x23)] [] kc5 K_X5_write kw_440 kw_442 kw_8 dX5_writeBoard_92 (by decide) rfl (Nat.le_of_ble_eq_true rfl) (fun xx ee => sm_X5_write hs o ((48 : Int32) + x23) h21 xx ee) (fun h24 _ => ?_)
    refine S_aload_n 0 dX5_writeBoard_95 rfl rfl ?_
    refine S_getI kc5 (k := 6) (by decide) kw_249 dX5_writeBoard_96 (fun x25 _ => ?_)
    exact S_ireturn rfl rfl dX5_writeBoard_99
theorem sm_X5_writeBoard (hs : l.stackTraces = false) (o : Nat) (h : Hp) : ∀ x h1, m_X5_writeBoard  o h = some (x, h1) → SR l G 3 M_X5_writeBoard [.ref o] h (some (.int x)) h1 := fun x h1 e => SR.of K_X5_writeBoard hs rfl (Nat.le_of_ble_eq_true rfl) (ss_X5_writeBoard hs o h) e rfl
end
