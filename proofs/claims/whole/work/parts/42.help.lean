/-! printed by wip/whole/emit2.py: the helpers of the law -/
def m_L_append (p0 : Nat) (p1 : Int32) (p2 : Int32) (p3 : Int32) (p4 : Int32) (p5 : Int32) (p6 : Nat) (h : Hp) : Option (Int32 × Hp) :=
  cv h 5 p0 <| bX (m_X5_append p0 p1 p2 p3 p4 p5 h) (fun y2 h3 =>
    (sL h3 1 p6 (0 : Int32) (Int32.toInt64 y2)).bind fun h4 =>
    some ((0 : Int32), h4)
  ) fun k5 h6 => if k5 = 0 then some (1, h6) else none
def m_L_load (p0 : Nat) (p1 : Int32) (p2 : Nat) (h : Hp) : Option (Int32 × Hp) :=
  cv h 5 p0 <| bX (m_X5_load p0 p1 h) (fun y2 h3 =>
    (sL h3 1 p2 (0 : Int32) (Int32.toInt64 y2)).bind fun h4 =>
    some ((0 : Int32), h4)
  ) fun k5 h6 => if k5 = 1 then some (1, h6) else none
def m_L_count (p0 : Nat) (p1 : Int32) (p2 : Nat) (h : Hp) : Option (Int32 × Hp) :=
  cv h 5 p0 <| bX (m_X5_count p0 p1 h) (fun y2 h3 =>
    (sL h3 1 p2 (0 : Int32) (Int32.toInt64 y2)).bind fun h4 =>
    some ((0 : Int32), h4)
  ) fun k5 h6 => if k5 = 1 then some (1, h6) else none
def m_L_vertex (p0 : Nat) (p1 : Int32) (p2 : Int32) (p3 : Nat) (h : Hp) : Option (Int32 × Hp) :=
  cv h 5 p0 <| bX (m_X5_vertex p0 p1 p2 h) (fun y2 h3 =>
    (sL h3 1 p3 (0 : Int32) (Int32.toInt64 y2)).bind fun h4 =>
    some ((0 : Int32), h4)
  ) fun k5 h6 => if k5 = 2 then some (1, h6) else if k5 = 1 then some (2, h6) else none
def m_L_reason (p0 : Nat) (p1 : Int32) (p2 : Int32) (p3 : Nat) (h : Hp) : Option (Int32 × Hp) :=
  cv h 5 p0 <| bX (m_X5_reason p0 p1 p2 h) (fun y2 h3 =>
    (sL h3 1 p3 (0 : Int32) (Int32.toInt64 y2)).bind fun h4 =>
    some ((0 : Int32), h4)
  ) fun k5 h6 => if k5 = 2 then some (1, h6) else none
def m_L_part (p0 : Nat) (p1 : Int32) (p2 : Int32) (p3 : Nat) (h : Hp) : Option (Int32 × Hp) :=
  cv h 5 p0 <| bX (m_X5_part p0 p1 p2 h) (fun y2 h3 =>
    (sL h3 1 p3 (0 : Int32) (Int32.toInt64 y2)).bind fun h4 =>
    some ((0 : Int32), h4)
  ) fun k5 h6 => if k5 = 2 then some (1, h6) else if k5 = 1 then some (2, h6) else none
def m_L_valueIf (p0 : Nat) (p1 : Int32) (p2 : Int32) (p3 : Nat) (h : Hp) : Option (Int32 × Hp) :=
  cv h 5 p0 <| bX (m_X5_valueIf p0 p1 p2 h) (fun y2 h3 =>
    (sL h3 1 p3 (0 : Int32) (Int32.toInt64 y2)).bind fun h4 =>
    some ((0 : Int32), h4)
  ) fun k5 h6 => if k5 = 2 then some (1, h6) else if k5 = 3 then some (2, h6) else none
def m_L_bestMove (p0 : Nat) (p1 : Nat) (h : Hp) : Option (Int32 × Hp) :=
  cv h 5 p0 <| bX (m_X5_bestMove p0 h) (fun y2 h3 =>
    (sL h3 1 p1 (0 : Int32) (Int32.toInt64 y2)).bind fun h4 =>
    some ((0 : Int32), h4)
  ) fun k5 h6 => if k5 = 3 then some (1, h6) else none
def m_L_winningColours (p0 : Nat) (p1 : Int32) (p2 : Nat) (h : Hp) : Option (Int32 × Hp) :=
  cv h 5 p0 <| bX (m_X5_winningColours p0 p1 h) (fun y2 h3 =>
    (sL h3 1 p2 (0 : Int32) (Int32.toInt64 y2)).bind fun h4 =>
    some ((0 : Int32), h4)
  ) fun k5 h6 => if k5 = 2 then some (1, h6) else none
def m_L_falls (p0 : Nat) (p1 : Int32) (p2 : Nat) (h : Hp) : Option (Int32 × Hp) :=
  cv h 5 p0 <| bX (m_X5_falls p0 p1 h) (fun y2 h3 =>
    (sL h3 1 p2 (0 : Int32) (Int32.toInt64 y2)).bind fun h4 =>
    some ((0 : Int32), h4)
  ) fun k5 h6 => if k5 = 2 then some (1, h6) else if k5 = 3 then some (2, h6) else none
def m_L_valueWithout (p0 : Nat) (p1 : Int32) (p2 : Nat) (h : Hp) : Option (Int32 × Hp) :=
  cv h 5 p0 <| bX (m_X5_valueWithout p0 p1 h) (fun y2 h3 =>
    (sL h3 1 p2 (0 : Int32) (Int32.toInt64 y2)).bind fun h4 =>
    some ((0 : Int32), h4)
  ) fun k5 h6 => if k5 = 2 then some (1, h6) else if k5 = 3 then some (2, h6) else none
def m_L_lay (p0 : Nat) (p1 : Int32) (p2 : Int32) (p3 : Nat) (h : Hp) : Option (Int32 × Hp) :=
  cv h 5 p0 <| bX (m_X5_lay p0 p1 p2 h) (fun y2 h3 =>
    (sL h3 1 p3 (0 : Int32) (Int32.toInt64 y2)).bind fun h4 =>
    some ((0 : Int32), h4)
  ) fun k5 h6 => if k5 = 2 then some (1, h6) else if k5 = 0 then some (2, h6) else none
def m_L_pass (p0 : Nat) (p1 : Nat) (h : Hp) : Option (Int32 × Hp) :=
  cv h 5 p0 <| bX (m_X5_pass p0 h) (fun y2 h3 =>
    (sL h3 1 p1 (0 : Int32) (Int32.toInt64 y2)).bind fun h4 =>
    some ((0 : Int32), h4)
  ) fun k5 h6 => if k5 = 0 then some (1, h6) else none
def m_L_playOut (p0 : Nat) (p1 : Int32) (p2 : Nat) (h : Hp) : Option (Int32 × Hp) :=
  cv h 5 p0 <| bX (m_X5_playOut p0 p1 h) (fun y2 h3 =>
    (sL h3 1 p2 (0 : Int32) (Int32.toInt64 y2)).bind fun h4 =>
    some ((0 : Int32), h4)
  ) fun k5 h6 => if k5 = 1 then some (1, h6) else none
def m_L_setPasses (p0 : Nat) (p1 : Int32) (p2 : Nat) (h : Hp) : Option (Int32 × Hp) :=
  cv h 5 p0 <| bX (m_X5_setPasses p0 p1 h) (fun y2 h3 =>
    (sL h3 1 p2 (0 : Int32) (Int32.toInt64 y2)).bind fun h4 =>
    some ((0 : Int32), h4)
  ) fun k5 h6 => if k5 = 1 then some (1, h6) else none
def m_L_move (p0 : Nat) (p1 : Int32) (p2 : Int32) (p3 : Nat) (h : Hp) : Option (Int32 × Hp) :=
  cv h 5 p0 <| bX (m_X5_move p0 p1 p2 h) (fun y2 h3 =>
    (sL h3 1 p3 (0 : Int32) (Int32.toInt64 y2)).bind fun h4 =>
    some ((0 : Int32), h4)
  ) fun k5 h6 => if k5 = 2 then some (1, h6) else if k5 = 1 then some (2, h6) else none
def m_L_account (p0 : Nat) (p1 : Int32) (p2 : Int32) (p3 : Nat) (h : Hp) : Option (Int32 × Hp) :=
  cv h 5 p0 <| bX (m_X5_account p0 p1 p2 h) (fun y2 h3 =>
    (sL h3 1 p3 (0 : Int32) (Int32.toInt64 y2)).bind fun h4 =>
    some ((0 : Int32), h4)
  ) fun k5 h6 => if k5 = 2 then some (1, h6) else if k5 = 1 then some (2, h6) else none
def m_L_writtenByte (p0 : Nat) (p1 : Int32) (p2 : Nat) (h : Hp) : Option (Int32 × Hp) :=
  cv h 5 p0 <| bX (m_X5_writtenByte p0 p1 h) (fun y2 h3 =>
    (sL h3 1 p2 (0 : Int32) (Int32.toInt64 y2)).bind fun h4 =>
    some ((0 : Int32), h4)
  ) fun k5 h6 => if k5 = 2 then some (1, h6) else none
def m_L_undo (p0 : Nat) (p1 : Nat) (h : Hp) : Option (Int32 × Hp) :=
  cv h 5 p0 <| bX (m_X5_undo p0 h) (fun y2 h3 =>
    (sL h3 1 p1 (0 : Int32) (Int32.toInt64 y2)).bind fun h4 =>
    some ((0 : Int32), h4)
  ) fun k5 h6 => if k5 = 0 then some (1, h6) else none
def m_L_save (p0 : Nat) (p1 : Int32) (p2 : Nat) (h : Hp) : Option (Int32 × Hp) :=
  cv h 5 p0 <| bX (m_X5_save p0 p1 h) (fun y2 h3 =>
    (sL h3 1 p2 (0 : Int32) (Int32.toInt64 y2)).bind fun h4 =>
    some ((0 : Int32), h4)
  ) fun k5 h6 => if k5 = 2 then some (1, h6) else none
def m_L_restore (p0 : Nat) (p1 : Int32) (p2 : Nat) (h : Hp) : Option (Int32 × Hp) :=
  cv h 5 p0 <| bX (m_X5_restore p0 p1 h) (fun y2 h3 =>
    (sL h3 1 p2 (0 : Int32) (Int32.toInt64 y2)).bind fun h4 =>
    some ((0 : Int32), h4)
  ) fun k5 h6 => if k5 = 2 then some (1, h6) else if k5 = 0 then some (2, h6) else none
section
variable {l : Launch} {G : Gx}
set_option maxRecDepth 20000 in
set_option maxHeartbeats 4000000 in
theorem ss_L_append (hs : l.stackTraces = false) (p0 : Nat) (p1 : Int32) (p2 : Int32) (p3 : Int32) (p4 : Int32) (p5 : Int32) (p6 : Nat) (h : Hp) : Sim l G 2 M_L_append (fun p : Int32 × Hp => ((.inl (some (.int p.1)) : Oc), p.2)) 0 [(0, .ref p0), (1, .int p1), (2, .int p2), (3, .int p3), (4, .int p4), (5, .int p5), (6, .ref p6)] [] h (m_L_append  p0 p1 p2 p3 p4 p5 p6 h) := by
  rw [m_L_append]
  refine S_aload 6 dL_append_0 rfl ?_
  refine S_iconst 0 dL_append_2 (by decide) ?_
  refine S_aload_n 0 dL_append_3 rfl rfl ?_
  refine S_iload_n 1 dL_append_4 rfl rfl ?_
  refine S_iload_n 2 dL_append_5 rfl rfl ?_
  refine S_iload_n 3 dL_append_6 rfl rfl ?_
  refine S_iload 4 dL_append_7 rfl ?_
  refine S_iload 5 dL_append_9 rfl ?_
  refine S_callVX (lev' := 1) (My := M_X5_append) [.int p1, .int p2, .int p3, .int p4, .int p5] [.int 0, .ref p6] kc5 K_X5_append kw_452 kw_453 kw_454 dL_append_11 (by decide) rfl (Nat.le_of_ble_eq_true rfl) (fun xx ee => sx_X5_append hs p0 p1 p2 p3 p4 p5 h xx ee) (fun y2 h3 => ?_) (fun k5 h6 => ?_)
  · refine S_i2l dL_append_14 ?_
    refine S_lastore dL_append_15 (fun h4 _ => ?_)
    refine S_goto 23 dL_append_16 (by decide) ?_
    refine S_iconst 0 dL_append_23 (by decide) ?_
    exact S_ireturn rfl rfl dL_append_24
  · exact S_hx1 rfl rfl (by decide) kw_451 kn_458 (S_hst dL_append_19 (Nat.le_of_ble_eq_true rfl) (S_iconst 1 dL_append_21 (by decide) (S_ireturn rfl rfl dL_append_22)))
theorem sm_L_append (hs : l.stackTraces = false) (p0 : Nat) (p1 : Int32) (p2 : Int32) (p3 : Int32) (p4 : Int32) (p5 : Int32) (p6 : Nat) (h : Hp) : ∀ x h1, m_L_append p0 p1 p2 p3 p4 p5 p6 h = some (x, h1) → SH l G 2 M_L_append [.ref p0, .int p1, .int p2, .int p3, .int p4, .int p5, .ref p6] h (some (.int x)) h1 := fun x h1 e => SH.of K_L_append hs rfl (Nat.le_of_ble_eq_true rfl) (ss_L_append hs p0 p1 p2 p3 p4 p5 p6 h) e rfl
end
section
variable {l : Launch} {G : Gx}
set_option maxRecDepth 20000 in
set_option maxHeartbeats 4000000 in
theorem ss_L_load (hs : l.stackTraces = false) (p0 : Nat) (p1 : Int32) (p2 : Nat) (h : Hp) : Sim l G 14 M_L_load (fun p : Int32 × Hp => ((.inl (some (.int p.1)) : Oc), p.2)) 0 [(0, .ref p0), (1, .int p1), (2, .ref p2)] [] h (m_L_load  p0 p1 p2 h) := by
  rw [m_L_load]
  refine S_aload_n 2 dL_load_0 rfl rfl ?_
  refine S_iconst 0 dL_load_1 (by decide) ?_
  refine S_aload_n 0 dL_load_2 rfl rfl ?_
  refine S_iload_n 1 dL_load_3 rfl rfl ?_
  refine S_callVX (lev' := 13) (My := M_X5_load) [.int p1] [.int 0, .ref p2] kc5 K_X5_load kw_532 kw_533 kw_534 dL_load_4 (by decide) rfl (Nat.le_of_ble_eq_true rfl) (fun xx ee => sx_X5_load hs p0 p1 h xx ee) (fun y2 h3 => ?_) (fun k5 h6 => ?_)
  · refine S_i2l dL_load_7 ?_
    refine S_lastore dL_load_8 (fun h4 _ => ?_)
    refine S_goto 15 dL_load_9 (by decide) ?_
    refine S_iconst 0 dL_load_15 (by decide) ?_
    exact S_ireturn rfl rfl dL_load_16
  · exact S_hx1 rfl rfl (by decide) kw_531 kn_538 (S_hst_n dL_load_12 rfl (Nat.le_of_ble_eq_true rfl) (S_iconst 1 dL_load_13 (by decide) (S_ireturn rfl rfl dL_load_14)))
theorem sm_L_load (hs : l.stackTraces = false) (p0 : Nat) (p1 : Int32) (p2 : Nat) (h : Hp) : ∀ x h1, m_L_load p0 p1 p2 h = some (x, h1) → SH l G 14 M_L_load [.ref p0, .int p1, .ref p2] h (some (.int x)) h1 := fun x h1 e => SH.of K_L_load hs rfl (Nat.le_of_ble_eq_true rfl) (ss_L_load hs p0 p1 p2 h) e rfl
end
section
variable {l : Launch} {G : Gx}
set_option maxRecDepth 20000 in
set_option maxHeartbeats 4000000 in
theorem ss_L_count (hs : l.stackTraces = false) (p0 : Nat) (p1 : Int32) (p2 : Nat) (h : Hp) : Sim l G 7 M_L_count (fun p : Int32 × Hp => ((.inl (some (.int p.1)) : Oc), p.2)) 0 [(0, .ref p0), (1, .int p1), (2, .ref p2)] [] h (m_L_count  p0 p1 p2 h) := by
  rw [m_L_count]
  refine S_aload_n 2 dL_count_0 rfl rfl ?_
  refine S_iconst 0 dL_count_1 (by decide) ?_
  refine S_aload_n 0 dL_count_2 rfl rfl ?_
  refine S_iload_n 1 dL_count_3 rfl rfl ?_
  refine S_callVX (lev' := 6) (My := M_X5_count) [.int p1] [.int 0, .ref p2] kc5 K_X5_count kw_772 kw_773 kw_774 dL_count_4 (by decide) rfl (Nat.le_of_ble_eq_true rfl) (fun xx ee => sx_X5_count hs p0 p1 h xx ee) (fun y2 h3 => ?_) (fun k5 h6 => ?_)
  · refine S_i2l dL_count_7 ?_
    refine S_lastore dL_count_8 (fun h4 _ => ?_)
    refine S_goto 15 dL_count_9 (by decide) ?_
    refine S_iconst 0 dL_count_15 (by decide) ?_
    exact S_ireturn rfl rfl dL_count_16
  · exact S_hx1 rfl rfl (by decide) kw_531 kn_538 (S_hst_n dL_count_12 rfl (Nat.le_of_ble_eq_true rfl) (S_iconst 1 dL_count_13 (by decide) (S_ireturn rfl rfl dL_count_14)))
theorem sm_L_count (hs : l.stackTraces = false) (p0 : Nat) (p1 : Int32) (p2 : Nat) (h : Hp) : ∀ x h1, m_L_count p0 p1 p2 h = some (x, h1) → SH l G 7 M_L_count [.ref p0, .int p1, .ref p2] h (some (.int x)) h1 := fun x h1 e => SH.of K_L_count hs rfl (Nat.le_of_ble_eq_true rfl) (ss_L_count hs p0 p1 p2 h) e rfl
end
section
variable {l : Launch} {G : Gx}
set_option maxRecDepth 20000 in
set_option maxHeartbeats 4000000 in
theorem ss_L_vertex (hs : l.stackTraces = false) (p0 : Nat) (p1 : Int32) (p2 : Int32) (p3 : Nat) (h : Hp) : Sim l G 5 M_L_vertex (fun p : Int32 × Hp => ((.inl (some (.int p.1)) : Oc), p.2)) 0 [(0, .ref p0), (1, .int p1), (2, .int p2), (3, .ref p3)] [] h (m_L_vertex  p0 p1 p2 p3 h) := by
  rw [m_L_vertex]
  refine S_aload_n 3 dL_vertex_0 rfl rfl ?_
  refine S_iconst 0 dL_vertex_1 (by decide) ?_
  refine S_aload_n 0 dL_vertex_2 rfl rfl ?_
  refine S_iload_n 1 dL_vertex_3 rfl rfl ?_
  refine S_iload_n 2 dL_vertex_4 rfl rfl ?_
  refine S_callVX (lev' := 4) (My := M_X5_vertex) [.int p1, .int p2] [.int 0, .ref p3] kc5 K_X5_vertex kw_803 kw_804 kw_805 dL_vertex_5 (by decide) rfl (Nat.le_of_ble_eq_true rfl) (fun xx ee => sx_X5_vertex hs p0 p1 p2 h xx ee) (fun y2 h3 => ?_) (fun k5 h6 => ?_)
  · refine S_i2l dL_vertex_8 ?_
    refine S_lastore dL_vertex_9 (fun h4 _ => ?_)
    refine S_goto 21 dL_vertex_10 (by decide) ?_
    refine S_iconst 0 dL_vertex_21 (by decide) ?_
    exact S_ireturn rfl rfl dL_vertex_22
  · exact S_hx2 rfl rfl rfl (by decide) (by decide) kw_802 kw_531 kn_813 kn_538 (by decide) (S_hst dL_vertex_13 (Nat.le_of_ble_eq_true rfl) (S_iconst 1 dL_vertex_15 (by decide) (S_ireturn rfl rfl dL_vertex_16))) (S_hst dL_vertex_17 (Nat.le_of_ble_eq_true rfl) (S_iconst 2 dL_vertex_19 (by decide) (S_ireturn rfl rfl dL_vertex_20)))
theorem sm_L_vertex (hs : l.stackTraces = false) (p0 : Nat) (p1 : Int32) (p2 : Int32) (p3 : Nat) (h : Hp) : ∀ x h1, m_L_vertex p0 p1 p2 p3 h = some (x, h1) → SH l G 5 M_L_vertex [.ref p0, .int p1, .int p2, .ref p3] h (some (.int x)) h1 := fun x h1 e => SH.of K_L_vertex hs rfl (Nat.le_of_ble_eq_true rfl) (ss_L_vertex hs p0 p1 p2 p3 h) e rfl
end
section
variable {l : Launch} {G : Gx}
set_option maxRecDepth 20000 in
set_option maxHeartbeats 4000000 in
theorem ss_L_reason (hs : l.stackTraces = false) (p0 : Nat) (p1 : Int32) (p2 : Int32) (p3 : Nat) (h : Hp) : Sim l G 4 M_L_reason (fun p : Int32 × Hp => ((.inl (some (.int p.1)) : Oc), p.2)) 0 [(0, .ref p0), (1, .int p1), (2, .int p2), (3, .ref p3)] [] h (m_L_reason  p0 p1 p2 p3 h) := by
  rw [m_L_reason]
  refine S_aload_n 3 dL_reason_0 rfl rfl ?_
  refine S_iconst 0 dL_reason_1 (by decide) ?_
  refine S_aload_n 0 dL_reason_2 rfl rfl ?_
  refine S_iload_n 1 dL_reason_3 rfl rfl ?_
  refine S_iload_n 2 dL_reason_4 rfl rfl ?_
  refine S_callVX (lev' := 3) (My := M_X5_reason) [.int p1, .int p2] [.int 0, .ref p3] kc5 K_X5_reason kw_841 kw_842 kw_843 dL_reason_5 (by decide) rfl (Nat.le_of_ble_eq_true rfl) (fun xx ee => sx_X5_reason hs p0 p1 p2 h xx ee) (fun y2 h3 => ?_) (fun k5 h6 => ?_)
  · refine S_i2l dL_reason_8 ?_
    refine S_lastore dL_reason_9 (fun h4 _ => ?_)
    refine S_goto 17 dL_reason_10 (by decide) ?_
    refine S_iconst 0 dL_reason_17 (by decide) ?_
    exact S_ireturn rfl rfl dL_reason_18
  · exact S_hx1 rfl rfl (by decide) kw_802 kn_813 (S_hst dL_reason_13 (Nat.le_of_ble_eq_true rfl) (S_iconst 1 dL_reason_15 (by decide) (S_ireturn rfl rfl dL_reason_16)))
theorem sm_L_reason (hs : l.stackTraces = false) (p0 : Nat) (p1 : Int32) (p2 : Int32) (p3 : Nat) (h : Hp) : ∀ x h1, m_L_reason p0 p1 p2 p3 h = some (x, h1) → SH l G 4 M_L_reason [.ref p0, .int p1, .int p2, .ref p3] h (some (.int x)) h1 := fun x h1 e => SH.of K_L_reason hs rfl (Nat.le_of_ble_eq_true rfl) (ss_L_reason hs p0 p1 p2 p3 h) e rfl
end
section
variable {l : Launch} {G : Gx}
set_option maxRecDepth 20000 in
set_option maxHeartbeats 4000000 in
theorem ss_L_part (hs : l.stackTraces = false) (p0 : Nat) (p1 : Int32) (p2 : Int32) (p3 : Nat) (h : Hp) : Sim l G 185 M_L_part (fun p : Int32 × Hp => ((.inl (some (.int p.1)) : Oc), p.2)) 0 [(0, .ref p0), (1, .int p1), (2, .int p2), (3, .ref p3)] [] h (m_L_part  p0 p1 p2 p3 h) := by
  rw [m_L_part]
  refine S_aload_n 3 dL_part_0 rfl rfl ?_
  refine S_iconst 0 dL_part_1 (by decide) ?_
  refine S_aload_n 0 dL_part_2 rfl rfl ?_
  refine S_iload_n 1 dL_part_3 rfl rfl ?_
  refine S_iload_n 2 dL_part_4 rfl rfl ?_
  refine S_callVX (lev' := 184) (My := M_X5_part) [.int p1, .int p2] [.int 0, .ref p3] kc5 K_X5_part kw_855 kw_856 kw_857 dL_part_5 (by decide) rfl (Nat.le_of_ble_eq_true rfl) (fun xx ee => sx_X5_part hs p0 p1 p2 h xx ee) (fun y2 h3 => ?_) (fun k5 h6 => ?_)
  · refine S_i2l dL_part_8 ?_
    refine S_lastore dL_part_9 (fun h4 _ => ?_)
    refine S_goto 21 dL_part_10 (by decide) ?_
    refine S_iconst 0 dL_part_21 (by decide) ?_
    exact S_ireturn rfl rfl dL_part_22
  · exact S_hx2 rfl rfl rfl (by decide) (by decide) kw_802 kw_531 kn_813 kn_538 (by decide) (S_hst dL_part_13 (Nat.le_of_ble_eq_true rfl) (S_iconst 1 dL_part_15 (by decide) (S_ireturn rfl rfl dL_part_16))) (S_hst dL_part_17 (Nat.le_of_ble_eq_true rfl) (S_iconst 2 dL_part_19 (by decide) (S_ireturn rfl rfl dL_part_20)))
theorem sm_L_part (hs : l.stackTraces = false) (p0 : Nat) (p1 : Int32) (p2 : Int32) (p3 : Nat) (h : Hp) : ∀ x h1, m_L_part p0 p1 p2 p3 h = some (x, h1) → SH l G 185 M_L_part [.ref p0, .int p1, .int p2, .ref p3] h (some (.int x)) h1 := fun x h1 e => SH.of K_L_part hs rfl (Nat.le_of_ble_eq_true rfl) (ss_L_part hs p0 p1 p2 p3 h) e rfl
end
section
variable {l : Launch} {G : Gx}
set_option maxRecDepth 20000 in
set_option maxHeartbeats 4000000 in
theorem ss_L_valueIf (hs : l.stackTraces = false) (p0 : Nat) (p1 : Int32) (p2 : Int32) (p3 : Nat) (h : Hp) : Sim l G 186 M_L_valueIf (fun p : Int32 × Hp => ((.inl (some (.int p.1)) : Oc), p.2)) 0 [(0, .ref p0), (1, .int p1), (2, .int p2), (3, .ref p3)] [] h (m_L_valueIf  p0 p1 p2 p3 h) := by
  rw [m_L_valueIf]
  refine S_aload_n 3 dL_valueIf_0 rfl rfl ?_
  refine S_iconst 0 dL_valueIf_1 (by decide) ?_
  refine S_aload_n 0 dL_valueIf_2 rfl rfl ?_
  refine S_iload_n 1 dL_valueIf_3 rfl rfl ?_
  refine S_iload_n 2 dL_valueIf_4 rfl rfl ?_
  refine S_callVX (lev' := 185) (My := M_X5_valueIf) [.int p1, .int p2] [.int 0, .ref p3] kc5 K_X5_valueIf kw_867 kw_868 kw_869 dL_valueIf_5 (by decide) rfl (Nat.le_of_ble_eq_true rfl) (fun xx ee => sx_X5_valueIf hs p0 p1 p2 h xx ee) (fun y2 h3 => ?_) (fun k5 h6 => ?_)
  · refine S_i2l dL_valueIf_8 ?_
    refine S_lastore dL_valueIf_9 (fun h4 _ => ?_)
    refine S_goto 21 dL_valueIf_10 (by decide) ?_
    refine S_iconst 0 dL_valueIf_21 (by decide) ?_
    exact S_ireturn rfl rfl dL_valueIf_22
  · exact S_hx2 rfl rfl rfl (by decide) (by decide) kw_802 kw_866 kn_813 kn_873 (by decide) (S_hst dL_valueIf_13 (Nat.le_of_ble_eq_true rfl) (S_iconst 1 dL_valueIf_15 (by decide) (S_ireturn rfl rfl dL_valueIf_16))) (S_hst dL_valueIf_17 (Nat.le_of_ble_eq_true rfl) (S_iconst 2 dL_valueIf_19 (by decide) (S_ireturn rfl rfl dL_valueIf_20)))
theorem sm_L_valueIf (hs : l.stackTraces = false) (p0 : Nat) (p1 : Int32) (p2 : Int32) (p3 : Nat) (h : Hp) : ∀ x h1, m_L_valueIf p0 p1 p2 p3 h = some (x, h1) → SH l G 186 M_L_valueIf [.ref p0, .int p1, .int p2, .ref p3] h (some (.int x)) h1 := fun x h1 e => SH.of K_L_valueIf hs rfl (Nat.le_of_ble_eq_true rfl) (ss_L_valueIf hs p0 p1 p2 p3 h) e rfl
end
section
variable {l : Launch} {G : Gx}
set_option maxRecDepth 20000 in
set_option maxHeartbeats 4000000 in
theorem ss_L_bestMove (hs : l.stackTraces = false) (p0 : Nat) (p1 : Nat) (h : Hp) : Sim l G 187 M_L_bestMove (fun p : Int32 × Hp => ((.inl (some (.int p.1)) : Oc), p.2)) 0 [(0, .ref p0), (1, .ref p1)] [] h (m_L_bestMove  p0 p1 h) := by
  rw [m_L_bestMove]
  refine S_aload_n 1 dL_bestMove_0 rfl rfl ?_
  refine S_iconst 0 dL_bestMove_1 (by decide) ?_
  refine S_aload_n 0 dL_bestMove_2 rfl rfl ?_
  refine S_callVX (lev' := 186) (My := M_X5_bestMove) [] [.int 0, .ref p1] kc5 K_X5_bestMove kw_890 kw_891 kw_892 dL_bestMove_3 (by decide) rfl (Nat.le_of_ble_eq_true rfl) (fun xx ee => sx_X5_bestMove hs p0 h xx ee) (fun y2 h3 => ?_) (fun k5 h6 => ?_)
  · refine S_i2l dL_bestMove_6 ?_
    refine S_lastore dL_bestMove_7 (fun h4 _ => ?_)
    refine S_goto 14 dL_bestMove_8 (by decide) ?_
    refine S_iconst 0 dL_bestMove_14 (by decide) ?_
    exact S_ireturn rfl rfl dL_bestMove_15
  · exact S_hx1 rfl rfl (by decide) kw_866 kn_873 (S_hst_n dL_bestMove_11 rfl (Nat.le_of_ble_eq_true rfl) (S_iconst 1 dL_bestMove_12 (by decide) (S_ireturn rfl rfl dL_bestMove_13)))
theorem sm_L_bestMove (hs : l.stackTraces = false) (p0 : Nat) (p1 : Nat) (h : Hp) : ∀ x h1, m_L_bestMove p0 p1 h = some (x, h1) → SH l G 187 M_L_bestMove [.ref p0, .ref p1] h (some (.int x)) h1 := fun x h1 e => SH.of K_L_bestMove hs rfl (Nat.le_of_ble_eq_true rfl) (ss_L_bestMove hs p0 p1 h) e rfl
end
section
variable {l : Launch} {G : Gx}
set_option maxRecDepth 20000 in
set_option maxHeartbeats 4000000 in
theorem ss_L_winningColours (hs : l.stackTraces = false) (p0 : Nat) (p1 : Int32) (p2 : Nat) (h : Hp) : Sim l G 187 M_L_winningColours (fun p : Int32 × Hp => ((.inl (some (.int p.1)) : Oc), p.2)) 0 [(0, .ref p0), (1, .int p1), (2, .ref p2)] [] h (m_L_winningColours  p0 p1 p2 h) := by
  rw [m_L_winningColours]
  refine S_aload_n 2 dL_winningColours_0 rfl rfl ?_
  refine S_iconst 0 dL_winningColours_1 (by decide) ?_
  refine S_aload_n 0 dL_winningColours_2 rfl rfl ?_
  refine S_iload_n 1 dL_winningColours_3 rfl rfl ?_
  refine S_callVX (lev' := 186) (My := M_X5_winningColours) [.int p1] [.int 0, .ref p2] kc5 K_X5_winningColours kw_903 kw_904 kw_905 dL_winningColours_4 (by decide) rfl (Nat.le_of_ble_eq_true rfl) (fun xx ee => sx_X5_winningColours hs p0 p1 h xx ee) (fun y2 h3 => ?_) (fun k5 h6 => ?_)
  · refine S_i2l dL_winningColours_7 ?_
    refine S_lastore dL_winningColours_8 (fun h4 _ => ?_)
    refine S_goto 15 dL_winningColours_9 (by decide) ?_
    refine S_iconst 0 dL_winningColours_15 (by decide) ?_
    exact S_ireturn rfl rfl dL_winningColours_16
  · exact S_hx1 rfl rfl (by decide) kw_802 kn_813 (S_hst_n dL_winningColours_12 rfl (Nat.le_of_ble_eq_true rfl) (S_iconst 1 dL_winningColours_13 (by decide) (S_ireturn rfl rfl dL_winningColours_14)))
theorem sm_L_winningColours (hs : l.stackTraces = false) (p0 : Nat) (p1 : Int32) (p2 : Nat) (h : Hp) : ∀ x h1, m_L_winningColours p0 p1 p2 h = some (x, h1) → SH l G 187 M_L_winningColours [.ref p0, .int p1, .ref p2] h (some (.int x)) h1 := fun x h1 e => SH.of K_L_winningColours hs rfl (Nat.le_of_ble_eq_true rfl) (ss_L_winningColours hs p0 p1 p2 h) e rfl
end
section
variable {l : Launch} {G : Gx}
set_option maxRecDepth 20000 in
set_option maxHeartbeats 4000000 in
theorem ss_L_falls (hs : l.stackTraces = false) (p0 : Nat) (p1 : Int32) (p2 : Nat) (h : Hp) : Sim l G 4 M_L_falls (fun p : Int32 × Hp => ((.inl (some (.int p.1)) : Oc), p.2)) 0 [(0, .ref p0), (1, .int p1), (2, .ref p2)] [] h (m_L_falls  p0 p1 p2 h) := by
  rw [m_L_falls]
  refine S_aload_n 2 dL_falls_0 rfl rfl ?_
  refine S_iconst 0 dL_falls_1 (by decide) ?_
  refine S_aload_n 0 dL_falls_2 rfl rfl ?_
  refine S_iload_n 1 dL_falls_3 rfl rfl ?_
  refine S_callVX (lev' := 3) (My := M_X5_falls) [.int p1] [.int 0, .ref p2] kc5 K_X5_falls kw_910 kw_911 kw_912 dL_falls_4 (by decide) rfl (Nat.le_of_ble_eq_true rfl) (fun xx ee => sx_X5_falls hs p0 p1 h xx ee) (fun y2 h3 => ?_) (fun k5 h6 => ?_)
  · refine S_i2l dL_falls_7 ?_
    refine S_lastore dL_falls_8 (fun h4 _ => ?_)
    refine S_goto 18 dL_falls_9 (by decide) ?_
    refine S_iconst 0 dL_falls_18 (by decide) ?_
    exact S_ireturn rfl rfl dL_falls_19
  · exact S_hx2 rfl rfl rfl (by decide) (by decide) kw_802 kw_866 kn_813 kn_873 (by decide) (S_hst_n dL_falls_12 rfl (Nat.le_of_ble_eq_true rfl) (S_iconst 1 dL_falls_13 (by decide) (S_ireturn rfl rfl dL_falls_14))) (S_hst_n dL_falls_15 rfl (Nat.le_of_ble_eq_true rfl) (S_iconst 2 dL_falls_16 (by decide) (S_ireturn rfl rfl dL_falls_17)))
theorem sm_L_falls (hs : l.stackTraces = false) (p0 : Nat) (p1 : Int32) (p2 : Nat) (h : Hp) : ∀ x h1, m_L_falls p0 p1 p2 h = some (x, h1) → SH l G 4 M_L_falls [.ref p0, .int p1, .ref p2] h (some (.int x)) h1 := fun x h1 e => SH.of K_L_falls hs rfl (Nat.le_of_ble_eq_true rfl) (ss_L_falls hs p0 p1 p2 h) e rfl
end
section
variable {l : Launch} {G : Gx}
set_option maxRecDepth 20000 in
set_option maxHeartbeats 4000000 in
theorem ss_L_valueWithout (hs : l.stackTraces = false) (p0 : Nat) (p1 : Int32) (p2 : Nat) (h : Hp) : Sim l G 186 M_L_valueWithout (fun p : Int32 × Hp => ((.inl (some (.int p.1)) : Oc), p.2)) 0 [(0, .ref p0), (1, .int p1), (2, .ref p2)] [] h (m_L_valueWithout  p0 p1 p2 h) := by
  rw [m_L_valueWithout]
  refine S_aload_n 2 dL_valueWithout_0 rfl rfl ?_
  refine S_iconst 0 dL_valueWithout_1 (by decide) ?_
  refine S_aload_n 0 dL_valueWithout_2 rfl rfl ?_
  refine S_iload_n 1 dL_valueWithout_3 rfl rfl ?_
  refine S_callVX (lev' := 185) (My := M_X5_valueWithout) [.int p1] [.int 0, .ref p2] kc5 K_X5_valueWithout kw_919 kw_920 kw_921 dL_valueWithout_4 (by decide) rfl (Nat.le_of_ble_eq_true rfl) (fun xx ee => sx_X5_valueWithout hs p0 p1 h xx ee) (fun y2 h3 => ?_) (fun k5 h6 => ?_)
  · refine S_i2l dL_valueWithout_7 ?_
    refine S_lastore dL_valueWithout_8 (fun h4 _ => ?_)
    refine S_goto 18 dL_valueWithout_9 (by decide) ?_
    refine S_iconst 0 dL_valueWithout_18 (by decide) ?_
    exact S_ireturn rfl rfl dL_valueWithout_19
  · exact S_hx2 rfl rfl rfl (by decide) (by decide) kw_802 kw_866 kn_813 kn_873 (by decide) (S_hst_n dL_valueWithout_12 rfl (Nat.le_of_ble_eq_true rfl) (S_iconst 1 dL_valueWithout_13 (by decide) (S_ireturn rfl rfl dL_valueWithout_14))) (S_hst_n dL_valueWithout_15 rfl (Nat.le_of_ble_eq_true rfl) (S_iconst 2 dL_valueWithout_16 (by decide) (S_ireturn rfl rfl dL_valueWithout_17)))
theorem sm_L_valueWithout (hs : l.stackTraces = false) (p0 : Nat) (p1 : Int32) (p2 : Nat) (h : Hp) : ∀ x h1, m_L_valueWithout p0 p1 p2 h = some (x, h1) → SH l G 186 M_L_valueWithout [.ref p0, .int p1, .ref p2] h (some (.int x)) h1 := fun x h1 e => SH.of K_L_valueWithout hs rfl (Nat.le_of_ble_eq_true rfl) (ss_L_valueWithout hs p0 p1 p2 h) e rfl
end
section
variable {l : Launch} {G : Gx}
set_option maxRecDepth 20000 in
set_option maxHeartbeats 4000000 in
theorem ss_L_lay (hs : l.stackTraces = false) (p0 : Nat) (p1 : Int32) (p2 : Int32) (p3 : Nat) (h : Hp) : Sim l G 5 M_L_lay (fun p : Int32 × Hp => ((.inl (some (.int p.1)) : Oc), p.2)) 0 [(0, .ref p0), (1, .int p1), (2, .int p2), (3, .ref p3)] [] h (m_L_lay  p0 p1 p2 p3 h) := by
  rw [m_L_lay]
  refine S_aload_n 3 dL_lay_0 rfl rfl ?_
  refine S_iconst 0 dL_lay_1 (by decide) ?_
  refine S_aload_n 0 dL_lay_2 rfl rfl ?_
  refine S_iload_n 1 dL_lay_3 rfl rfl ?_
  refine S_iload_n 2 dL_lay_4 rfl rfl ?_
  refine S_callVX (lev' := 4) (My := M_X5_lay) [.int p1, .int p2] [.int 0, .ref p3] kc5 K_X5_lay kw_930 kw_931 kw_932 dL_lay_5 (by decide) rfl (Nat.le_of_ble_eq_true rfl) (fun xx ee => sx_X5_lay hs p0 p1 p2 h xx ee) (fun y2 h3 => ?_) (fun k5 h6 => ?_)
  · refine S_i2l dL_lay_8 ?_
    refine S_lastore dL_lay_9 (fun h4 _ => ?_)
    refine S_goto 21 dL_lay_10 (by decide) ?_
    refine S_iconst 0 dL_lay_21 (by decide) ?_
    exact S_ireturn rfl rfl dL_lay_22
  · exact S_hx2 rfl rfl rfl (by decide) (by decide) kw_802 kw_451 kn_813 kn_458 (by decide) (S_hst dL_lay_13 (Nat.le_of_ble_eq_true rfl) (S_iconst 1 dL_lay_15 (by decide) (S_ireturn rfl rfl dL_lay_16))) (S_hst dL_lay_17 (Nat.le_of_ble_eq_true rfl) (S_iconst 2 dL_lay_19 (by decide) (S_ireturn rfl rfl dL_lay_20)))
theorem sm_L_lay (hs : l.stackTraces = false) (p0 : Nat) (p1 : Int32) (p2 : Int32) (p3 : Nat) (h : Hp) : ∀ x h1, m_L_lay p0 p1 p2 p3 h = some (x, h1) → SH l G 5 M_L_lay [.ref p0, .int p1, .int p2, .ref p3] h (some (.int x)) h1 := fun x h1 e => SH.of K_L_lay hs rfl (Nat.le_of_ble_eq_true rfl) (ss_L_lay hs p0 p1 p2 p3 h) e rfl
end
section
variable {l : Launch} {G : Gx}
set_option maxRecDepth 20000 in
set_option maxHeartbeats 4000000 in
theorem ss_L_pass (hs : l.stackTraces = false) (p0 : Nat) (p1 : Nat) (h : Hp) : Sim l G 5 M_L_pass (fun p : Int32 × Hp => ((.inl (some (.int p.1)) : Oc), p.2)) 0 [(0, .ref p0), (1, .ref p1)] [] h (m_L_pass  p0 p1 h) := by
  rw [m_L_pass]
  refine S_aload_n 1 dL_pass_0 rfl rfl ?_
  refine S_iconst 0 dL_pass_1 (by decide) ?_
  refine S_aload_n 0 dL_pass_2 rfl rfl ?_
  refine S_callVX (lev' := 4) (My := M_X5_pass) [] [.int 0, .ref p1] kc5 K_X5_pass kw_938 kw_939 kw_940 dL_pass_3 (by decide) rfl (Nat.le_of_ble_eq_true rfl) (fun xx ee => sx_X5_pass hs p0 h xx ee) (fun y2 h3 => ?_) (fun k5 h6 => ?_)
  · refine S_i2l dL_pass_6 ?_
    refine S_lastore dL_pass_7 (fun h4 _ => ?_)
    refine S_goto 14 dL_pass_8 (by decide) ?_
    refine S_iconst 0 dL_pass_14 (by decide) ?_
    exact S_ireturn rfl rfl dL_pass_15
  · exact S_hx1 rfl rfl (by decide) kw_451 kn_458 (S_hst_n dL_pass_11 rfl (Nat.le_of_ble_eq_true rfl) (S_iconst 1 dL_pass_12 (by decide) (S_ireturn rfl rfl dL_pass_13)))
theorem sm_L_pass (hs : l.stackTraces = false) (p0 : Nat) (p1 : Nat) (h : Hp) : ∀ x h1, m_L_pass p0 p1 h = some (x, h1) → SH l G 5 M_L_pass [.ref p0, .ref p1] h (some (.int x)) h1 := fun x h1 e => SH.of K_L_pass hs rfl (Nat.le_of_ble_eq_true rfl) (ss_L_pass hs p0 p1 h) e rfl
end
section
variable {l : Launch} {G : Gx}
set_option maxRecDepth 20000 in
set_option maxHeartbeats 4000000 in
theorem ss_L_playOut (hs : l.stackTraces = false) (p0 : Nat) (p1 : Int32) (p2 : Nat) (h : Hp) : Sim l G 187 M_L_playOut (fun p : Int32 × Hp => ((.inl (some (.int p.1)) : Oc), p.2)) 0 [(0, .ref p0), (1, .int p1), (2, .ref p2)] [] h (m_L_playOut  p0 p1 p2 h) := by
  rw [m_L_playOut]
  refine S_aload_n 2 dL_playOut_0 rfl rfl ?_
  refine S_iconst 0 dL_playOut_1 (by decide) ?_
  refine S_aload_n 0 dL_playOut_2 rfl rfl ?_
  refine S_iload_n 1 dL_playOut_3 rfl rfl ?_
  refine S_callVX (lev' := 186) (My := M_X5_playOut) [.int p1] [.int 0, .ref p2] kc5 K_X5_playOut kw_947 kw_948 kw_949 dL_playOut_4 (by decide) rfl (Nat.le_of_ble_eq_true rfl) (fun xx ee => sx_X5_playOut hs p0 p1 h xx ee) (fun y2 h3 => ?_) (fun k5 h6 => ?_)
  · refine S_i2l dL_playOut_7 ?_
    refine S_lastore dL_playOut_8 (fun h4 _ => ?_)
    refine S_goto 15 dL_playOut_9 (by decide) ?_
    refine S_iconst 0 dL_playOut_15 (by decide) ?_
    exact S_ireturn rfl rfl dL_playOut_16
  · exact S_hx1 rfl rfl (by decide) kw_531 kn_538 (S_hst_n dL_playOut_12 rfl (Nat.le_of_ble_eq_true rfl) (S_iconst 1 dL_playOut_13 (by decide) (S_ireturn rfl rfl dL_playOut_14)))
theorem sm_L_playOut (hs : l.stackTraces = false) (p0 : Nat) (p1 : Int32) (p2 : Nat) (h : Hp) : ∀ x h1, m_L_playOut p0 p1 p2 h = some (x, h1) → SH l G 187 M_L_playOut [.ref p0, .int p1, .ref p2] h (some (.int x)) h1 := fun x h1 e => SH.of K_L_playOut hs rfl (Nat.le_of_ble_eq_true rfl) (ss_L_playOut hs p0 p1 p2 h) e rfl
end
section
variable {l : Launch} {G : Gx}
set_option maxRecDepth 20000 in
set_option maxHeartbeats 4000000 in
theorem ss_L_setPasses (hs : l.stackTraces = false) (p0 : Nat) (p1 : Int32) (p2 : Nat) (h : Hp) : Sim l G 5 M_L_setPasses (fun p : Int32 × Hp => ((.inl (some (.int p.1)) : Oc), p.2)) 0 [(0, .ref p0), (1, .int p1), (2, .ref p2)] [] h (m_L_setPasses  p0 p1 p2 h) := by
  rw [m_L_setPasses]
  refine S_aload_n 2 dL_setPasses_0 rfl rfl ?_
  refine S_iconst 0 dL_setPasses_1 (by decide) ?_
  refine S_aload_n 0 dL_setPasses_2 rfl rfl ?_
  refine S_iload_n 1 dL_setPasses_3 rfl rfl ?_
  refine S_callVX (lev' := 4) (My := M_X5_setPasses) [.int p1] [.int 0, .ref p2] kc5 K_X5_setPasses kw_955 kw_956 kw_957 dL_setPasses_4 (by decide) rfl (Nat.le_of_ble_eq_true rfl) (fun xx ee => sx_X5_setPasses hs p0 p1 h xx ee) (fun y2 h3 => ?_) (fun k5 h6 => ?_)
  · refine S_i2l dL_setPasses_7 ?_
    refine S_lastore dL_setPasses_8 (fun h4 _ => ?_)
    refine S_goto 15 dL_setPasses_9 (by decide) ?_
    refine S_iconst 0 dL_setPasses_15 (by decide) ?_
    exact S_ireturn rfl rfl dL_setPasses_16
  · exact S_hx1 rfl rfl (by decide) kw_531 kn_538 (S_hst_n dL_setPasses_12 rfl (Nat.le_of_ble_eq_true rfl) (S_iconst 1 dL_setPasses_13 (by decide) (S_ireturn rfl rfl dL_setPasses_14)))
theorem sm_L_setPasses (hs : l.stackTraces = false) (p0 : Nat) (p1 : Int32) (p2 : Nat) (h : Hp) : ∀ x h1, m_L_setPasses p0 p1 p2 h = some (x, h1) → SH l G 5 M_L_setPasses [.ref p0, .int p1, .ref p2] h (some (.int x)) h1 := fun x h1 e => SH.of K_L_setPasses hs rfl (Nat.le_of_ble_eq_true rfl) (ss_L_setPasses hs p0 p1 p2 h) e rfl
end
section
variable {l : Launch} {G : Gx}
set_option maxRecDepth 20000 in
set_option maxHeartbeats 4000000 in
theorem ss_L_move (hs : l.stackTraces = false) (p0 : Nat) (p1 : Int32) (p2 : Int32) (p3 : Nat) (h : Hp) : Sim l G 2 M_L_move (fun p : Int32 × Hp => ((.inl (some (.int p.1)) : Oc), p.2)) 0 [(0, .ref p0), (1, .int p1), (2, .int p2), (3, .ref p3)] [] h (m_L_move  p0 p1 p2 p3 h) := by
  rw [m_L_move]
  refine S_aload_n 3 dL_move_0 rfl rfl ?_
  refine S_iconst 0 dL_move_1 (by decide) ?_
  refine S_aload_n 0 dL_move_2 rfl rfl ?_
  refine S_iload_n 1 dL_move_3 rfl rfl ?_
  refine S_iload_n 2 dL_move_4 rfl rfl ?_
  refine S_callVX (lev' := 1) (My := M_X5_move) [.int p1, .int p2] [.int 0, .ref p3] kc5 K_X5_move kw_963 kw_964 kw_965 dL_move_5 (by decide) rfl (Nat.le_of_ble_eq_true rfl) (fun xx ee => sx_X5_move hs p0 p1 p2 h xx ee) (fun y2 h3 => ?_) (fun k5 h6 => ?_)
  · refine S_i2l dL_move_8 ?_
    refine S_lastore dL_move_9 (fun h4 _ => ?_)
    refine S_goto 21 dL_move_10 (by decide) ?_
    refine S_iconst 0 dL_move_21 (by decide) ?_
    exact S_ireturn rfl rfl dL_move_22
  · exact S_hx2 rfl rfl rfl (by decide) (by decide) kw_802 kw_531 kn_813 kn_538 (by decide) (S_hst dL_move_13 (Nat.le_of_ble_eq_true rfl) (S_iconst 1 dL_move_15 (by decide) (S_ireturn rfl rfl dL_move_16))) (S_hst dL_move_17 (Nat.le_of_ble_eq_true rfl) (S_iconst 2 dL_move_19 (by decide) (S_ireturn rfl rfl dL_move_20)))
theorem sm_L_move (hs : l.stackTraces = false) (p0 : Nat) (p1 : Int32) (p2 : Int32) (p3 : Nat) (h : Hp) : ∀ x h1, m_L_move p0 p1 p2 p3 h = some (x, h1) → SH l G 2 M_L_move [.ref p0, .int p1, .int p2, .ref p3] h (some (.int x)) h1 := fun x h1 e => SH.of K_L_move hs rfl (Nat.le_of_ble_eq_true rfl) (ss_L_move hs p0 p1 p2 p3 h) e rfl
end
section
variable {l : Launch} {G : Gx}
set_option maxRecDepth 20000 in
set_option maxHeartbeats 4000000 in
theorem ss_L_account (hs : l.stackTraces = false) (p0 : Nat) (p1 : Int32) (p2 : Int32) (p3 : Nat) (h : Hp) : Sim l G 3 M_L_account (fun p : Int32 × Hp => ((.inl (some (.int p.1)) : Oc), p.2)) 0 [(0, .ref p0), (1, .int p1), (2, .int p2), (3, .ref p3)] [] h (m_L_account  p0 p1 p2 p3 h) := by
  rw [m_L_account]
  refine S_aload_n 3 dL_account_0 rfl rfl ?_
  refine S_iconst 0 dL_account_1 (by decide) ?_
  refine S_aload_n 0 dL_account_2 rfl rfl ?_
  refine S_iload_n 1 dL_account_3 rfl rfl ?_
  refine S_iload_n 2 dL_account_4 rfl rfl ?_
  refine S_callVX (lev' := 2) (My := M_X5_account) [.int p1, .int p2] [.int 0, .ref p3] kc5 K_X5_account kw_976 kw_977 kw_978 dL_account_5 (by decide) rfl (Nat.le_of_ble_eq_true rfl) (fun xx ee => sx_X5_account hs p0 p1 p2 h xx ee) (fun y2 h3 => ?_) (fun k5 h6 => ?_)
  · refine S_i2l dL_account_8 ?_
    refine S_lastore dL_account_9 (fun h4 _ => ?_)
    refine S_goto 21 dL_account_10 (by decide) ?_
    refine S_iconst 0 dL_account_21 (by decide) ?_
    exact S_ireturn rfl rfl dL_account_22
  · exact S_hx2 rfl rfl rfl (by decide) (by decide) kw_802 kw_531 kn_813 kn_538 (by decide) (S_hst dL_account_13 (Nat.le_of_ble_eq_true rfl) (S_iconst 1 dL_account_15 (by decide) (S_ireturn rfl rfl dL_account_16))) (S_hst dL_account_17 (Nat.le_of_ble_eq_true rfl) (S_iconst 2 dL_account_19 (by decide) (S_ireturn rfl rfl dL_account_20)))
theorem sm_L_account (hs : l.stackTraces = false) (p0 : Nat) (p1 : Int32) (p2 : Int32) (p3 : Nat) (h : Hp) : ∀ x h1, m_L_account p0 p1 p2 p3 h = some (x, h1) → SH l G 3 M_L_account [.ref p0, .int p1, .int p2, .ref p3] h (some (.int x)) h1 := fun x h1 e => SH.of K_L_account hs rfl (Nat.le_of_ble_eq_true rfl) (ss_L_account hs p0 p1 p2 p3 h) e rfl
end
section
variable {l : Launch} {G : Gx}
set_option maxRecDepth 20000 in
set_option maxHeartbeats 4000000 in
theorem ss_L_writtenByte (hs : l.stackTraces = false) (p0 : Nat) (p1 : Int32) (p2 : Nat) (h : Hp) : Sim l G 1 M_L_writtenByte (fun p : Int32 × Hp => ((.inl (some (.int p.1)) : Oc), p.2)) 0 [(0, .ref p0), (1, .int p1), (2, .ref p2)] [] h (m_L_writtenByte  p0 p1 p2 h) := by
  rw [m_L_writtenByte]
  refine S_aload_n 2 dL_writtenByte_0 rfl rfl ?_
  refine S_iconst 0 dL_writtenByte_1 (by decide) ?_
  refine S_aload_n 0 dL_writtenByte_2 rfl rfl ?_
  refine S_iload_n 1 dL_writtenByte_3 rfl rfl ?_
  refine S_callVX (lev' := 0) (My := M_X5_writtenByte) [.int p1] [.int 0, .ref p2] kc5 K_X5_writtenByte kw_997 kw_998 kw_999 dL_writtenByte_4 (by decide) rfl (Nat.le_of_ble_eq_true rfl) (fun xx ee => sx_X5_writtenByte hs p0 p1 h xx ee) (fun y2 h3 => ?_) (fun k5 h6 => ?_)
  · refine S_i2l dL_writtenByte_7 ?_
    refine S_lastore dL_writtenByte_8 (fun h4 _ => ?_)
    refine S_goto 15 dL_writtenByte_9 (by decide) ?_
    refine S_iconst 0 dL_writtenByte_15 (by decide) ?_
    exact S_ireturn rfl rfl dL_writtenByte_16
  · exact S_hx1 rfl rfl (by decide) kw_802 kn_813 (S_hst_n dL_writtenByte_12 rfl (Nat.le_of_ble_eq_true rfl) (S_iconst 1 dL_writtenByte_13 (by decide) (S_ireturn rfl rfl dL_writtenByte_14)))
theorem sm_L_writtenByte (hs : l.stackTraces = false) (p0 : Nat) (p1 : Int32) (p2 : Nat) (h : Hp) : ∀ x h1, m_L_writtenByte p0 p1 p2 h = some (x, h1) → SH l G 1 M_L_writtenByte [.ref p0, .int p1, .ref p2] h (some (.int x)) h1 := fun x h1 e => SH.of K_L_writtenByte hs rfl (Nat.le_of_ble_eq_true rfl) (ss_L_writtenByte hs p0 p1 p2 h) e rfl
end
section
variable {l : Launch} {G : Gx}
set_option maxRecDepth 20000 in
set_option maxHeartbeats 4000000 in
theorem ss_L_undo (hs : l.stackTraces = false) (p0 : Nat) (p1 : Nat) (h : Hp) : Sim l G 4 M_L_undo (fun p : Int32 × Hp => ((.inl (some (.int p.1)) : Oc), p.2)) 0 [(0, .ref p0), (1, .ref p1)] [] h (m_L_undo  p0 p1 h) := by
  rw [m_L_undo]
  refine S_aload_n 1 dL_undo_0 rfl rfl ?_
  refine S_iconst 0 dL_undo_1 (by decide) ?_
  refine S_aload_n 0 dL_undo_2 rfl rfl ?_
  refine S_callVX (lev' := 3) (My := M_X5_undo) [] [.int 0, .ref p1] kc5 K_X5_undo kw_1005 kw_1006 kw_1007 dL_undo_3 (by decide) rfl (Nat.le_of_ble_eq_true rfl) (fun xx ee => sx_X5_undo hs p0 h xx ee) (fun y2 h3 => ?_) (fun k5 h6 => ?_)
  · refine S_i2l dL_undo_6 ?_
    refine S_lastore dL_undo_7 (fun h4 _ => ?_)
    refine S_goto 14 dL_undo_8 (by decide) ?_
    refine S_iconst 0 dL_undo_14 (by decide) ?_
    exact S_ireturn rfl rfl dL_undo_15
  · exact S_hx1 rfl rfl (by decide) kw_451 kn_458 (S_hst_n dL_undo_11 rfl (Nat.le_of_ble_eq_true rfl) (S_iconst 1 dL_undo_12 (by decide) (S_ireturn rfl rfl dL_undo_13)))
theorem sm_L_undo (hs : l.stackTraces = false) (p0 : Nat) (p1 : Nat) (h : Hp) : ∀ x h1, m_L_undo p0 p1 h = some (x, h1) → SH l G 4 M_L_undo [.ref p0, .ref p1] h (some (.int x)) h1 := fun x h1 e => SH.of K_L_undo hs rfl (Nat.le_of_ble_eq_true rfl) (ss_L_undo hs p0 p1 h) e rfl
end
section
variable {l : Launch} {G : Gx}
set_option maxRecDepth 20000 in
set_option maxHeartbeats 4000000 in
theorem ss_L_save (hs : l.stackTraces = false) (p0 : Nat) (p1 : Int32) (p2 : Nat) (h : Hp) : Sim l G 4 M_L_save (fun p : Int32 × Hp => ((.inl (some (.int p.1)) : Oc), p.2)) 0 [(0, .ref p0), (1, .int p1), (2, .ref p2)] [] h (m_L_save  p0 p1 p2 h) := by
  rw [m_L_save]
  refine S_aload_n 2 dL_save_0 rfl rfl ?_
  refine S_iconst 0 dL_save_1 (by decide) ?_
  refine S_aload_n 0 dL_save_2 rfl rfl ?_
  refine S_iload_n 1 dL_save_3 rfl rfl ?_
  refine S_callVX (lev' := 3) (My := M_X5_save) [.int p1] [.int 0, .ref p2] kc5 K_X5_save kw_1018 kw_1019 kw_1020 dL_save_4 (by decide) rfl (Nat.le_of_ble_eq_true rfl) (fun xx ee => sx_X5_save hs p0 p1 h xx ee) (fun y2 h3 => ?_) (fun k5 h6 => ?_)
  · refine S_i2l dL_save_7 ?_
    refine S_lastore dL_save_8 (fun h4 _ => ?_)
    refine S_goto 15 dL_save_9 (by decide) ?_
    refine S_iconst 0 dL_save_15 (by decide) ?_
    exact S_ireturn rfl rfl dL_save_16
  · exact S_hx1 rfl rfl (by decide) kw_802 kn_813 (S_hst_n dL_save_12 rfl (Nat.le_of_ble_eq_true rfl) (S_iconst 1 dL_save_13 (by decide) (S_ireturn rfl rfl dL_save_14)))
theorem sm_L_save (hs : l.stackTraces = false) (p0 : Nat) (p1 : Int32) (p2 : Nat) (h : Hp) : ∀ x h1, m_L_save p0 p1 p2 h = some (x, h1) → SH l G 4 M_L_save [.ref p0, .int p1, .ref p2] h (some (.int x)) h1 := fun x h1 e => SH.of K_L_save hs rfl (Nat.le_of_ble_eq_true rfl) (ss_L_save hs p0 p1 p2 h) e rfl
end
section
variable {l : Launch} {G : Gx}
set_option maxRecDepth 20000 in
set_option maxHeartbeats 4000000 in
theorem ss_L_restore (hs : l.stackTraces = false) (p0 : Nat) (p1 : Int32) (p2 : Nat) (h : Hp) : Sim l G 5 M_L_restore (fun p : Int32 × Hp => ((.inl (some (.int p.1)) : Oc), p.2)) 0 [(0, .ref p0), (1, .int p1), (2, .ref p2)] [] h (m_L_restore  p0 p1 p2 h) := by
  rw [m_L_restore]
  refine S_aload_n 2 dL_restore_0 rfl rfl ?_
  refine S_iconst 0 dL_restore_1 (by decide) ?_
  refine S_aload_n 0 dL_restore_2 rfl rfl ?_
  refine S_iload_n 1 dL_restore_3 rfl rfl ?_
  refine S_callVX (lev' := 4) (My := M_X5_restore) [.int p1] [.int 0, .ref p2] kc5 K_X5_restore kw_1027 kw_1028 kw_1029 dL_restore_4 (by decide) rfl (Nat.le_of_ble_eq_true rfl) (fun xx ee => sx_X5_restore hs p0 p1 h xx ee) (fun y2 h3 => ?_) (fun k5 h6 => ?_)
  · refine S_i2l dL_restore_7 ?_
    refine S_lastore dL_restore_8 (fun h4 _ => ?_)
    refine S_goto 18 dL_restore_9 (by decide) ?_
    refine S_iconst 0 dL_restore_18 (by decide) ?_
    exact S_ireturn rfl rfl dL_restore_19
  · exact S_hx2 rfl rfl rfl (by decide) (by decide) kw_802 kw_451 kn_813 kn_458 (by decide) (S_hst_n dL_restore_12 rfl (Nat.le_of_ble_eq_true rfl) (S_iconst 1 dL_restore_13 (by decide) (S_ireturn rfl rfl dL_restore_14))) (S_hst_n dL_restore_15 rfl (Nat.le_of_ble_eq_true rfl) (S_iconst 2 dL_restore_16 (by decide) (S_ireturn rfl rfl dL_restore_17)))
theorem sm_L_restore (hs : l.stackTraces = false) (p0 : Nat) (p1 : Int32) (p2 : Nat) (h : Hp) : ∀ x h1, m_L_restore p0 p1 p2 h = some (x, h1) → SH l G 5 M_L_restore [.ref p0, .int p1, .ref p2] h (some (.int x)) h1 := fun x h1 e => SH.of K_L_restore hs rfl (Nat.le_of_ble_eq_true rfl) (ss_L_restore hs p0 p1 p2 h) e rfl
end
