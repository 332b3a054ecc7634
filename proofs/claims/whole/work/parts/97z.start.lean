/-! the start: the objects before the first call -/
set_option maxHeartbeats 4000000 in
theorem st_cls : ∃ H, m_X5_init 0 (hpush h00 (.inr (5, [.null, .null, .null, .null, .null, .null, .int 0, .int 0])) 8) = some H ∧ H.2.1 = 20 ∧ H.2.2 ≤ 70000 ∧ At H 0 (.inr (5, [.ref 2, .ref 1, .ref 9, .ref 16, .ref 18, .ref 19, .int 0, .int 0])) ∧ BdH H 2 0 al0 (fun _ => 0) none ∧ At H 1 (.inr (4, [.ref 2, .ref 7, .ref 8])) ∧ At H 7 (.inl (1, 32768, .inr (.inl fun _ => 0))) ∧ At H 8 (.inl (0, 32768, .inl fun _ => 0)) ∧ At H 9 (.inr (3, [.ref 10, .int 0, .int (-1), .ref 15, .int 0, .int 0, .int 0, .int 0, .int 0, .int 0])) ∧ BdH H 10 0 al0 (fun _ => 0) none ∧ At H 15 (.inl (2, 500, .inl fun _ => 0)) ∧ At H 16 (.inr (1, [.int 0, .int 0, .ref 17])) ∧ At H 17 (aq 8 fun _ => none) ∧ At H 18 (aq 2 fun _ => none) ∧ At H 19 (.inl (2, 13, .inl fun _ => 0)) := by
  have z1 : (hpush h00 (.inr (5, [.null, .null, .null, .null, .null, .null, .int 0, .int 0])) 8).2.1 = 1 := rfl
  have a0 : At (hpush h00 (.inr (5, [.null, .null, .null, .null, .null, .null, .int 0, .int 0])) 8) 0 (.inr (5, [.null, .null, .null, .null, .null, .null, .int 0, .int 0])) := at_new
  have s1 : (hpush h00 (.inr (5, [.null, .null, .null, .null, .null, .null, .int 0, .int 0])) 8).2.2 ≤ 8 := Nat.le_refl _
  generalize hpush h00 (.inr (5, [.null, .null, .null, .null, .null, .null, .int 0, .int 0])) 8 = H1 at z1 a0 s1 ⊢
  unfold m_X5_init
  rw [e_nw, z1]
  have F2 : Fr H1 (hpush H1 (.inr (4, [.null, .null, .null])) 3) (fun _ => False) 1 3 := Fr_push
  have z2 : (hpush H1 (.inr (4, [.null, .null, .null])) 3).2.1 = 2 := congrArg (· + 1) z1
  have a1 : At (hpush H1 (.inr (4, [.null, .null, .null])) 3) 1 (.inr (4, [.null, .null, .null])) := by
    have := at_new (h := H1) (n := 3) (c := (.inr (4, [.null, .null, .null]) : Ac))
    rw [z1] at this
    exact this
  generalize hpush H1 (.inr (4, [.null, .null, .null])) 3 = H2 at F2 z2 a1 ⊢
  have a0 := Fr_at F2 a0 id
  have s2 : H2.2.2 ≤ 11 := by have := F2.2.2.1; omega
  unfold m_X4_init
  rw [e_nw]
  obtain ⟨H3, e3, b2, F3⟩ := x_newB H2
  rw [e3, Option.bind_some, z2]
  rw [z2] at b2
  have z3 : H3.2.1 = 7 := by
    obtain ⟨_, b4, _⟩ := b2.2.2.2.2
    have t1 := b4.1
    have t2 := F3.2.1
    omega
  have a0 := Fr_at F3 a0 id
  have a1 := Fr_at F3 a1 id
  have s3 : H3.2.2 ≤ 40 := by have := F3.2.2.1; omega
  rw [show pV H3 4 1 0 (.ref 2) = some (hset H3 1 (.inr (4, [.ref 2, .null, .null]))) from at_pV a1 (Nat.le_of_ble_eq_true rfl), Option.bind_some]
  have F4 : Fr H3 (hset H3 1 (.inr (4, [.ref 2, .null, .null]))) (fun x => x = 1) 0 0 := Fr_set rfl
  have z4 : (hset H3 1 (.inr (4, [.ref 2, .null, .null]))).2.1 = 7 := z3
  have a1 : At (hset H3 1 (.inr (4, [.ref 2, .null, .null]))) 1 (.inr (4, [.ref 2, .null, .null])) := at_set_eq a1
  generalize hset H3 1 (.inr (4, [.ref 2, .null, .null])) = H4 at F4 z4 a1 ⊢
  have a0 := Fr_at F4 a0 (by decide)
  have b2 := Fr_bd F4 b2 (fun i hi => by omega)
  have s4 : H4.2.2 ≤ 40 := by have := F4.2.2.1; omega
  rw [e_nw, z4]
  have F5 : Fr H4 (hpush H4 (.inl (1, 32768, .inr (.inl fun _ => 0))) 32768) (fun _ => False) 1 32768 := Fr_push
  have z5 : (hpush H4 (.inl (1, 32768, .inr (.inl fun _ => 0))) 32768).2.1 = 8 := congrArg (· + 1) z4
  have a7 : At (hpush H4 (.inl (1, 32768, .inr (.inl fun _ => 0))) 32768) 7 (.inl (1, 32768, .inr (.inl fun _ => 0))) := by
    have := at_new (h := H4) (n := 32768) (c := (.inl (1, 32768, .inr (.inl fun _ => 0)) : Ac))
    rw [z4] at this
    exact this
  generalize hpush H4 (.inl (1, 32768, .inr (.inl fun _ => 0))) 32768 = H5 at F5 z5 a7 ⊢
  have a0 := Fr_at F5 a0 id
  have a1 := Fr_at F5 a1 id
  have b2 := Fr_bd F5 b2 (fun _ _ => id)
  have s5 : H5.2.2 ≤ 32808 := by have := F5.2.2.1; omega
  rw [show pV H5 4 1 1 (.ref 7) = some (hset H5 1 (.inr (4, [.ref 2, .ref 7, .null]))) from at_pV a1 (Nat.le_of_ble_eq_true rfl), Option.bind_some]
  have F6 : Fr H5 (hset H5 1 (.inr (4, [.ref 2, .ref 7, .null]))) (fun x => x = 1) 0 0 := Fr_set rfl
  have z6 : (hset H5 1 (.inr (4, [.ref 2, .ref 7, .null]))).2.1 = 8 := z5
  have a1 : At (hset H5 1 (.inr (4, [.ref 2, .ref 7, .null]))) 1 (.inr (4, [.ref 2, .ref 7, .null])) := at_set_eq a1
  generalize hset H5 1 (.inr (4, [.ref 2, .ref 7, .null])) = H6 at F6 z6 a1 ⊢
  have a0 := Fr_at F6 a0 (by decide)
  have a7 := Fr_at F6 a7 (by decide)
  have b2 := Fr_bd F6 b2 (fun i hi => by omega)
  have s6 : H6.2.2 ≤ 32808 := by have := F6.2.2.1; omega
  rw [e_nw, z6]
  have F7 : Fr H6 (hpush H6 (.inl (0, 32768, .inl fun _ => 0)) 32768) (fun _ => False) 1 32768 := Fr_push
  have z7 : (hpush H6 (.inl (0, 32768, .inl fun _ => 0)) 32768).2.1 = 9 := congrArg (· + 1) z6
  have a8 : At (hpush H6 (.inl (0, 32768, .inl fun _ => 0)) 32768) 8 (.inl (0, 32768, .inl fun _ => 0)) := by
    have := at_new (h := H6) (n := 32768) (c := (.inl (0, 32768, .inl fun _ => 0) : Ac))
    rw [z6] at this
    exact this
  generalize hpush H6 (.inl (0, 32768, .inl fun _ => 0)) 32768 = H7 at F7 z7 a8 ⊢
  have a0 := Fr_at F7 a0 id
  have a1 := Fr_at F7 a1 id
  have a7 := Fr_at F7 a7 id
  have b2 := Fr_bd F7 b2 (fun _ _ => id)
  have s7 : H7.2.2 ≤ 65576 := by have := F7.2.2.1; omega
  rw [show pV H7 4 1 2 (.ref 8) = some (hset H7 1 (.inr (4, [.ref 2, .ref 7, .ref 8]))) from at_pV a1 (Nat.le_of_ble_eq_true rfl), Option.bind_some]
  have F8 : Fr H7 (hset H7 1 (.inr (4, [.ref 2, .ref 7, .ref 8]))) (fun x => x = 1) 0 0 := Fr_set rfl
  have z8 : (hset H7 1 (.inr (4, [.ref 2, .ref 7, .ref 8]))).2.1 = 9 := z7
  have a1 : At (hset H7 1 (.inr (4, [.ref 2, .ref 7, .ref 8]))) 1 (.inr (4, [.ref 2, .ref 7, .ref 8])) := at_set_eq a1
  generalize hset H7 1 (.inr (4, [.ref 2, .ref 7, .ref 8])) = H8 at F8 z8 a1 ⊢
  have a0 := Fr_at F8 a0 (by decide)
  have a7 := Fr_at F8 a7 (by decide)
  have a8 := Fr_at F8 a8 (by decide)
  have b2 := Fr_bd F8 b2 (fun i hi => by omega)
  have s8 : H8.2.2 ≤ 65576 := by have := F8.2.2.1; omega
  rw [Option.bind_some]
  rw [show pV H8 5 0 1 (.ref 1) = some (hset H8 0 (.inr (5, [.null, .ref 1, .null, .null, .null, .null, .int 0, .int 0]))) from at_pV a0 (Nat.le_of_ble_eq_true rfl), Option.bind_some]
  have F9 : Fr H8 (hset H8 0 (.inr (5, [.null, .ref 1, .null, .null, .null, .null, .int 0, .int 0]))) (fun x => x = 0) 0 0 := Fr_set rfl
  have z9 : (hset H8 0 (.inr (5, [.null, .ref 1, .null, .null, .null, .null, .int 0, .int 0]))).2.1 = 9 := z8
  have a0 : At (hset H8 0 (.inr (5, [.null, .ref 1, .null, .null, .null, .null, .int 0, .int 0]))) 0 (.inr (5, [.null, .ref 1, .null, .null, .null, .null, .int 0, .int 0])) := at_set_eq a0
  generalize hset H8 0 (.inr (5, [.null, .ref 1, .null, .null, .null, .null, .int 0, .int 0])) = H9 at F9 z9 a0 ⊢
  have a1 := Fr_at F9 a1 (by decide)
  have a7 := Fr_at F9 a7 (by decide)
  have a8 := Fr_at F9 a8 (by decide)
  have b2 := Fr_bd F9 b2 (fun i hi => by omega)
  have s9 : H9.2.2 ≤ 65576 := by have := F9.2.2.1; omega
  rw [show gR H9 5 0 1 = some 1 from at_gR a0 rfl, Option.bind_some]
  rw [show gR H9 4 1 0 = some 2 from at_gR a1 rfl, Option.bind_some]
  rw [show pV H9 5 0 0 (.ref 2) = some (hset H9 0 (.inr (5, [.ref 2, .ref 1, .null, .null, .null, .null, .int 0, .int 0]))) from at_pV a0 (Nat.le_of_ble_eq_true rfl), Option.bind_some]
  have F10 : Fr H9 (hset H9 0 (.inr (5, [.ref 2, .ref 1, .null, .null, .null, .null, .int 0, .int 0]))) (fun x => x = 0) 0 0 := Fr_set rfl
  have z10 : (hset H9 0 (.inr (5, [.ref 2, .ref 1, .null, .null, .null, .null, .int 0, .int 0]))).2.1 = 9 := z9
  have a0 : At (hset H9 0 (.inr (5, [.ref 2, .ref 1, .null, .null, .null, .null, .int 0, .int 0]))) 0 (.inr (5, [.ref 2, .ref 1, .null, .null, .null, .null, .int 0, .int 0])) := at_set_eq a0
  generalize hset H9 0 (.inr (5, [.ref 2, .ref 1, .null, .null, .null, .null, .int 0, .int 0])) = H10 at F10 z10 a0 ⊢
  have a1 := Fr_at F10 a1 (by decide)
  have a7 := Fr_at F10 a7 (by decide)
  have a8 := Fr_at F10 a8 (by decide)
  have b2 := Fr_bd F10 b2 (fun i hi => by omega)
  have s10 : H10.2.2 ≤ 65576 := by have := F10.2.2.1; omega
  rw [e_nw, z10]
  have F11 : Fr H10 (hpush H10 (.inr (3, [.null, .int 0, .int 0, .null, .int 0, .int 0, .int 0, .int 0, .int 0, .int 0])) 10) (fun _ => False) 1 10 := Fr_push
  have z11 : (hpush H10 (.inr (3, [.null, .int 0, .int 0, .null, .int 0, .int 0, .int 0, .int 0, .int 0, .int 0])) 10).2.1 = 10 := congrArg (· + 1) z10
  have a9 : At (hpush H10 (.inr (3, [.null, .int 0, .int 0, .null, .int 0, .int 0, .int 0, .int 0, .int 0, .int 0])) 10) 9 (.inr (3, [.null, .int 0, .int 0, .null, .int 0, .int 0, .int 0, .int 0, .int 0, .int 0])) := by
    have := at_new (h := H10) (n := 10) (c := (.inr (3, [.null, .int 0, .int 0, .null, .int 0, .int 0, .int 0, .int 0, .int 0, .int 0]) : Ac))
    rw [z10] at this
    exact this
  generalize hpush H10 (.inr (3, [.null, .int 0, .int 0, .null, .int 0, .int 0, .int 0, .int 0, .int 0, .int 0])) 10 = H11 at F11 z11 a9 ⊢
  have a0 := Fr_at F11 a0 id
  have a1 := Fr_at F11 a1 id
  have a7 := Fr_at F11 a7 id
  have a8 := Fr_at F11 a8 id
  have b2 := Fr_bd F11 b2 (fun _ _ => id)
  have s11 : H11.2.2 ≤ 65586 := by have := F11.2.2.1; omega
  unfold m_X3_init
  rw [e_nw]
  obtain ⟨H12, e12, b10, F12⟩ := x_newB H11
  rw [e12, Option.bind_some, z11]
  rw [z11] at b10
  have z12 : H12.2.1 = 15 := by
    obtain ⟨_, b4, _⟩ := b10.2.2.2.2
    have t1 := b4.1
    have t2 := F12.2.1
    omega
  have a0 := Fr_at F12 a0 id
  have a1 := Fr_at F12 a1 id
  have a7 := Fr_at F12 a7 id
  have a8 := Fr_at F12 a8 id
  have a9 := Fr_at F12 a9 id
  have b2 := Fr_bd F12 b2 (fun _ _ => id)
  have s12 : H12.2.2 ≤ 65615 := by have := F12.2.2.1; omega
  rw [show pV H12 3 9 0 (.ref 10) = some (hset H12 9 (.inr (3, [.ref 10, .int 0, .int 0, .null, .int 0, .int 0, .int 0, .int 0, .int 0, .int 0]))) from at_pV a9 (Nat.le_of_ble_eq_true rfl), Option.bind_some]
  have F13 : Fr H12 (hset H12 9 (.inr (3, [.ref 10, .int 0, .int 0, .null, .int 0, .int 0, .int 0, .int 0, .int 0, .int 0]))) (fun x => x = 9) 0 0 := Fr_set rfl
  have z13 : (hset H12 9 (.inr (3, [.ref 10, .int 0, .int 0, .null, .int 0, .int 0, .int 0, .int 0, .int 0, .int 0]))).2.1 = 15 := z12
  have a9 : At (hset H12 9 (.inr (3, [.ref 10, .int 0, .int 0, .null, .int 0, .int 0, .int 0, .int 0, .int 0, .int 0]))) 9 (.inr (3, [.ref 10, .int 0, .int 0, .null, .int 0, .int 0, .int 0, .int 0, .int 0, .int 0])) := at_set_eq a9
  generalize hset H12 9 (.inr (3, [.ref 10, .int 0, .int 0, .null, .int 0, .int 0, .int 0, .int 0, .int 0, .int 0])) = H13 at F13 z13 a9 ⊢
  have a0 := Fr_at F13 a0 (by decide)
  have a1 := Fr_at F13 a1 (by decide)
  have a7 := Fr_at F13 a7 (by decide)
  have a8 := Fr_at F13 a8 (by decide)
  have b2 := Fr_bd F13 b2 (fun i hi => by omega)
  have b10 := Fr_bd F13 b10 (fun i hi => by omega)
  have s13 : H13.2.2 ≤ 65615 := by have := F13.2.2.1; omega
  rw [show pV H13 3 9 2 (.int (-1)) = some (hset H13 9 (.inr (3, [.ref 10, .int 0, .int (-1), .null, .int 0, .int 0, .int 0, .int 0, .int 0, .int 0]))) from at_pV a9 (Nat.le_of_ble_eq_true rfl), Option.bind_some]
  have F14 : Fr H13 (hset H13 9 (.inr (3, [.ref 10, .int 0, .int (-1), .null, .int 0, .int 0, .int 0, .int 0, .int 0, .int 0]))) (fun x => x = 9) 0 0 := Fr_set rfl
  have z14 : (hset H13 9 (.inr (3, [.ref 10, .int 0, .int (-1), .null, .int 0, .int 0, .int 0, .int 0, .int 0, .int 0]))).2.1 = 15 := z13
  have a9 : At (hset H13 9 (.inr (3, [.ref 10, .int 0, .int (-1), .null, .int 0, .int 0, .int 0, .int 0, .int 0, .int 0]))) 9 (.inr (3, [.ref 10, .int 0, .int (-1), .null, .int 0, .int 0, .int 0, .int 0, .int 0, .int 0])) := at_set_eq a9
  generalize hset H13 9 (.inr (3, [.ref 10, .int 0, .int (-1), .null, .int 0, .int 0, .int 0, .int 0, .int 0, .int 0])) = H14 at F14 z14 a9 ⊢
  have a0 := Fr_at F14 a0 (by decide)
  have a1 := Fr_at F14 a1 (by decide)
  have a7 := Fr_at F14 a7 (by decide)
  have a8 := Fr_at F14 a8 (by decide)
  have b2 := Fr_bd F14 b2 (fun i hi => by omega)
  have b10 := Fr_bd F14 b10 (fun i hi => by omega)
  have s14 : H14.2.2 ≤ 65615 := by have := F14.2.2.1; omega
  rw [e_nw, z14]
  have F15 : Fr H14 (hpush H14 (.inl (2, 500, .inl fun _ => 0)) 500) (fun _ => False) 1 500 := Fr_push
  have z15 : (hpush H14 (.inl (2, 500, .inl fun _ => 0)) 500).2.1 = 16 := congrArg (· + 1) z14
  have a15 : At (hpush H14 (.inl (2, 500, .inl fun _ => 0)) 500) 15 (.inl (2, 500, .inl fun _ => 0)) := by
    have := at_new (h := H14) (n := 500) (c := (.inl (2, 500, .inl fun _ => 0) : Ac))
    rw [z14] at this
    exact this
  generalize hpush H14 (.inl (2, 500, .inl fun _ => 0)) 500 = H15 at F15 z15 a15 ⊢
  have a0 := Fr_at F15 a0 id
  have a1 := Fr_at F15 a1 id
  have a7 := Fr_at F15 a7 id
  have a8 := Fr_at F15 a8 id
  have a9 := Fr_at F15 a9 id
  have b2 := Fr_bd F15 b2 (fun _ _ => id)
  have b10 := Fr_bd F15 b10 (fun _ _ => id)
  have s15 : H15.2.2 ≤ 66115 := by have := F15.2.2.1; omega
  rw [show pV H15 3 9 3 (.ref 15) = some (hset H15 9 (.inr (3, [.ref 10, .int 0, .int (-1), .ref 15, .int 0, .int 0, .int 0, .int 0, .int 0, .int 0]))) from at_pV a9 (Nat.le_of_ble_eq_true rfl), Option.bind_some]
  have F16 : Fr H15 (hset H15 9 (.inr (3, [.ref 10, .int 0, .int (-1), .ref 15, .int 0, .int 0, .int 0, .int 0, .int 0, .int 0]))) (fun x => x = 9) 0 0 := Fr_set rfl
  have z16 : (hset H15 9 (.inr (3, [.ref 10, .int 0, .int (-1), .ref 15, .int 0, .int 0, .int 0, .int 0, .int 0, .int 0]))).2.1 = 16 := z15
  have a9 : At (hset H15 9 (.inr (3, [.ref 10, .int 0, .int (-1), .ref 15, .int 0, .int 0, .int 0, .int 0, .int 0, .int 0]))) 9 (.inr (3, [.ref 10, .int 0, .int (-1), .ref 15, .int 0, .int 0, .int 0, .int 0, .int 0, .int 0])) := at_set_eq a9
  generalize hset H15 9 (.inr (3, [.ref 10, .int 0, .int (-1), .ref 15, .int 0, .int 0, .int 0, .int 0, .int 0, .int 0])) = H16 at F16 z16 a9 ⊢
  have a0 := Fr_at F16 a0 (by decide)
  have a1 := Fr_at F16 a1 (by decide)
  have a7 := Fr_at F16 a7 (by decide)
  have a8 := Fr_at F16 a8 (by decide)
  have a15 := Fr_at F16 a15 (by decide)
  have b2 := Fr_bd F16 b2 (fun i hi => by omega)
  have b10 := Fr_bd F16 b10 (fun i hi => by omega)
  have s16 : H16.2.2 ≤ 66115 := by have := F16.2.2.1; omega
  rw [Option.bind_some]
  rw [show pV H16 5 0 2 (.ref 9) = some (hset H16 0 (.inr (5, [.ref 2, .ref 1, .ref 9, .null, .null, .null, .int 0, .int 0]))) from at_pV a0 (Nat.le_of_ble_eq_true rfl), Option.bind_some]
  have F17 : Fr H16 (hset H16 0 (.inr (5, [.ref 2, .ref 1, .ref 9, .null, .null, .null, .int 0, .int 0]))) (fun x => x = 0) 0 0 := Fr_set rfl
  have z17 : (hset H16 0 (.inr (5, [.ref 2, .ref 1, .ref 9, .null, .null, .null, .int 0, .int 0]))).2.1 = 16 := z16
  have a0 : At (hset H16 0 (.inr (5, [.ref 2, .ref 1, .ref 9, .null, .null, .null, .int 0, .int 0]))) 0 (.inr (5, [.ref 2, .ref 1, .ref 9, .null, .null, .null, .int 0, .int 0])) := at_set_eq a0
  generalize hset H16 0 (.inr (5, [.ref 2, .ref 1, .ref 9, .null, .null, .null, .int 0, .int 0])) = H17 at F17 z17 a0 ⊢
  have a1 := Fr_at F17 a1 (by decide)
  have a7 := Fr_at F17 a7 (by decide)
  have a8 := Fr_at F17 a8 (by decide)
  have a9 := Fr_at F17 a9 (by decide)
  have a15 := Fr_at F17 a15 (by decide)
  have b2 := Fr_bd F17 b2 (fun i hi => by omega)
  have b10 := Fr_bd F17 b10 (fun i hi => by omega)
  have s17 : H17.2.2 ≤ 66115 := by have := F17.2.2.1; omega
  rw [e_nw, z17]
  have F18 : Fr H17 (hpush H17 (.inr (1, [.int 0, .int 0, .null])) 3) (fun _ => False) 1 3 := Fr_push
  have z18 : (hpush H17 (.inr (1, [.int 0, .int 0, .null])) 3).2.1 = 17 := congrArg (· + 1) z17
  have a16 : At (hpush H17 (.inr (1, [.int 0, .int 0, .null])) 3) 16 (.inr (1, [.int 0, .int 0, .null])) := by
    have := at_new (h := H17) (n := 3) (c := (.inr (1, [.int 0, .int 0, .null]) : Ac))
    rw [z17] at this
    exact this
  generalize hpush H17 (.inr (1, [.int 0, .int 0, .null])) 3 = H18 at F18 z18 a16 ⊢
  have a0 := Fr_at F18 a0 id
  have a1 := Fr_at F18 a1 id
  have a7 := Fr_at F18 a7 id
  have a8 := Fr_at F18 a8 id
  have a9 := Fr_at F18 a9 id
  have a15 := Fr_at F18 a15 id
  have b2 := Fr_bd F18 b2 (fun _ _ => id)
  have b10 := Fr_bd F18 b10 (fun _ _ => id)
  have s18 : H18.2.2 ≤ 66118 := by have := F18.2.2.1; omega
  unfold m_X1_init
  rw [e_nw, z18]
  have F19 : Fr H18 (hpush H18 (.inl (4, 8, .inr (.inr (.inr (.inr fun _ => none))))) 8) (fun _ => False) 1 8 := Fr_push
  have z19 : (hpush H18 (.inl (4, 8, .inr (.inr (.inr (.inr fun _ => none))))) 8).2.1 = 18 := congrArg (· + 1) z18
  have a17 : At (hpush H18 (.inl (4, 8, .inr (.inr (.inr (.inr fun _ => none))))) 8) 17 (.inl (4, 8, .inr (.inr (.inr (.inr fun _ => none))))) := by
    have := at_new (h := H18) (n := 8) (c := (.inl (4, 8, .inr (.inr (.inr (.inr fun _ => none)))) : Ac))
    rw [z18] at this
    exact this
  generalize hpush H18 (.inl (4, 8, .inr (.inr (.inr (.inr fun _ => none))))) 8 = H19 at F19 z19 a17 ⊢
  have a0 := Fr_at F19 a0 id
  have a1 := Fr_at F19 a1 id
  have a7 := Fr_at F19 a7 id
  have a8 := Fr_at F19 a8 id
  have a9 := Fr_at F19 a9 id
  have a15 := Fr_at F19 a15 id
  have a16 := Fr_at F19 a16 id
  have b2 := Fr_bd F19 b2 (fun _ _ => id)
  have b10 := Fr_bd F19 b10 (fun _ _ => id)
  have s19 : H19.2.2 ≤ 66126 := by have := F19.2.2.1; omega
  rw [show pV H19 1 16 2 (.ref 17) = some (hset H19 16 (.inr (1, [.int 0, .int 0, .ref 17]))) from at_pV a16 (Nat.le_of_ble_eq_true rfl), Option.bind_some]
  have F20 : Fr H19 (hset H19 16 (.inr (1, [.int 0, .int 0, .ref 17]))) (fun x => x = 16) 0 0 := Fr_set rfl
  have z20 : (hset H19 16 (.inr (1, [.int 0, .int 0, .ref 17]))).2.1 = 18 := z19
  have a16 : At (hset H19 16 (.inr (1, [.int 0, .int 0, .ref 17]))) 16 (.inr (1, [.int 0, .int 0, .ref 17])) := at_set_eq a16
  generalize hset H19 16 (.inr (1, [.int 0, .int 0, .ref 17])) = H20 at F20 z20 a16 ⊢
  have a0 := Fr_at F20 a0 (by decide)
  have a1 := Fr_at F20 a1 (by decide)
  have a7 := Fr_at F20 a7 (by decide)
  have a8 := Fr_at F20 a8 (by decide)
  have a9 := Fr_at F20 a9 (by decide)
  have a15 := Fr_at F20 a15 (by decide)
  have a17 := Fr_at F20 a17 (by decide)
  have b2 := Fr_bd F20 b2 (fun i hi => by omega)
  have b10 := Fr_bd F20 b10 (fun i hi => by omega)
  have s20 : H20.2.2 ≤ 66126 := by have := F20.2.2.1; omega
  rw [Option.bind_some]
  rw [show pV H20 5 0 3 (.ref 16) = some (hset H20 0 (.inr (5, [.ref 2, .ref 1, .ref 9, .ref 16, .null, .null, .int 0, .int 0]))) from at_pV a0 (Nat.le_of_ble_eq_true rfl), Option.bind_some]
  have F21 : Fr H20 (hset H20 0 (.inr (5, [.ref 2, .ref 1, .ref 9, .ref 16, .null, .null, .int 0, .int 0]))) (fun x => x = 0) 0 0 := Fr_set rfl
  have z21 : (hset H20 0 (.inr (5, [.ref 2, .ref 1, .ref 9, .ref 16, .null, .null, .int 0, .int 0]))).2.1 = 18 := z20
  have a0 : At (hset H20 0 (.inr (5, [.ref 2, .ref 1, .ref 9, .ref 16, .null, .null, .int 0, .int 0]))) 0 (.inr (5, [.ref 2, .ref 1, .ref 9, .ref 16, .null, .null, .int 0, .int 0])) := at_set_eq a0
  generalize hset H20 0 (.inr (5, [.ref 2, .ref 1, .ref 9, .ref 16, .null, .null, .int 0, .int 0])) = H21 at F21 z21 a0 ⊢
  have a1 := Fr_at F21 a1 (by decide)
  have a7 := Fr_at F21 a7 (by decide)
  have a8 := Fr_at F21 a8 (by decide)
  have a9 := Fr_at F21 a9 (by decide)
  have a15 := Fr_at F21 a15 (by decide)
  have a16 := Fr_at F21 a16 (by decide)
  have a17 := Fr_at F21 a17 (by decide)
  have b2 := Fr_bd F21 b2 (fun i hi => by omega)
  have b10 := Fr_bd F21 b10 (fun i hi => by omega)
  have s21 : H21.2.2 ≤ 66126 := by have := F21.2.2.1; omega
  rw [e_nw, z21]
  have F22 : Fr H21 (hpush H21 (.inl (4, 2, .inr (.inr (.inr (.inr fun _ => none))))) 2) (fun _ => False) 1 2 := Fr_push
  have z22 : (hpush H21 (.inl (4, 2, .inr (.inr (.inr (.inr fun _ => none))))) 2).2.1 = 19 := congrArg (· + 1) z21
  have a18 : At (hpush H21 (.inl (4, 2, .inr (.inr (.inr (.inr fun _ => none))))) 2) 18 (.inl (4, 2, .inr (.inr (.inr (.inr fun _ => none))))) := by
    have := at_new (h := H21) (n := 2) (c := (.inl (4, 2, .inr (.inr (.inr (.inr fun _ => none)))) : Ac))
    rw [z21] at this
    exact this
  generalize hpush H21 (.inl (4, 2, .inr (.inr (.inr (.inr fun _ => none))))) 2 = H22 at F22 z22 a18 ⊢
  have a0 := Fr_at F22 a0 id
  have a1 := Fr_at F22 a1 id
  have a7 := Fr_at F22 a7 id
  have a8 := Fr_at F22 a8 id
  have a9 := Fr_at F22 a9 id
  have a15 := Fr_at F22 a15 id
  have a16 := Fr_at F22 a16 id
  have a17 := Fr_at F22 a17 id
  have b2 := Fr_bd F22 b2 (fun _ _ => id)
  have b10 := Fr_bd F22 b10 (fun _ _ => id)
  have s22 : H22.2.2 ≤ 66128 := by have := F22.2.2.1; omega
  rw [show pV H22 5 0 4 (.ref 18) = some (hset H22 0 (.inr (5, [.ref 2, .ref 1, .ref 9, .ref 16, .ref 18, .null, .int 0, .int 0]))) from at_pV a0 (Nat.le_of_ble_eq_true rfl), Option.bind_some]
  have F23 : Fr H22 (hset H22 0 (.inr (5, [.ref 2, .ref 1, .ref 9, .ref 16, .ref 18, .null, .int 0, .int 0]))) (fun x => x = 0) 0 0 := Fr_set rfl
  have z23 : (hset H22 0 (.inr (5, [.ref 2, .ref 1, .ref 9, .ref 16, .ref 18, .null, .int 0, .int 0]))).2.1 = 19 := z22
  have a0 : At (hset H22 0 (.inr (5, [.ref 2, .ref 1, .ref 9, .ref 16, .ref 18, .null, .int 0, .int 0]))) 0 (.inr (5, [.ref 2, .ref 1, .ref 9, .ref 16, .ref 18, .null, .int 0, .int 0])) := at_set_eq a0
  generalize hset H22 0 (.inr (5, [.ref 2, .ref 1, .ref 9, .ref 16, .ref 18, .null, .int 0, .int 0])) = H23 at F23 z23 a0 ⊢
  have a1 := Fr_at F23 a1 (by decide)
  have a7 := Fr_at F23 a7 (by decide)
  have a8 := Fr_at F23 a8 (by decide)
  have a9 := Fr_at F23 a9 (by decide)
  have a15 := Fr_at F23 a15 (by decide)
  have a16 := Fr_at F23 a16 (by decide)
  have a17 := Fr_at F23 a17 (by decide)
  have a18 := Fr_at F23 a18 (by decide)
  have b2 := Fr_bd F23 b2 (fun i hi => by omega)
  have b10 := Fr_bd F23 b10 (fun i hi => by omega)
  have s23 : H23.2.2 ≤ 66128 := by have := F23.2.2.1; omega
  rw [e_nw, z23]
  have F24 : Fr H23 (hpush H23 (.inl (2, 13, .inl fun _ => 0)) 13) (fun _ => False) 1 13 := Fr_push
  have z24 : (hpush H23 (.inl (2, 13, .inl fun _ => 0)) 13).2.1 = 20 := congrArg (· + 1) z23
  have a19 : At (hpush H23 (.inl (2, 13, .inl fun _ => 0)) 13) 19 (.inl (2, 13, .inl fun _ => 0)) := by
    have := at_new (h := H23) (n := 13) (c := (.inl (2, 13, .inl fun _ => 0) : Ac))
    rw [z23] at this
    exact this
  generalize hpush H23 (.inl (2, 13, .inl fun _ => 0)) 13 = H24 at F24 z24 a19 ⊢
  have a0 := Fr_at F24 a0 id
  have a1 := Fr_at F24 a1 id
  have a7 := Fr_at F24 a7 id
  have a8 := Fr_at F24 a8 id
  have a9 := Fr_at F24 a9 id
  have a15 := Fr_at F24 a15 id
  have a16 := Fr_at F24 a16 id
  have a17 := Fr_at F24 a17 id
  have a18 := Fr_at F24 a18 id
  have b2 := Fr_bd F24 b2 (fun _ _ => id)
  have b10 := Fr_bd F24 b10 (fun _ _ => id)
  have s24 : H24.2.2 ≤ 66141 := by have := F24.2.2.1; omega
  rw [show pV H24 5 0 5 (.ref 19) = some (hset H24 0 (.inr (5, [.ref 2, .ref 1, .ref 9, .ref 16, .ref 18, .ref 19, .int 0, .int 0]))) from at_pV a0 (Nat.le_of_ble_eq_true rfl), Option.bind_some]
  have F25 : Fr H24 (hset H24 0 (.inr (5, [.ref 2, .ref 1, .ref 9, .ref 16, .ref 18, .ref 19, .int 0, .int 0]))) (fun x => x = 0) 0 0 := Fr_set rfl
  have z25 : (hset H24 0 (.inr (5, [.ref 2, .ref 1, .ref 9, .ref 16, .ref 18, .ref 19, .int 0, .int 0]))).2.1 = 20 := z24
  have a0 : At (hset H24 0 (.inr (5, [.ref 2, .ref 1, .ref 9, .ref 16, .ref 18, .ref 19, .int 0, .int 0]))) 0 (.inr (5, [.ref 2, .ref 1, .ref 9, .ref 16, .ref 18, .ref 19, .int 0, .int 0])) := at_set_eq a0
  generalize hset H24 0 (.inr (5, [.ref 2, .ref 1, .ref 9, .ref 16, .ref 18, .ref 19, .int 0, .int 0])) = H25 at F25 z25 a0 ⊢
  have a1 := Fr_at F25 a1 (by decide)
  have a7 := Fr_at F25 a7 (by decide)
  have a8 := Fr_at F25 a8 (by decide)
  have a9 := Fr_at F25 a9 (by decide)
  have a15 := Fr_at F25 a15 (by decide)
  have a16 := Fr_at F25 a16 (by decide)
  have a17 := Fr_at F25 a17 (by decide)
  have a18 := Fr_at F25 a18 (by decide)
  have a19 := Fr_at F25 a19 (by decide)
  have b2 := Fr_bd F25 b2 (fun i hi => by omega)
  have b10 := Fr_bd F25 b10 (fun i hi => by omega)
  have s25 : H25.2.2 ≤ 66141 := by have := F25.2.2.1; omega
  exact ⟨H25, rfl, z25, by omega, a0, b2, a1, a7, a8, a9, b10, a15, a16, a17, a18, a19⟩
set_option maxHeartbeats 4000000 in
theorem st_ref (H0 : Hp) (z0 : H0.2.1 = 20) : ∃ H, m_X6_init 20 (hpush H0 (.inr (6, [.null, .null, .null, .null, .null, .null, .int 0, .int 0, .null, .int 0, .int 0, .int 0, .int 0, .int 0, .int 0, .int 0, .int 0, .int 0, .null, .null, .null, .int 0])) 22) = some H ∧ H.2.1 = 31 ∧ H.2.2 ≤ H0.2.2 + 140000 ∧ (∀ a, a < 20 → H.1 a = H0.1 a) ∧ H.1 20 = .inr (6, rO fun i => if i = 17 then (-1 : Int32) else 0) ∧ ∀ i, i < 10 → H.1 (21 + i) = .inl (rT i, rN i, .inl (if i = 0 then upd (upd (upd (fun _ => 0) 0 (1 : Int32)) 1 (1 : Int32)) 4 (1 : Int32) else fun _ => 0)) := by
  have z1 : (hpush H0 (.inr (6, [.null, .null, .null, .null, .null, .null, .int 0, .int 0, .null, .int 0, .int 0, .int 0, .int 0, .int 0, .int 0, .int 0, .int 0, .int 0, .null, .null, .null, .int 0])) 22).2.1 = 21 := congrArg (· + 1) z0
  have a20 : At (hpush H0 (.inr (6, [.null, .null, .null, .null, .null, .null, .int 0, .int 0, .null, .int 0, .int 0, .int 0, .int 0, .int 0, .int 0, .int 0, .int 0, .int 0, .null, .null, .null, .int 0])) 22) 20 (.inr (6, [.null, .null, .null, .null, .null, .null, .int 0, .int 0, .null, .int 0, .int 0, .int 0, .int 0, .int 0, .int 0, .int 0, .int 0, .int 0, .null, .null, .null, .int 0])) := by
    have := at_new (h := H0) (n := 22) (c := (.inr (6, [.null, .null, .null, .null, .null, .null, .int 0, .int 0, .null, .int 0, .int 0, .int 0, .int 0, .int 0, .int 0, .int 0, .int 0, .int 0, .null, .null, .null, .int 0]) : Ac))
    rw [z0] at this
    exact this
  have s1 : (hpush H0 (.inr (6, [.null, .null, .null, .null, .null, .null, .int 0, .int 0, .null, .int 0, .int 0, .int 0, .int 0, .int 0, .int 0, .int 0, .int 0, .int 0, .null, .null, .null, .int 0])) 22).2.2 ≤ H0.2.2 + 22 := Nat.le_refl _
  have o1 : ∀ a, a < 20 → (hpush H0 (.inr (6, [.null, .null, .null, .null, .null, .null, .int 0, .int 0, .null, .int 0, .int 0, .int 0, .int 0, .int 0, .int 0, .int 0, .int 0, .int 0, .null, .null, .null, .int 0])) 22).1 a = H0.1 a := fun a ha => if_neg (by omega)
  generalize hpush H0 (.inr (6, [.null, .null, .null, .null, .null, .null, .int 0, .int 0, .null, .int 0, .int 0, .int 0, .int 0, .int 0, .int 0, .int 0, .int 0, .int 0, .null, .null, .null, .int 0])) 22 = H1 at z1 a20 s1 o1 ⊢
  unfold m_X6_init
  rw [e_nw, z1]
  have F2 : Fr H1 (hpush H1 (.inl (0, 4136, .inl fun _ => 0)) 4136) (fun _ => False) 1 4136 := Fr_push
  have z2 : (hpush H1 (.inl (0, 4136, .inl fun _ => 0)) 4136).2.1 = 22 := congrArg (· + 1) z1
  have a21 : At (hpush H1 (.inl (0, 4136, .inl fun _ => 0)) 4136) 21 (.inl (0, 4136, .inl fun _ => 0)) := by
    have := at_new (h := H1) (n := 4136) (c := (.inl (0, 4136, .inl fun _ => 0) : Ac))
    rw [z1] at this
    exact this
  generalize hpush H1 (.inl (0, 4136, .inl fun _ => 0)) 4136 = H2 at F2 z2 a21 ⊢
  have a20 := Fr_at F2 a20 id
  have o2 : ∀ a, a < 20 → H2.1 a = H0.1 a := fun a ha => (F2.2.2.2 a (by omega) (id)).trans (o1 a ha)
  have s2 : H2.2.2 ≤ H0.2.2 + 4158 := by have := F2.2.2.1; omega
  rw [show pV H2 6 20 0 (.ref 21) = some (hset H2 20 (.inr (6, [.ref 21, .null, .null, .null, .null, .null, .int 0, .int 0, .null, .int 0, .int 0, .int 0, .int 0, .int 0, .int 0, .int 0, .int 0, .int 0, .null, .null, .null, .int 0]))) from at_pV a20 (Nat.le_of_ble_eq_true rfl), Option.bind_some]
  have F3 : Fr H2 (hset H2 20 (.inr (6, [.ref 21, .null, .null, .null, .null, .null, .int 0, .int 0, .null, .int 0, .int 0, .int 0, .int 0, .int 0, .int 0, .int 0, .int 0, .int 0, .null, .null, .null, .int 0]))) (fun x => x = 20) 0 0 := Fr_set rfl
  have z3 : (hset H2 20 (.inr (6, [.ref 21, .null, .null, .null, .null, .null, .int 0, .int 0, .null, .int 0, .int 0, .int 0, .int 0, .int 0, .int 0, .int 0, .int 0, .int 0, .null, .null, .null, .int 0]))).2.1 = 22 := z2
  have a20 : At (hset H2 20 (.inr (6, [.ref 21, .null, .null, .null, .null, .null, .int 0, .int 0, .null, .int 0, .int 0, .int 0, .int 0, .int 0, .int 0, .int 0, .int 0, .int 0, .null, .null, .null, .int 0]))) 20 (.inr (6, [.ref 21, .null, .null, .null, .null, .null, .int 0, .int 0, .null, .int 0, .int 0, .int 0, .int 0, .int 0, .int 0, .int 0, .int 0, .int 0, .null, .null, .null, .int 0])) := at_set_eq a20
  generalize hset H2 20 (.inr (6, [.ref 21, .null, .null, .null, .null, .null, .int 0, .int 0, .null, .int 0, .int 0, .int 0, .int 0, .int 0, .int 0, .int 0, .int 0, .int 0, .null, .null, .null, .int 0])) = H3 at F3 z3 a20 ⊢
  have a21 := Fr_at F3 a21 (by decide)
  have o3 : ∀ a, a < 20 → H3.1 a = H0.1 a := fun a ha => (F3.2.2.2 a (by omega) (by omega)).trans (o2 a ha)
  have s3 : H3.2.2 ≤ H0.2.2 + 4158 := by have := F3.2.2.1; omega
  rw [e_nw, z3]
  have F4 : Fr H3 (hpush H3 (.inl (0, 4136, .inl fun _ => 0)) 4136) (fun _ => False) 1 4136 := Fr_push
  have z4 : (hpush H3 (.inl (0, 4136, .inl fun _ => 0)) 4136).2.1 = 23 := congrArg (· + 1) z3
  have a22 : At (hpush H3 (.inl (0, 4136, .inl fun _ => 0)) 4136) 22 (.inl (0, 4136, .inl fun _ => 0)) := by
    have := at_new (h := H3) (n := 4136) (c := (.inl (0, 4136, .inl fun _ => 0) : Ac))
    rw [z3] at this
    exact this
  generalize hpush H3 (.inl (0, 4136, .inl fun _ => 0)) 4136 = H4 at F4 z4 a22 ⊢
  have a20 := Fr_at F4 a20 id
  have a21 := Fr_at F4 a21 id
  have o4 : ∀ a, a < 20 → H4.1 a = H0.1 a := fun a ha => (F4.2.2.2 a (by omega) (id)).trans (o3 a ha)
  have s4 : H4.2.2 ≤ H0.2.2 + 8294 := by have := F4.2.2.1; omega
  rw [show pV H4 6 20 1 (.ref 22) = some (hset H4 20 (.inr (6, [.ref 21, .ref 22, .null, .null, .null, .null, .int 0, .int 0, .null, .int 0, .int 0, .int 0, .int 0, .int 0, .int 0, .int 0, .int 0, .int 0, .null, .null, .null, .int 0]))) from at_pV a20 (Nat.le_of_ble_eq_true rfl), Option.bind_some]
  have F5 : Fr H4 (hset H4 20 (.inr (6, [.ref 21, .ref 22, .null, .null, .null, .null, .int 0, .int 0, .null, .int 0, .int 0, .int 0, .int 0, .int 0, .int 0, .int 0, .int 0, .int 0, .null, .null, .null, .int 0]))) (fun x => x = 20) 0 0 := Fr_set rfl
  have z5 : (hset H4 20 (.inr (6, [.ref 21, .ref 22, .null, .null, .null, .null, .int 0, .int 0, .null, .int 0, .int 0, .int 0, .int 0, .int 0, .int 0, .int 0, .int 0, .int 0, .null, .null, .null, .int 0]))).2.1 = 23 := z4
  have a20 : At (hset H4 20 (.inr (6, [.ref 21, .ref 22, .null, .null, .null, .null, .int 0, .int 0, .null, .int 0, .int 0, .int 0, .int 0, .int 0, .int 0, .int 0, .int 0, .int 0, .null, .null, .null, .int 0]))) 20 (.inr (6, [.ref 21, .ref 22, .null, .null, .null, .null, .int 0, .int 0, .null, .int 0, .int 0, .int 0, .int 0, .int 0, .int 0, .int 0, .int 0, .int 0, .null, .null, .null, .int 0])) := at_set_eq a20
  generalize hset H4 20 (.inr (6, [.ref 21, .ref 22, .null, .null, .null, .null, .int 0, .int 0, .null, .int 0, .int 0, .int 0, .int 0, .int 0, .int 0, .int 0, .int 0, .int 0, .null, .null, .null, .int 0])) = H5 at F5 z5 a20 ⊢
  have a21 := Fr_at F5 a21 (by decide)
  have a22 := Fr_at F5 a22 (by decide)
  have o5 : ∀ a, a < 20 → H5.1 a = H0.1 a := fun a ha => (F5.2.2.2 a (by omega) (by omega)).trans (o4 a ha)
  have s5 : H5.2.2 ≤ H0.2.2 + 8294 := by have := F5.2.2.1; omega
  rw [e_nw, z5]
  have F6 : Fr H5 (hpush H5 (.inl (0, 4136, .inl fun _ => 0)) 4136) (fun _ => False) 1 4136 := Fr_push
  have z6 : (hpush H5 (.inl (0, 4136, .inl fun _ => 0)) 4136).2.1 = 24 := congrArg (· + 1) z5
  have a23 : At (hpush H5 (.inl (0, 4136, .inl fun _ => 0)) 4136) 23 (.inl (0, 4136, .inl fun _ => 0)) := by
    have := at_new (h := H5) (n := 4136) (c := (.inl (0, 4136, .inl fun _ => 0) : Ac))
    rw [z5] at this
    exact this
  generalize hpush H5 (.inl (0, 4136, .inl fun _ => 0)) 4136 = H6 at F6 z6 a23 ⊢
  have a20 := Fr_at F6 a20 id
  have a21 := Fr_at F6 a21 id
  have a22 := Fr_at F6 a22 id
  have o6 : ∀ a, a < 20 → H6.1 a = H0.1 a := fun a ha => (F6.2.2.2 a (by omega) (id)).trans (o5 a ha)
  have s6 : H6.2.2 ≤ H0.2.2 + 12430 := by have := F6.2.2.1; omega
  rw [show pV H6 6 20 2 (.ref 23) = some (hset H6 20 (.inr (6, [.ref 21, .ref 22, .ref 23, .null, .null, .null, .int 0, .int 0, .null, .int 0, .int 0, .int 0, .int 0, .int 0, .int 0, .int 0, .int 0, .int 0, .null, .null, .null, .int 0]))) from at_pV a20 (Nat.le_of_ble_eq_true rfl), Option.bind_some]
  have F7 : Fr H6 (hset H6 20 (.inr (6, [.ref 21, .ref 22, .ref 23, .null, .null, .null, .int 0, .int 0, .null, .int 0, .int 0, .int 0, .int 0, .int 0, .int 0, .int 0, .int 0, .int 0, .null, .null, .null, .int 0]))) (fun x => x = 20) 0 0 := Fr_set rfl
  have z7 : (hset H6 20 (.inr (6, [.ref 21, .ref 22, .ref 23, .null, .null, .null, .int 0, .int 0, .null, .int 0, .int 0, .int 0, .int 0, .int 0, .int 0, .int 0, .int 0, .int 0, .null, .null, .null, .int 0]))).2.1 = 24 := z6
  have a20 : At (hset H6 20 (.inr (6, [.ref 21, .ref 22, .ref 23, .null, .null, .null, .int 0, .int 0, .null, .int 0, .int 0, .int 0, .int 0, .int 0, .int 0, .int 0, .int 0, .int 0, .null, .null, .null, .int 0]))) 20 (.inr (6, [.ref 21, .ref 22, .ref 23, .null, .null, .null, .int 0, .int 0, .null, .int 0, .int 0, .int 0, .int 0, .int 0, .int 0, .int 0, .int 0, .int 0, .null, .null, .null, .int 0])) := at_set_eq a20
  generalize hset H6 20 (.inr (6, [.ref 21, .ref 22, .ref 23, .null, .null, .null, .int 0, .int 0, .null, .int 0, .int 0, .int 0, .int 0, .int 0, .int 0, .int 0, .int 0, .int 0, .null, .null, .null, .int 0])) = H7 at F7 z7 a20 ⊢
  have a21 := Fr_at F7 a21 (by decide)
  have a22 := Fr_at F7 a22 (by decide)
  have a23 := Fr_at F7 a23 (by decide)
  have o7 : ∀ a, a < 20 → H7.1 a = H0.1 a := fun a ha => (F7.2.2.2 a (by omega) (by omega)).trans (o6 a ha)
  have s7 : H7.2.2 ≤ H0.2.2 + 12430 := by have := F7.2.2.1; omega
  rw [e_nw, z7]
  have F8 : Fr H7 (hpush H7 (.inl (0, 33088, .inl fun _ => 0)) 33088) (fun _ => False) 1 33088 := Fr_push
  have z8 : (hpush H7 (.inl (0, 33088, .inl fun _ => 0)) 33088).2.1 = 25 := congrArg (· + 1) z7
  have a24 : At (hpush H7 (.inl (0, 33088, .inl fun _ => 0)) 33088) 24 (.inl (0, 33088, .inl fun _ => 0)) := by
    have := at_new (h := H7) (n := 33088) (c := (.inl (0, 33088, .inl fun _ => 0) : Ac))
    rw [z7] at this
    exact this
  generalize hpush H7 (.inl (0, 33088, .inl fun _ => 0)) 33088 = H8 at F8 z8 a24 ⊢
  have a20 := Fr_at F8 a20 id
  have a21 := Fr_at F8 a21 id
  have a22 := Fr_at F8 a22 id
  have a23 := Fr_at F8 a23 id
  have o8 : ∀ a, a < 20 → H8.1 a = H0.1 a := fun a ha => (F8.2.2.2 a (by omega) (id)).trans (o7 a ha)
  have s8 : H8.2.2 ≤ H0.2.2 + 45518 := by have := F8.2.2.1; omega
  rw [show pV H8 6 20 3 (.ref 24) = some (hset H8 20 (.inr (6, [.ref 21, .ref 22, .ref 23, .ref 24, .null, .null, .int 0, .int 0, .null, .int 0, .int 0, .int 0, .int 0, .int 0, .int 0, .int 0, .int 0, .int 0, .null, .null, .null, .int 0]))) from at_pV a20 (Nat.le_of_ble_eq_true rfl), Option.bind_some]
  have F9 : Fr H8 (hset H8 20 (.inr (6, [.ref 21, .ref 22, .ref 23, .ref 24, .null, .null, .int 0, .int 0, .null, .int 0, .int 0, .int 0, .int 0, .int 0, .int 0, .int 0, .int 0, .int 0, .null, .null, .null, .int 0]))) (fun x => x = 20) 0 0 := Fr_set rfl
  have z9 : (hset H8 20 (.inr (6, [.ref 21, .ref 22, .ref 23, .ref 24, .null, .null, .int 0, .int 0, .null, .int 0, .int 0, .int 0, .int 0, .int 0, .int 0, .int 0, .int 0, .int 0, .null, .null, .null, .int 0]))).2.1 = 25 := z8
  have a20 : At (hset H8 20 (.inr (6, [.ref 21, .ref 22, .ref 23, .ref 24, .null, .null, .int 0, .int 0, .null, .int 0, .int 0, .int 0, .int 0, .int 0, .int 0, .int 0, .int 0, .int 0, .null, .null, .null, .int 0]))) 20 (.inr (6, [.ref 21, .ref 22, .ref 23, .ref 24, .null, .null, .int 0, .int 0, .null, .int 0, .int 0, .int 0, .int 0, .int 0, .int 0, .int 0, .int 0, .int 0, .null, .null, .null, .int 0])) := at_set_eq a20
  generalize hset H8 20 (.inr (6, [.ref 21, .ref 22, .ref 23, .ref 24, .null, .null, .int 0, .int 0, .null, .int 0, .int 0, .int 0, .int 0, .int 0, .int 0, .int 0, .int 0, .int 0, .null, .null, .null, .int 0])) = H9 at F9 z9 a20 ⊢
  have a21 := Fr_at F9 a21 (by decide)
  have a22 := Fr_at F9 a22 (by decide)
  have a23 := Fr_at F9 a23 (by decide)
  have a24 := Fr_at F9 a24 (by decide)
  have o9 : ∀ a, a < 20 → H9.1 a = H0.1 a := fun a ha => (F9.2.2.2 a (by omega) (by omega)).trans (o8 a ha)
  have s9 : H9.2.2 ≤ H0.2.2 + 45518 := by have := F9.2.2.1; omega
  rw [e_nw, z9]
  have F10 : Fr H9 (hpush H9 (.inl (0, 8272, .inl fun _ => 0)) 8272) (fun _ => False) 1 8272 := Fr_push
  have z10 : (hpush H9 (.inl (0, 8272, .inl fun _ => 0)) 8272).2.1 = 26 := congrArg (· + 1) z9
  have a25 : At (hpush H9 (.inl (0, 8272, .inl fun _ => 0)) 8272) 25 (.inl (0, 8272, .inl fun _ => 0)) := by
    have := at_new (h := H9) (n := 8272) (c := (.inl (0, 8272, .inl fun _ => 0) : Ac))
    rw [z9] at this
    exact this
  generalize hpush H9 (.inl (0, 8272, .inl fun _ => 0)) 8272 = H10 at F10 z10 a25 ⊢
  have a20 := Fr_at F10 a20 id
  have a21 := Fr_at F10 a21 id
  have a22 := Fr_at F10 a22 id
  have a23 := Fr_at F10 a23 id
  have a24 := Fr_at F10 a24 id
  have o10 : ∀ a, a < 20 → H10.1 a = H0.1 a := fun a ha => (F10.2.2.2 a (by omega) (id)).trans (o9 a ha)
  have s10 : H10.2.2 ≤ H0.2.2 + 53790 := by have := F10.2.2.1; omega
  rw [show pV H10 6 20 4 (.ref 25) = some (hset H10 20 (.inr (6, [.ref 21, .ref 22, .ref 23, .ref 24, .ref 25, .null, .int 0, .int 0, .null, .int 0, .int 0, .int 0, .int 0, .int 0, .int 0, .int 0, .int 0, .int 0, .null, .null, .null, .int 0]))) from at_pV a20 (Nat.le_of_ble_eq_true rfl), Option.bind_some]
  have F11 : Fr H10 (hset H10 20 (.inr (6, [.ref 21, .ref 22, .ref 23, .ref 24, .ref 25, .null, .int 0, .int 0, .null, .int 0, .int 0, .int 0, .int 0, .int 0, .int 0, .int 0, .int 0, .int 0, .null, .null, .null, .int 0]))) (fun x => x = 20) 0 0 := Fr_set rfl
  have z11 : (hset H10 20 (.inr (6, [.ref 21, .ref 22, .ref 23, .ref 24, .ref 25, .null, .int 0, .int 0, .null, .int 0, .int 0, .int 0, .int 0, .int 0, .int 0, .int 0, .int 0, .int 0, .null, .null, .null, .int 0]))).2.1 = 26 := z10
  have a20 : At (hset H10 20 (.inr (6, [.ref 21, .ref 22, .ref 23, .ref 24, .ref 25, .null, .int 0, .int 0, .null, .int 0, .int 0, .int 0, .int 0, .int 0, .int 0, .int 0, .int 0, .int 0, .null, .null, .null, .int 0]))) 20 (.inr (6, [.ref 21, .ref 22, .ref 23, .ref 24, .ref 25, .null, .int 0, .int 0, .null, .int 0, .int 0, .int 0, .int 0, .int 0, .int 0, .int 0, .int 0, .int 0, .null, .null, .null, .int 0])) := at_set_eq a20
  generalize hset H10 20 (.inr (6, [.ref 21, .ref 22, .ref 23, .ref 24, .ref 25, .null, .int 0, .int 0, .null, .int 0, .int 0, .int 0, .int 0, .int 0, .int 0, .int 0, .int 0, .int 0, .null, .null, .null, .int 0])) = H11 at F11 z11 a20 ⊢
  have a21 := Fr_at F11 a21 (by decide)
  have a22 := Fr_at F11 a22 (by decide)
  have a23 := Fr_at F11 a23 (by decide)
  have a24 := Fr_at F11 a24 (by decide)
  have a25 := Fr_at F11 a25 (by decide)
  have o11 : ∀ a, a < 20 → H11.1 a = H0.1 a := fun a ha => (F11.2.2.2 a (by omega) (by omega)).trans (o10 a ha)
  have s11 : H11.2.2 ≤ H0.2.2 + 53790 := by have := F11.2.2.1; omega
  rw [e_nw, z11]
  have F12 : Fr H11 (hpush H11 (.inl (3, 2, .inl fun _ => 0)) 2) (fun _ => False) 1 2 := Fr_push
  have z12 : (hpush H11 (.inl (3, 2, .inl fun _ => 0)) 2).2.1 = 27 := congrArg (· + 1) z11
  have a26 : At (hpush H11 (.inl (3, 2, .inl fun _ => 0)) 2) 26 (.inl (3, 2, .inl fun _ => 0)) := by
    have := at_new (h := H11) (n := 2) (c := (.inl (3, 2, .inl fun _ => 0) : Ac))
    rw [z11] at this
    exact this
  generalize hpush H11 (.inl (3, 2, .inl fun _ => 0)) 2 = H12 at F12 z12 a26 ⊢
  have a20 := Fr_at F12 a20 id
  have a21 := Fr_at F12 a21 id
  have a22 := Fr_at F12 a22 id
  have a23 := Fr_at F12 a23 id
  have a24 := Fr_at F12 a24 id
  have a25 := Fr_at F12 a25 id
  have o12 : ∀ a, a < 20 → H12.1 a = H0.1 a := fun a ha => (F12.2.2.2 a (by omega) (id)).trans (o11 a ha)
  have s12 : H12.2.2 ≤ H0.2.2 + 53792 := by have := F12.2.2.1; omega
  rw [show pV H12 6 20 5 (.ref 26) = some (hset H12 20 (.inr (6, [.ref 21, .ref 22, .ref 23, .ref 24, .ref 25, .ref 26, .int 0, .int 0, .null, .int 0, .int 0, .int 0, .int 0, .int 0, .int 0, .int 0, .int 0, .int 0, .null, .null, .null, .int 0]))) from at_pV a20 (Nat.le_of_ble_eq_true rfl), Option.bind_some]
  have F13 : Fr H12 (hset H12 20 (.inr (6, [.ref 21, .ref 22, .ref 23, .ref 24, .ref 25, .ref 26, .int 0, .int 0, .null, .int 0, .int 0, .int 0, .int 0, .int 0, .int 0, .int 0, .int 0, .int 0, .null, .null, .null, .int 0]))) (fun x => x = 20) 0 0 := Fr_set rfl
  have z13 : (hset H12 20 (.inr (6, [.ref 21, .ref 22, .ref 23, .ref 24, .ref 25, .ref 26, .int 0, .int 0, .null, .int 0, .int 0, .int 0, .int 0, .int 0, .int 0, .int 0, .int 0, .int 0, .null, .null, .null, .int 0]))).2.1 = 27 := z12
  have a20 : At (hset H12 20 (.inr (6, [.ref 21, .ref 22, .ref 23, .ref 24, .ref 25, .ref 26, .int 0, .int 0, .null, .int 0, .int 0, .int 0, .int 0, .int 0, .int 0, .int 0, .int 0, .int 0, .null, .null, .null, .int 0]))) 20 (.inr (6, [.ref 21, .ref 22, .ref 23, .ref 24, .ref 25, .ref 26, .int 0, .int 0, .null, .int 0, .int 0, .int 0, .int 0, .int 0, .int 0, .int 0, .int 0, .int 0, .null, .null, .null, .int 0])) := at_set_eq a20
  generalize hset H12 20 (.inr (6, [.ref 21, .ref 22, .ref 23, .ref 24, .ref 25, .ref 26, .int 0, .int 0, .null, .int 0, .int 0, .int 0, .int 0, .int 0, .int 0, .int 0, .int 0, .int 0, .null, .null, .null, .int 0])) = H13 at F13 z13 a20 ⊢
  have a21 := Fr_at F13 a21 (by decide)
  have a22 := Fr_at F13 a22 (by decide)
  have a23 := Fr_at F13 a23 (by decide)
  have a24 := Fr_at F13 a24 (by decide)
  have a25 := Fr_at F13 a25 (by decide)
  have a26 := Fr_at F13 a26 (by decide)
  have o13 : ∀ a, a < 20 → H13.1 a = H0.1 a := fun a ha => (F13.2.2.2 a (by omega) (by omega)).trans (o12 a ha)
  have s13 : H13.2.2 ≤ H0.2.2 + 53792 := by have := F13.2.2.1; omega
  rw [e_nw, z13]
  have F14 : Fr H13 (hpush H13 (.inl (0, 500, .inl fun _ => 0)) 500) (fun _ => False) 1 500 := Fr_push
  have z14 : (hpush H13 (.inl (0, 500, .inl fun _ => 0)) 500).2.1 = 28 := congrArg (· + 1) z13
  have a27 : At (hpush H13 (.inl (0, 500, .inl fun _ => 0)) 500) 27 (.inl (0, 500, .inl fun _ => 0)) := by
    have := at_new (h := H13) (n := 500) (c := (.inl (0, 500, .inl fun _ => 0) : Ac))
    rw [z13] at this
    exact this
  generalize hpush H13 (.inl (0, 500, .inl fun _ => 0)) 500 = H14 at F14 z14 a27 ⊢
  have a20 := Fr_at F14 a20 id
  have a21 := Fr_at F14 a21 id
  have a22 := Fr_at F14 a22 id
  have a23 := Fr_at F14 a23 id
  have a24 := Fr_at F14 a24 id
  have a25 := Fr_at F14 a25 id
  have a26 := Fr_at F14 a26 id
  have o14 : ∀ a, a < 20 → H14.1 a = H0.1 a := fun a ha => (F14.2.2.2 a (by omega) (id)).trans (o13 a ha)
  have s14 : H14.2.2 ≤ H0.2.2 + 54292 := by have := F14.2.2.1; omega
  rw [show pV H14 6 20 8 (.ref 27) = some (hset H14 20 (.inr (6, [.ref 21, .ref 22, .ref 23, .ref 24, .ref 25, .ref 26, .int 0, .int 0, .ref 27, .int 0, .int 0, .int 0, .int 0, .int 0, .int 0, .int 0, .int 0, .int 0, .null, .null, .null, .int 0]))) from at_pV a20 (Nat.le_of_ble_eq_true rfl), Option.bind_some]
  have F15 : Fr H14 (hset H14 20 (.inr (6, [.ref 21, .ref 22, .ref 23, .ref 24, .ref 25, .ref 26, .int 0, .int 0, .ref 27, .int 0, .int 0, .int 0, .int 0, .int 0, .int 0, .int 0, .int 0, .int 0, .null, .null, .null, .int 0]))) (fun x => x = 20) 0 0 := Fr_set rfl
  have z15 : (hset H14 20 (.inr (6, [.ref 21, .ref 22, .ref 23, .ref 24, .ref 25, .ref 26, .int 0, .int 0, .ref 27, .int 0, .int 0, .int 0, .int 0, .int 0, .int 0, .int 0, .int 0, .int 0, .null, .null, .null, .int 0]))).2.1 = 28 := z14
  have a20 : At (hset H14 20 (.inr (6, [.ref 21, .ref 22, .ref 23, .ref 24, .ref 25, .ref 26, .int 0, .int 0, .ref 27, .int 0, .int 0, .int 0, .int 0, .int 0, .int 0, .int 0, .int 0, .int 0, .null, .null, .null, .int 0]))) 20 (.inr (6, [.ref 21, .ref 22, .ref 23, .ref 24, .ref 25, .ref 26, .int 0, .int 0, .ref 27, .int 0, .int 0, .int 0, .int 0, .int 0, .int 0, .int 0, .int 0, .int 0, .null, .null, .null, .int 0])) := at_set_eq a20
  generalize hset H14 20 (.inr (6, [.ref 21, .ref 22, .ref 23, .ref 24, .ref 25, .ref 26, .int 0, .int 0, .ref 27, .int 0, .int 0, .int 0, .int 0, .int 0, .int 0, .int 0, .int 0, .int 0, .null, .null, .null, .int 0])) = H15 at F15 z15 a20 ⊢
  have a21 := Fr_at F15 a21 (by decide)
  have a22 := Fr_at F15 a22 (by decide)
  have a23 := Fr_at F15 a23 (by decide)
  have a24 := Fr_at F15 a24 (by decide)
  have a25 := Fr_at F15 a25 (by decide)
  have a26 := Fr_at F15 a26 (by decide)
  have a27 := Fr_at F15 a27 (by decide)
  have o15 : ∀ a, a < 20 → H15.1 a = H0.1 a := fun a ha => (F15.2.2.2 a (by omega) (by omega)).trans (o14 a ha)
  have s15 : H15.2.2 ≤ H0.2.2 + 54292 := by have := F15.2.2.1; omega
  rw [show pV H15 6 20 17 (.int (-1)) = some (hset H15 20 (.inr (6, [.ref 21, .ref 22, .ref 23, .ref 24, .ref 25, .ref 26, .int 0, .int 0, .ref 27, .int 0, .int 0, .int 0, .int 0, .int 0, .int 0, .int 0, .int 0, .int (-1), .null, .null, .null, .int 0]))) from at_pV a20 (Nat.le_of_ble_eq_true rfl), Option.bind_some]
  have F16 : Fr H15 (hset H15 20 (.inr (6, [.ref 21, .ref 22, .ref 23, .ref 24, .ref 25, .ref 26, .int 0, .int 0, .ref 27, .int 0, .int 0, .int 0, .int 0, .int 0, .int 0, .int 0, .int 0, .int (-1), .null, .null, .null, .int 0]))) (fun x => x = 20) 0 0 := Fr_set rfl
  have z16 : (hset H15 20 (.inr (6, [.ref 21, .ref 22, .ref 23, .ref 24, .ref 25, .ref 26, .int 0, .int 0, .ref 27, .int 0, .int 0, .int 0, .int 0, .int 0, .int 0, .int 0, .int 0, .int (-1), .null, .null, .null, .int 0]))).2.1 = 28 := z15
  have a20 : At (hset H15 20 (.inr (6, [.ref 21, .ref 22, .ref 23, .ref 24, .ref 25, .ref 26, .int 0, .int 0, .ref 27, .int 0, .int 0, .int 0, .int 0, .int 0, .int 0, .int 0, .int 0, .int (-1), .null, .null, .null, .int 0]))) 20 (.inr (6, [.ref 21, .ref 22, .ref 23, .ref 24, .ref 25, .ref 26, .int 0, .int 0, .ref 27, .int 0, .int 0, .int 0, .int 0, .int 0, .int 0, .int 0, .int 0, .int (-1), .null, .null, .null, .int 0])) := at_set_eq a20
  generalize hset H15 20 (.inr (6, [.ref 21, .ref 22, .ref 23, .ref 24, .ref 25, .ref 26, .int 0, .int 0, .ref 27, .int 0, .int 0, .int 0, .int 0, .int 0, .int 0, .int 0, .int 0, .int (-1), .null, .null, .null, .int 0])) = H16 at F16 z16 a20 ⊢
  have a21 := Fr_at F16 a21 (by decide)
  have a22 := Fr_at F16 a22 (by decide)
  have a23 := Fr_at F16 a23 (by decide)
  have a24 := Fr_at F16 a24 (by decide)
  have a25 := Fr_at F16 a25 (by decide)
  have a26 := Fr_at F16 a26 (by decide)
  have a27 := Fr_at F16 a27 (by decide)
  have o16 : ∀ a, a < 20 → H16.1 a = H0.1 a := fun a ha => (F16.2.2.2 a (by omega) (by omega)).trans (o15 a ha)
  have s16 : H16.2.2 ≤ H0.2.2 + 54292 := by have := F16.2.2.1; omega
  rw [e_nw, z16]
  have F17 : Fr H16 (hpush H16 (.inl (0, 80000, .inl fun _ => 0)) 80000) (fun _ => False) 1 80000 := Fr_push
  have z17 : (hpush H16 (.inl (0, 80000, .inl fun _ => 0)) 80000).2.1 = 29 := congrArg (· + 1) z16
  have a28 : At (hpush H16 (.inl (0, 80000, .inl fun _ => 0)) 80000) 28 (.inl (0, 80000, .inl fun _ => 0)) := by
    have := at_new (h := H16) (n := 80000) (c := (.inl (0, 80000, .inl fun _ => 0) : Ac))
    rw [z16] at this
    exact this
  generalize hpush H16 (.inl (0, 80000, .inl fun _ => 0)) 80000 = H17 at F17 z17 a28 ⊢
  have a20 := Fr_at F17 a20 id
  have a21 := Fr_at F17 a21 id
  have a22 := Fr_at F17 a22 id
  have a23 := Fr_at F17 a23 id
  have a24 := Fr_at F17 a24 id
  have a25 := Fr_at F17 a25 id
  have a26 := Fr_at F17 a26 id
  have a27 := Fr_at F17 a27 id
  have o17 : ∀ a, a < 20 → H17.1 a = H0.1 a := fun a ha => (F17.2.2.2 a (by omega) (id)).trans (o16 a ha)
  have s17 : H17.2.2 ≤ H0.2.2 + 134292 := by have := F17.2.2.1; omega
  rw [show pV H17 6 20 18 (.ref 28) = some (hset H17 20 (.inr (6, [.ref 21, .ref 22, .ref 23, .ref 24, .ref 25, .ref 26, .int 0, .int 0, .ref 27, .int 0, .int 0, .int 0, .int 0, .int 0, .int 0, .int 0, .int 0, .int (-1), .ref 28, .null, .null, .int 0]))) from at_pV a20 (Nat.le_of_ble_eq_true rfl), Option.bind_some]
  have F18 : Fr H17 (hset H17 20 (.inr (6, [.ref 21, .ref 22, .ref 23, .ref 24, .ref 25, .ref 26, .int 0, .int 0, .ref 27, .int 0, .int 0, .int 0, .int 0, .int 0, .int 0, .int 0, .int 0, .int (-1), .ref 28, .null, .null, .int 0]))) (fun x => x = 20) 0 0 := Fr_set rfl
  have z18 : (hset H17 20 (.inr (6, [.ref 21, .ref 22, .ref 23, .ref 24, .ref 25, .ref 26, .int 0, .int 0, .ref 27, .int 0, .int 0, .int 0, .int 0, .int 0, .int 0, .int 0, .int 0, .int (-1), .ref 28, .null, .null, .int 0]))).2.1 = 29 := z17
  have a20 : At (hset H17 20 (.inr (6, [.ref 21, .ref 22, .ref 23, .ref 24, .ref 25, .ref 26, .int 0, .int 0, .ref 27, .int 0, .int 0, .int 0, .int 0, .int 0, .int 0, .int 0, .int 0, .int (-1), .ref 28, .null, .null, .int 0]))) 20 (.inr (6, [.ref 21, .ref 22, .ref 23, .ref 24, .ref 25, .ref 26, .int 0, .int 0, .ref 27, .int 0, .int 0, .int 0, .int 0, .int 0, .int 0, .int 0, .int 0, .int (-1), .ref 28, .null, .null, .int 0])) := at_set_eq a20
  generalize hset H17 20 (.inr (6, [.ref 21, .ref 22, .ref 23, .ref 24, .ref 25, .ref 26, .int 0, .int 0, .ref 27, .int 0, .int 0, .int 0, .int 0, .int 0, .int 0, .int 0, .int 0, .int (-1), .ref 28, .null, .null, .int 0])) = H18 at F18 z18 a20 ⊢
  have a21 := Fr_at F18 a21 (by decide)
  have a22 := Fr_at F18 a22 (by decide)
  have a23 := Fr_at F18 a23 (by decide)
  have a24 := Fr_at F18 a24 (by decide)
  have a25 := Fr_at F18 a25 (by decide)
  have a26 := Fr_at F18 a26 (by decide)
  have a27 := Fr_at F18 a27 (by decide)
  have a28 := Fr_at F18 a28 (by decide)
  have o18 : ∀ a, a < 20 → H18.1 a = H0.1 a := fun a ha => (F18.2.2.2 a (by omega) (by omega)).trans (o17 a ha)
  have s18 : H18.2.2 ≤ H0.2.2 + 134292 := by have := F18.2.2.1; omega
  rw [e_nw, z18]
  have F19 : Fr H18 (hpush H18 (.inl (0, 9, .inl fun _ => 0)) 9) (fun _ => False) 1 9 := Fr_push
  have z19 : (hpush H18 (.inl (0, 9, .inl fun _ => 0)) 9).2.1 = 30 := congrArg (· + 1) z18
  have a29 : At (hpush H18 (.inl (0, 9, .inl fun _ => 0)) 9) 29 (.inl (0, 9, .inl fun _ => 0)) := by
    have := at_new (h := H18) (n := 9) (c := (.inl (0, 9, .inl fun _ => 0) : Ac))
    rw [z18] at this
    exact this
  generalize hpush H18 (.inl (0, 9, .inl fun _ => 0)) 9 = H19 at F19 z19 a29 ⊢
  have a20 := Fr_at F19 a20 id
  have a21 := Fr_at F19 a21 id
  have a22 := Fr_at F19 a22 id
  have a23 := Fr_at F19 a23 id
  have a24 := Fr_at F19 a24 id
  have a25 := Fr_at F19 a25 id
  have a26 := Fr_at F19 a26 id
  have a27 := Fr_at F19 a27 id
  have a28 := Fr_at F19 a28 id
  have o19 : ∀ a, a < 20 → H19.1 a = H0.1 a := fun a ha => (F19.2.2.2 a (by omega) (id)).trans (o18 a ha)
  have s19 : H19.2.2 ≤ H0.2.2 + 134301 := by have := F19.2.2.1; omega
  rw [show pV H19 6 20 19 (.ref 29) = some (hset H19 20 (.inr (6, [.ref 21, .ref 22, .ref 23, .ref 24, .ref 25, .ref 26, .int 0, .int 0, .ref 27, .int 0, .int 0, .int 0, .int 0, .int 0, .int 0, .int 0, .int 0, .int (-1), .ref 28, .ref 29, .null, .int 0]))) from at_pV a20 (Nat.le_of_ble_eq_true rfl), Option.bind_some]
  have F20 : Fr H19 (hset H19 20 (.inr (6, [.ref 21, .ref 22, .ref 23, .ref 24, .ref 25, .ref 26, .int 0, .int 0, .ref 27, .int 0, .int 0, .int 0, .int 0, .int 0, .int 0, .int 0, .int 0, .int (-1), .ref 28, .ref 29, .null, .int 0]))) (fun x => x = 20) 0 0 := Fr_set rfl
  have z20 : (hset H19 20 (.inr (6, [.ref 21, .ref 22, .ref 23, .ref 24, .ref 25, .ref 26, .int 0, .int 0, .ref 27, .int 0, .int 0, .int 0, .int 0, .int 0, .int 0, .int 0, .int 0, .int (-1), .ref 28, .ref 29, .null, .int 0]))).2.1 = 30 := z19
  have a20 : At (hset H19 20 (.inr (6, [.ref 21, .ref 22, .ref 23, .ref 24, .ref 25, .ref 26, .int 0, .int 0, .ref 27, .int 0, .int 0, .int 0, .int 0, .int 0, .int 0, .int 0, .int 0, .int (-1), .ref 28, .ref 29, .null, .int 0]))) 20 (.inr (6, [.ref 21, .ref 22, .ref 23, .ref 24, .ref 25, .ref 26, .int 0, .int 0, .ref 27, .int 0, .int 0, .int 0, .int 0, .int 0, .int 0, .int 0, .int 0, .int (-1), .ref 28, .ref 29, .null, .int 0])) := at_set_eq a20
  generalize hset H19 20 (.inr (6, [.ref 21, .ref 22, .ref 23, .ref 24, .ref 25, .ref 26, .int 0, .int 0, .ref 27, .int 0, .int 0, .int 0, .int 0, .int 0, .int 0, .int 0, .int 0, .int (-1), .ref 28, .ref 29, .null, .int 0])) = H20 at F20 z20 a20 ⊢
  have a21 := Fr_at F20 a21 (by decide)
  have a22 := Fr_at F20 a22 (by decide)
  have a23 := Fr_at F20 a23 (by decide)
  have a24 := Fr_at F20 a24 (by decide)
  have a25 := Fr_at F20 a25 (by decide)
  have a26 := Fr_at F20 a26 (by decide)
  have a27 := Fr_at F20 a27 (by decide)
  have a28 := Fr_at F20 a28 (by decide)
  have a29 := Fr_at F20 a29 (by decide)
  have o20 : ∀ a, a < 20 → H20.1 a = H0.1 a := fun a ha => (F20.2.2.2 a (by omega) (by omega)).trans (o19 a ha)
  have s20 : H20.2.2 ≤ H0.2.2 + 134301 := by have := F20.2.2.1; omega
  rw [e_nw, z20]
  have F21 : Fr H20 (hpush H20 (.inl (0, 14, .inl fun _ => 0)) 14) (fun _ => False) 1 14 := Fr_push
  have z21 : (hpush H20 (.inl (0, 14, .inl fun _ => 0)) 14).2.1 = 31 := congrArg (· + 1) z20
  have a30 : At (hpush H20 (.inl (0, 14, .inl fun _ => 0)) 14) 30 (.inl (0, 14, .inl fun _ => 0)) := by
    have := at_new (h := H20) (n := 14) (c := (.inl (0, 14, .inl fun _ => 0) : Ac))
    rw [z20] at this
    exact this
  generalize hpush H20 (.inl (0, 14, .inl fun _ => 0)) 14 = H21 at F21 z21 a30 ⊢
  have a20 := Fr_at F21 a20 id
  have a21 := Fr_at F21 a21 id
  have a22 := Fr_at F21 a22 id
  have a23 := Fr_at F21 a23 id
  have a24 := Fr_at F21 a24 id
  have a25 := Fr_at F21 a25 id
  have a26 := Fr_at F21 a26 id
  have a27 := Fr_at F21 a27 id
  have a28 := Fr_at F21 a28 id
  have a29 := Fr_at F21 a29 id
  have o21 : ∀ a, a < 20 → H21.1 a = H0.1 a := fun a ha => (F21.2.2.2 a (by omega) (id)).trans (o20 a ha)
  have s21 : H21.2.2 ≤ H0.2.2 + 134315 := by have := F21.2.2.1; omega
  rw [show pV H21 6 20 20 (.ref 30) = some (hset H21 20 (.inr (6, [.ref 21, .ref 22, .ref 23, .ref 24, .ref 25, .ref 26, .int 0, .int 0, .ref 27, .int 0, .int 0, .int 0, .int 0, .int 0, .int 0, .int 0, .int 0, .int (-1), .ref 28, .ref 29, .ref 30, .int 0]))) from at_pV a20 (Nat.le_of_ble_eq_true rfl), Option.bind_some]
  have F22 : Fr H21 (hset H21 20 (.inr (6, [.ref 21, .ref 22, .ref 23, .ref 24, .ref 25, .ref 26, .int 0, .int 0, .ref 27, .int 0, .int 0, .int 0, .int 0, .int 0, .int 0, .int 0, .int 0, .int (-1), .ref 28, .ref 29, .ref 30, .int 0]))) (fun x => x = 20) 0 0 := Fr_set rfl
  have z22 : (hset H21 20 (.inr (6, [.ref 21, .ref 22, .ref 23, .ref 24, .ref 25, .ref 26, .int 0, .int 0, .ref 27, .int 0, .int 0, .int 0, .int 0, .int 0, .int 0, .int 0, .int 0, .int (-1), .ref 28, .ref 29, .ref 30, .int 0]))).2.1 = 31 := z21
  have a20 : At (hset H21 20 (.inr (6, [.ref 21, .ref 22, .ref 23, .ref 24, .ref 25, .ref 26, .int 0, .int 0, .ref 27, .int 0, .int 0, .int 0, .int 0, .int 0, .int 0, .int 0, .int 0, .int (-1), .ref 28, .ref 29, .ref 30, .int 0]))) 20 (.inr (6, [.ref 21, .ref 22, .ref 23, .ref 24, .ref 25, .ref 26, .int 0, .int 0, .ref 27, .int 0, .int 0, .int 0, .int 0, .int 0, .int 0, .int 0, .int 0, .int (-1), .ref 28, .ref 29, .ref 30, .int 0])) := at_set_eq a20
  generalize hset H21 20 (.inr (6, [.ref 21, .ref 22, .ref 23, .ref 24, .ref 25, .ref 26, .int 0, .int 0, .ref 27, .int 0, .int 0, .int 0, .int 0, .int 0, .int 0, .int 0, .int 0, .int (-1), .ref 28, .ref 29, .ref 30, .int 0])) = H22 at F22 z22 a20 ⊢
  have a21 := Fr_at F22 a21 (by decide)
  have a22 := Fr_at F22 a22 (by decide)
  have a23 := Fr_at F22 a23 (by decide)
  have a24 := Fr_at F22 a24 (by decide)
  have a25 := Fr_at F22 a25 (by decide)
  have a26 := Fr_at F22 a26 (by decide)
  have a27 := Fr_at F22 a27 (by decide)
  have a28 := Fr_at F22 a28 (by decide)
  have a29 := Fr_at F22 a29 (by decide)
  have a30 := Fr_at F22 a30 (by decide)
  have o22 : ∀ a, a < 20 → H22.1 a = H0.1 a := fun a ha => (F22.2.2.2 a (by omega) (by omega)).trans (o21 a ha)
  have s22 : H22.2.2 ≤ H0.2.2 + 134315 := by have := F22.2.2.1; omega
  rw [show gR H22 6 20 0 = some 21 from at_gR a20 rfl, Option.bind_some]
  rw [show sI H22 0 21 (0 : Int32) (1 : Int32) = some (hset H22 21 (.inl (0, 4136, .inl (upd (fun _ => 0) 0 (1 : Int32))))) from at_sI (k := 0) a21 (by decide) (by decide), Option.bind_some]
  have F23 : Fr H22 (hset H22 21 (.inl (0, 4136, .inl (upd (fun _ => 0) 0 (1 : Int32))))) (fun x => x = 21) 0 0 := Fr_set rfl
  have z23 : (hset H22 21 (.inl (0, 4136, .inl (upd (fun _ => 0) 0 (1 : Int32))))).2.1 = 31 := z22
  have a21 : At (hset H22 21 (.inl (0, 4136, .inl (upd (fun _ => 0) 0 (1 : Int32))))) 21 (.inl (0, 4136, .inl (upd (fun _ => 0) 0 (1 : Int32)))) := at_set_eq a21
  generalize hset H22 21 (.inl (0, 4136, .inl (upd (fun _ => 0) 0 (1 : Int32)))) = H23 at F23 z23 a21 ⊢
  have a20 := Fr_at F23 a20 (by decide)
  have a22 := Fr_at F23 a22 (by decide)
  have a23 := Fr_at F23 a23 (by decide)
  have a24 := Fr_at F23 a24 (by decide)
  have a25 := Fr_at F23 a25 (by decide)
  have a26 := Fr_at F23 a26 (by decide)
  have a27 := Fr_at F23 a27 (by decide)
  have a28 := Fr_at F23 a28 (by decide)
  have a29 := Fr_at F23 a29 (by decide)
  have a30 := Fr_at F23 a30 (by decide)
  have o23 : ∀ a, a < 20 → H23.1 a = H0.1 a := fun a ha => (F23.2.2.2 a (by omega) (by omega)).trans (o22 a ha)
  have s23 : H23.2.2 ≤ H0.2.2 + 134315 := by have := F23.2.2.1; omega
  rw [show gR H23 6 20 0 = some 21 from at_gR a20 rfl, Option.bind_some]
  rw [show sI H23 0 21 (1 : Int32) (1 : Int32) = some (hset H23 21 (.inl (0, 4136, .inl (upd (upd (fun _ => 0) 0 (1 : Int32)) 1 (1 : Int32))))) from at_sI (k := 1) a21 (by decide) (by decide), Option.bind_some]
  have F24 : Fr H23 (hset H23 21 (.inl (0, 4136, .inl (upd (upd (fun _ => 0) 0 (1 : Int32)) 1 (1 : Int32))))) (fun x => x = 21) 0 0 := Fr_set rfl
  have z24 : (hset H23 21 (.inl (0, 4136, .inl (upd (upd (fun _ => 0) 0 (1 : Int32)) 1 (1 : Int32))))).2.1 = 31 := z23
  have a21 : At (hset H23 21 (.inl (0, 4136, .inl (upd (upd (fun _ => 0) 0 (1 : Int32)) 1 (1 : Int32))))) 21 (.inl (0, 4136, .inl (upd (upd (fun _ => 0) 0 (1 : Int32)) 1 (1 : Int32)))) := at_set_eq a21
  generalize hset H23 21 (.inl (0, 4136, .inl (upd (upd (fun _ => 0) 0 (1 : Int32)) 1 (1 : Int32)))) = H24 at F24 z24 a21 ⊢
  have a20 := Fr_at F24 a20 (by decide)
  have a22 := Fr_at F24 a22 (by decide)
  have a23 := Fr_at F24 a23 (by decide)
  have a24 := Fr_at F24 a24 (by decide)
  have a25 := Fr_at F24 a25 (by decide)
  have a26 := Fr_at F24 a26 (by decide)
  have a27 := Fr_at F24 a27 (by decide)
  have a28 := Fr_at F24 a28 (by decide)
  have a29 := Fr_at F24 a29 (by decide)
  have a30 := Fr_at F24 a30 (by decide)
  have o24 : ∀ a, a < 20 → H24.1 a = H0.1 a := fun a ha => (F24.2.2.2 a (by omega) (by omega)).trans (o23 a ha)
  have s24 : H24.2.2 ≤ H0.2.2 + 134315 := by have := F24.2.2.1; omega
  rw [show gR H24 6 20 0 = some 21 from at_gR a20 rfl, Option.bind_some]
  rw [show sI H24 0 21 (4 : Int32) (1 : Int32) = some (hset H24 21 (.inl (0, 4136, .inl (upd (upd (upd (fun _ => 0) 0 (1 : Int32)) 1 (1 : Int32)) 4 (1 : Int32))))) from at_sI (k := 4) a21 (by decide) (by decide), Option.bind_some]
  have F25 : Fr H24 (hset H24 21 (.inl (0, 4136, .inl (upd (upd (upd (fun _ => 0) 0 (1 : Int32)) 1 (1 : Int32)) 4 (1 : Int32))))) (fun x => x = 21) 0 0 := Fr_set rfl
  have z25 : (hset H24 21 (.inl (0, 4136, .inl (upd (upd (upd (fun _ => 0) 0 (1 : Int32)) 1 (1 : Int32)) 4 (1 : Int32))))).2.1 = 31 := z24
  have a21 : At (hset H24 21 (.inl (0, 4136, .inl (upd (upd (upd (fun _ => 0) 0 (1 : Int32)) 1 (1 : Int32)) 4 (1 : Int32))))) 21 (.inl (0, 4136, .inl (upd (upd (upd (fun _ => 0) 0 (1 : Int32)) 1 (1 : Int32)) 4 (1 : Int32)))) := at_set_eq a21
  generalize hset H24 21 (.inl (0, 4136, .inl (upd (upd (upd (fun _ => 0) 0 (1 : Int32)) 1 (1 : Int32)) 4 (1 : Int32)))) = H25 at F25 z25 a21 ⊢
  have a20 := Fr_at F25 a20 (by decide)
  have a22 := Fr_at F25 a22 (by decide)
  have a23 := Fr_at F25 a23 (by decide)
  have a24 := Fr_at F25 a24 (by decide)
  have a25 := Fr_at F25 a25 (by decide)
  have a26 := Fr_at F25 a26 (by decide)
  have a27 := Fr_at F25 a27 (by decide)
  have a28 := Fr_at F25 a28 (by decide)
  have a29 := Fr_at F25 a29 (by decide)
  have a30 := Fr_at F25 a30 (by decide)
  have o25 : ∀ a, a < 20 → H25.1 a = H0.1 a := fun a ha => (F25.2.2.2 a (by omega) (by omega)).trans (o24 a ha)
  have s25 : H25.2.2 ≤ H0.2.2 + 134315 := by have := F25.2.2.1; omega
  refine ⟨H25, rfl, z25, by omega, o25, a20.2, fun i hi => ?_⟩
  rcases (by omega : i = 0 ∨ i = 1 ∨ i = 2 ∨ i = 3 ∨ i = 4 ∨ i = 5 ∨ i = 6 ∨ i = 7 ∨ i = 8 ∨ i = 9) with rfl | rfl | rfl | rfl | rfl | rfl | rfl | rfl | rfl | rfl
  · exact a21.2
  · exact a22.2
  · exact a23.2
  · exact a24.2
  · exact a25.2
  · exact a26.2
  · exact a27.2
  · exact a28.2
  · exact a29.2
  · exact a30.2
theorem setR_at {H : Hp} {v : Nat → Int32} {A : Nat → Nat → Int32} (h0 : H.1 20 = .inr (6, rO v)) (h : ∀ i, i < 10 → H.1 (21 + i) = .inl (rT i, rN i, .inl (A i))) : H = setR v A H := Prod.ext (funext fun x => by
  show H.1 x = if x = 20 then _ else if 21 ≤ x ∧ x ≤ 30 then _ else H.1 x
  by_cases h1 : x = 20
  · rw [if_pos h1, h1, h0]
  · by_cases h2 : 21 ≤ x ∧ x ≤ 30
    · rw [if_neg h1, if_pos h2]
      have := h (x - 21) (by omega)
      rw [show 21 + (x - 21) = x by omega] at this
      exact this
    · rw [if_neg h1, if_neg h2]) rfl
theorem al0_z {k : Nat} (h0 : k ≠ 0) (h1 : k ≠ 1) (h4 : k ≠ 4) : al0 k = 0 := by
  unfold al0
  exact if_neg (by omega)
theorem Rg_al0 : Rg al0 := by
  refine ⟨by decide, by decide, by decide, by decide, fun v hv => ?_, fun v w hv hw => ?_, fun v hv h0 => ?_, fun v hv c hc => ?_⟩
  · rw [al0_z (k := 13 + v) (by omega) (by omega) (by omega), al0_z (k := 22 + v) (by omega) (by omega) (by omega), al0_z (k := 31 + v) (by omega) (by omega) (by omega)]
    refine ⟨?_, by decide, by decide, by decide⟩
    unfold al0
    split <;> decide
  · rw [al0_z (k := 13 + v) (by omega) (by omega) (by omega), Nat.zero_testBit] at hw
    cases hw
  · have h1 : al0 0 = 1 := rfl
    rw [al0_z (k := 4 + v) (by omega) (by omega) (by omega), al0_z (k := 22 + v) (by omega) (by omega) (by omega)]
    exact ⟨rfl, rfl⟩
  · have h1 : al0 1 = 1 := rfl
    by_cases h0 : v = 0
    · rw [h0, show al0 (4 + 0) = 1 from rfl] at hc
      have : c < 1 := by
        refine Nat.lt_of_not_le fun h => ?_
        rw [tb_ge (n := 1) (by decide) h] at hc
        cases hc
      omega
    · rw [al0_z (k := 4 + v) (by omega) (by omega) (by omega), Nat.zero_testBit] at hc
      cases hc
theorem Raw_al0 : RawB al0 (fun _ => 0) := ⟨rfl, fun v hv => ⟨al0_z (by omega) (by omega) (by omega), al0_z (by omega) (by omega) (by omega)⟩, fun _ _ => rfl⟩
/-- what stands before the first call -/
theorem Inv_start : ∃ H : Hp, (∀ (G : Gx), m_L_law G h00 = m_L_law_L23 G 0 20 31 (fun h13 => some (true, h13)) LF (0 : Int32) H) ∧ InvP 0 H := by
  obtain ⟨H1, e1, z1, s1, a0, b2, a1, a7, a8, a9, b10, a15, a16, a17, a18, a19⟩ := st_cls
  obtain ⟨H2, e2, z2, s2, o2, r20, rA⟩ := st_ref H1 z1
  have F2 : ∀ {a : Nat} {c : Ac}, At H1 a c → At (hpush H2 (.inl (1, 1, .inr (.inl fun _ => 0))) 1) a c := fun {a c} h => at_push ⟨by have := h.1; omega, (o2 a (by have := h.1; omega)).trans h.2⟩
  have Fb : ∀ {o : Nat} {al b : Nat → Nat}, BdH H1 o 0 al b none → BdH (hpush H2 (.inl (1, 1, .inr (.inl fun _ => 0))) 1) o 0 al b none := fun {o al b} B => by
    obtain ⟨c0, ⟨x1, c1, d1⟩, ⟨x2, c2, d2⟩, ⟨x3, c3, d3⟩, ⟨x4, c4, d4⟩⟩ := B
    exact ⟨F2 c0, ⟨x1, F2 c1, d1⟩, ⟨x2, F2 c2, d2⟩, ⟨x3, F2 c3, d3⟩, ⟨x4, F2 c4, d4⟩⟩
  have a31 : At (hpush H2 (.inl (1, 1, .inr (.inl fun _ => 0))) 1) 31 (.inl (1, 1, .inr (.inl fun _ => 0))) := by
    have := at_new (h := H2) (n := 1) (c := (.inl (1, 1, .inr (.inl fun _ => 0)) : Ac))
    rw [z2] at this
    exact this
  have z3 : (hpush H2 (.inl (1, 1, .inr (.inl fun _ => 0))) 1).2.1 = 32 := congrArg (· + 1) z2
  have s3 : (hpush H2 (.inl (1, 1, .inr (.inl fun _ => 0))) 1).2.2 ≤ 300000 := by
    show H2.2.2 + 1 ≤ 300000
    omega
  have r20' : (hpush H2 (.inl (1, 1, .inr (.inl fun _ => 0))) 1).1 20 = .inr (6, rO fun i => if i = 17 then (-1 : Int32) else 0) := (if_neg (by omega)).trans r20
  have rA' : ∀ i, i < 10 → (hpush H2 (.inl (1, 1, .inr (.inl fun _ => 0))) 1).1 (21 + i) = .inl (rT i, rN i, .inl ((fun i => if i = 0 then upd (upd (upd (fun _ => 0) 0 (1 : Int32)) 1 (1 : Int32)) 4 (1 : Int32) else fun _ => 0) i)) := fun i hi => (if_neg (by omega)).trans (rA i hi)
  refine ⟨hpush H2 (.inl (1, 1, .inr (.inl fun _ => 0))) 1, fun G => ?_, ?_⟩
  · unfold m_L_law
    rw [e_nw]
    show (m_X5_init 0 (hpush h00 _ 8)).bind _ = _
    rw [e1, Option.bind_some, e_nw, z1, e2, Option.bind_some, e_nw, z2]
    rfl
  · generalize hpush H2 (.inl (1, 1, .inr (.inl fun _ => 0))) 1 = H at F2 Fb a31 z3 s3 r20' rA' ⊢
    have a0' := F2 a0
    have b2' := Fb b2
    have a1' := F2 a1
    have a9' := F2 a9
    have b10' := Fb b10
    obtain ⟨W, K⟩ := RawB_W Raw_al0 Rg_al0 (by decide) (by decide)
    have hf := pop_le (s := fre al0)
    have AlF0 : AlF (fun i => if i = 0 then upd (upd (upd (fun _ => 0) 0 (1 : Int32)) 1 (1 : Int32)) 4 (1 : Int32) else fun _ => 0) al0 := fun t ht => by
      show (if t = 4 then (1 : Int32) else if t = 1 then (1 : Int32) else if t = 0 then (1 : Int32) else 0) = nI (al0 t)
      by_cases h4 : t = 4
      · rw [if_pos h4, h4]
        rfl
      · rw [if_neg h4]
        by_cases h1 : t = 1
        · rw [if_pos h1, h1]
          rfl
        · rw [if_neg h1]
          by_cases h0 : t = 0
          · rw [if_pos h0, h0]
            rfl
          · rw [if_neg h0, al0_z h0 h1 h4]
            rfl
    have hb0 : ∀ j a, bdx (fun _ => none) (fun _ => none) j = some a → False := fun j a e => by
      unfold bdx at e
      by_cases hj : j < 8
      · rw [if_pos hj] at e
        cases e
      · rw [if_neg hj] at e
        cases e
    refine ⟨fun i => if i = 17 then (-1 : Int32) else 0, fun i => if i = 0 then upd (upd (upd (fun _ => 0) 0 (1 : Int32)) 1 (1 : Int32)) 4 (1 : Int32) else fun _ => 0, 0, fun _ => nrf al0, al0, fun _ => 0, fun _ => 0, fun _ => 0, setR_at r20' rA', wC_self (F2 a7).2 (F2 a8).2, fun s _ => .inl rfl, by omega, Nat.le_refl _, by omega, by omega, ?_, ?_, ?_, _, a31⟩
    · exact ⟨0, none, 0, fun _ => 0, ⟨⟨by omega, a1', b2', Rg_al0, Nat.le_refl _, by decide, rfl⟩, a0', W.2.1, K, W.2.2⟩, rfl, ⟨by show 2 * (0 + pop (fre al0)) ≤ _; omega, by show 2 * (0 + pop (fre al0) + 0) ≤ _; omega⟩, AlF0, F2 a19, by decide, rfl, fun i hi => absurd hi (Nat.not_lt_zero i)⟩
    · exact ⟨0, 0, fun _ => none, fun _ => none, F2 a16, F2 a17, F2 a18, by decide, by decide, rfl, ⟨fun j a hj e => (hb0 j a e).elim, fun i j a a' hi hj hij e _ => (hb0 i a e).elim⟩, fun i hi => absurd hi (Nat.not_lt_zero i), fun i hi => .inl ⟨rfl, rfl⟩⟩
    · exact ⟨0, (-1 : Int32), fun _ => 0, fun _ => 0, ⟨_, _, _, _, _, _, a9'⟩, F2 a15, by decide, rfl, rfl, fun i hi => absurd hi (Nat.not_lt_zero i), BdH_S b10'⟩
/-- the pure half: class and reference answer alike, within the room -/
theorem law_true (G : Gx) (hL : G.2.2.2.2.1 ≤ 3072) : ∃ hF : Hp, m_L_law G h00 = some (true, hF) ∧ hF.2.1 ≤ 601024 ∧ hF.2.2 ≤ 7293034 := by
  obtain ⟨H, e, I⟩ := Inv_start
  rw [e G]
  exact lw_run G hL 513 0 LF H (by omega) (by omega) (by unfold LF; omega) I
