section VX
variable {g : Hp} {P : Nat → Int64} {Q : Nat → Int32} {num L w ld : Nat} {al bn : Nat → Nat} {lat : Option Nat} {Gn : Nat → Nat → Nat}
theorem x_chosen (V : Vx g num al bn lat L Gn w ld) (hP : CKs P Q L Gn) : ∃ P' Q', CKs P' Q' L Gn ∧ m_X5_chosenMove 0 (wC g P Q) = some (nI (bsN al bn), wC g P' Q') := by
  have h2 := (v_R V).2.2.1
  have hN := (v_R V).1
  have hbd := (brd_bd (v_R V)).2.1
  -- behind the loop
  have fin : ∀ P Q, CKs P Q L Gn → fw al bn = none → ∃ P' Q', CKs P' Q' L Gn ∧ (cv (wC g P Q) 5 0 <| b2 (m_X5_passWins 0 (wC g P Q)) fun bb52 h53 => jK (κ := Bool → Hp → Option (Int32 × Hp)) (fun v54 h55 => ((gR h55 5 0 0).bind fun a57 => (gI h55 0 a57 3).bind fun x58 => if x58 ≤ 0 then some (cbA (scN al bn (al 0)), h55) else if v54 = true then some ((100 : Int32), h55) else some (cbA (scN al bn (al 0)), h55))) fun k56 => if bb52 = true then k56 true h53 else cv h53 5 0 <| b2 (m_X5_longest 0 h53) fun x61 h62 => if (x61 - (1 : Int32)) ≤ cbB (scN al bn (al 0)) then k56 false h62 else k56 true h62) = some (nI (bsN al bn), wC g P' Q') := by
    intro P Q hP hfw
    obtain ⟨P1, Q1, hP1, e1⟩ := x_passWins V hP
    rw [v_cv V, e1, e_b2]
    simp only [e_jK]
    have hbs : bsN al bn = if pwn al then 100 else (scN al bn (al 0)).elim 100 (fun q => if 0 < al 2 ∧ q.2 < (brd al).2.1 + al 2 - 1 then 100 else q.1) := by
      unfold bsN
      rw [hfw]
      rfl
    by_cases hp : pwn al = true
    · refine ⟨P1, Q1, hP1, ?_⟩
      have h0 : 0 < al 2 := by
        unfold pwn at hp
        rw [Bool.and_eq_true, decide_eq_true_eq] at hp
        exact hp.1
      rw [if_pos hp] at hbs
      rw [if_pos hp, v_0 V, Option.bind_some, bd_P (v_B V), Option.bind_some, if_neg (nI_nle h0 (by omega)), if_pos trivial, hbs]
      rfl
    · obtain ⟨P2, Q2, hP2, e2⟩ := x_longest V hP1
      refine ⟨P2, Q2, hP2, ?_⟩
      rw [if_neg hp] at hbs
      rw [if_neg hp, v_cv V, e2, e_b2, hbs]
      simp only [v_0 V, Option.bind_some, bd_P (v_B V), if_true, Bool.false_eq_true, if_false]
      have hgs := sc_gs V (al 0) hN
      generalize scN al bn (al 0) = s at hgs ⊢
      by_cases h0 : al 2 = 0
      · have z : nI 0 ≤ (0 : Int32) := by decide
        rw [h0]
        simp only [if_pos z, ite_self]
        cases s with
        | none => rfl
        | some q =>
          show some (nI q.1, _) = some (nI (if 0 < 0 ∧ q.2 < (brd al).2.1 + 0 - 1 then 100 else q.1), _)
          rw [if_neg (fun e => absurd e.1 (by decide))]
      · have nz : ¬ nI (al 2) ≤ 0 := nI_nle (by omega) (by omega)
        simp only [if_neg nz]
        obtain ⟨m, hm⟩ : ∃ m, (brd al).2.1 + al 2 = m + 1 := ⟨(brd al).2.1 + al 2 - 1, by omega⟩
        rw [hm, nI_pred]
        cases s with
        | none =>
          rw [show cbB none = (-1 : Int32) from rfl, if_neg (m1_lt (by omega))]
          rfl
        | some q =>
          have hq := hgs q rfl
          show (if nI m ≤ nI q.2 then some (nI q.1, _) else some ((100 : Int32), _)) = some (nI (if 0 < al 2 ∧ q.2 < m + 1 - 1 then 100 else q.1), _)
          by_cases hx : q.2 < m
          · rw [if_neg (nI_ge hx (by omega)), if_pos ⟨by omega, by omega⟩]
            rfl
          · rw [if_pos (nI_le (by omega) (by omega)), if_neg (fun e => hx (by have := e.2; omega))]
  unfold m_X5_chosenMove
  have key := forQ (σ := (Nat → Int64) × (Nat → Int32)) (fun f i s => m_X5_chosenMove_L7 0 (fun v5 v6 h7 => cv h7 5 0 <| b2 (m_X5_passWins 0 h7) fun bb52 h53 => jK (κ := Bool → Hp → Option (Int32 × Hp)) (fun v54 h55 => ((gR h55 5 0 0).bind fun a57 => (gI h55 0 a57 3).bind fun x58 => if x58 ≤ 0 then some (v5, h55) else if v54 = true then some ((100 : Int32), h55) else some (v5, h55))) fun k56 => if bb52 = true then k56 true h53 else cv h53 5 0 <| b2 (m_X5_longest 0 h53) fun x61 h62 => if (x61 - (1 : Int32)) ≤ v6 then k56 false h62 else k56 true h62) (fun v8 v9 h10 => some ((((4 : Int32) * v8) + v9), h10)) f (cbA (scN al bn i)) (cbB (scN al bn i)) (nI i) (wC g s.1 s.2)) (al 0) (fun i s => CKs s.1 s.2 L Gn ∧ ∀ j, j < i → wof al bn j = 0) (fun r => ∃ P' Q', CKs P' Q' L Gn ∧ r = some (nI (bsN al bn), wC g P' Q')) (fun f i s hi hI e => ?_) (fun f s hI => ?_) LF 0 (P, Q) (Nat.zero_le _) (by unfold LF; omega) ⟨hP, fun j hj => absurd hj (Nat.not_lt_zero j)⟩
  · exact key
  · obtain ⟨P0, Q0⟩ := s
    obtain ⟨hI, hno⟩ := hI
    have hI : CKs P0 Q0 L Gn := hI
    obtain ⟨P1, Q1, hP1, e1⟩ := x_tryV V (u := i) (by omega) (sc_gs V i (by omega)) (fun v21 v22 h23 => m_X5_chosenMove_L7 0 (fun v5 v6 h7 => cv h7 5 0 <| b2 (m_X5_passWins 0 h7) fun bb52 h53 => jK (κ := Bool → Hp → Option (Int32 × Hp)) (fun v54 h55 => ((gR h55 5 0 0).bind fun a57 => (gI h55 0 a57 3).bind fun x58 => if x58 ≤ 0 then some (v5, h55) else if v54 = true then some ((100 : Int32), h55) else some (v5, h55))) fun k56 => if bb52 = true then k56 true h53 else cv h53 5 0 <| b2 (m_X5_longest 0 h53) fun x61 h62 => if (x61 - (1 : Int32)) ≤ v6 then k56 false h62 else k56 true h62) (fun v8 v9 h10 => some ((((4 : Int32) * v8) + v9), h10)) f v21 v22 (nI i + 1) h23) (fun v24 h25 => some ((((4 : Int32) * nI i) + v24), h25)) hI
    show ∃ P' Q', CKs P' Q' L Gn ∧ m_X5_chosenMove_L7 0 _ _ (f + 1) (cbA (scN al bn i)) (cbB (scN al bn i)) (nI i) (wC g P0 Q0) = _
    rw [m_X5_chosenMove_L7, v_0 V, Option.bind_some, bd_N (v_B V), Option.bind_some, iNle hi (by omega), Option.bind_some, bd_cv (v_B V), x_choices (v_B V) (v_R V) (by omega), Option.bind_some]
    simp only [e_nm]
    by_cases hw : wof al bn i = 0
    · rw [if_pos hw] at e1
      obtain ⟨P2, Q2, hP2, e2⟩ := e (P1, Q1) ⟨hP1, fun j hj => by
        by_cases hji : j = i
        · rw [hji]; exact hw
        · exact hno j (by omega)⟩
      refine ⟨P2, Q2, hP2, e1.trans ?_⟩
      rw [nI_1]
      exact e2
    · rw [if_neg hw] at e1
      refine ⟨P1, Q1, hP1, e1.trans ?_⟩
      have hbs : bsN al bn = 4 * i + lo (wof al bn i) := by
        unfold bsN
        rw [fw_some hi hw hno]
        rfl
      rw [hbs, i4, pk_mul, nI_add]
  · obtain ⟨P0, Q0⟩ := s
    obtain ⟨hI, hno⟩ := hI
    obtain ⟨P1, Q1, hP1, e1⟩ := fin P0 Q0 hI (fw_none hno)
    refine ⟨P1, Q1, hP1, ?_⟩
    show m_X5_chosenMove_L7 0 _ _ (f + 1) (cbA (scN al bn (al 0))) (cbB (scN al bn (al 0))) (nI (al 0)) (wC g P0 Q0) = _
    rw [m_X5_chosenMove_L7, v_0 V, Option.bind_some, bd_N (v_B V), Option.bind_some, iLe (Nat.le_refl _) (by omega)]
    exact e1
end VX
