section VX
variable {g : Hp} {P : Nat → Int64} {Q : Nat → Int32} {num L w ld : Nat} {al bn : Nat → Nat} {lat : Option Nat} {Gn : Nat → Nat → Nat}
theorem sc1_gs (V : Vx g num al bn lat L Gn w ld) {v : Nat} (hv : v < 9) {s : Option (Nat × Nat)} (h : Gs s) : ∀ n, n ≤ 3 → Gs (sc1 al bn v n s)
  | 0, _ => h
  | n + 1, hn => by
    have ih := sc1_gs V hv h n (by omega)
    rw [sc1_s]
    by_cases hc : (chs al bn v).testBit n = true
    · rw [if_pos hc]
      have := (ly_bd V hc).2.1
      have := (v_R V).2.2.1
      exact upS_gs ih (by omega) (by omega)
    · rw [if_neg hc]
      exact ih
theorem sc_gs (V : Vx g num al bn lat L Gn w ld) : ∀ n, n ≤ 9 → Gs (scN al bn n)
  | 0, _ => Gs_n
  | n + 1, hn => sc1_gs V (by omega) (sc_gs V n (by omega)) 3 (Nat.le_refl _)
/-- one vertex tried by the class: K1 goes on, K2 has won -/
theorem x_tryV (V : Vx g num al bn lat L Gn w ld) {u : Nat} (hu : u < 9) {s0 : Option (Nat × Nat)} (hs0 : Gs s0) (K1 : Int32 → Int32 → Hp → Option (Int32 × Hp)) (K2 : Int32 → Hp → Option (Int32 × Hp)) (hP : CKs P Q L Gn) : ∃ P' Q', CKs P' Q' L Gn ∧ m_X5_chosenMove_L31 0 (nI u) (nI (chs al bn u)) K1 K2 LF (cbA s0) (cbB s0) (0 : Int32) (wC g P Q) = if wof al bn u = 0 then K1 (cbA (sc1 al bn u 3 s0)) (cbB (sc1 al bn u 3 s0)) (wC g P' Q') else K2 (nI (lo (wof al bn u))) (wC g P' Q') := by
  have h2 := (v_R V).2.2.1
  have hw8 := wof_lt (al := al) (b := bn) (u := u)
  have key := forQ (σ := (Nat → Int64) × (Nat → Int32)) (fun f i s => m_X5_chosenMove_L31 0 (nI u) (nI (chs al bn u)) K1 K2 f (cbA (sc1 al bn u i s0)) (cbB (sc1 al bn u i s0)) (nI i) (wC g s.1 s.2)) 3 (fun i s => CKs s.1 s.2 L Gn ∧ ∀ j, j < i → (wof al bn u).testBit j = false) (fun r => ∃ P' Q', CKs P' Q' L Gn ∧ r = if wof al bn u = 0 then K1 (cbA (sc1 al bn u 3 s0)) (cbB (sc1 al bn u 3 s0)) (wC g P' Q') else K2 (nI (lo (wof al bn u))) (wC g P' Q')) (fun f i s hi hI e => ?_) (fun f s hI => ?_) LF 0 (P, Q) (Nat.zero_le _) (by decide) ⟨hP, fun j hj => absurd hj (Nat.not_lt_zero j)⟩
  · exact key
  · obtain ⟨P0, Q0⟩ := s
    obtain ⟨hI, hno⟩ := hI
    have hI : CKs P0 Q0 L Gn := hI
    have e : ∀ P1 Q1, CKs P1 Q1 L Gn → (wof al bn u).testBit i = false → ∃ P' Q', CKs P' Q' L Gn ∧ m_X5_chosenMove_L31 0 (nI u) (nI (chs al bn u)) K1 K2 f (cbA (sc1 al bn u (i + 1) s0)) (cbB (sc1 al bn u (i + 1) s0)) (nI (i + 1)) (wC g P1 Q1) = if wof al bn u = 0 then K1 (cbA (sc1 al bn u 3 s0)) (cbB (sc1 al bn u 3 s0)) (wC g P' Q') else K2 (nI (lo (wof al bn u))) (wC g P' Q') := fun P1 Q1 h1 h2 => e (P1, Q1) ⟨h1, fun j hj => by
      by_cases hji : j = i
      · rw [hji]; exact h2
      · exact hno j (by omega)⟩
    show ∃ P' Q', CKs P' Q' L Gn ∧ m_X5_chosenMove_L31 0 (nI u) (nI (chs al bn u)) K1 K2 (f + 1) (cbA (sc1 al bn u i s0)) (cbB (sc1 al bn u i s0)) (nI i) (wC g P0 Q0) = if wof al bn u = 0 then K1 (cbA (sc1 al bn u 3 s0)) (cbB (sc1 al bn u 3 s0)) (wC g P' Q') else K2 (nI (lo (wof al bn u))) (wC g P' Q')
    have hgs := sc1_gs V hu hs0 i (by omega)
    rw [m_X5_chosenMove_L31, i3, iNle hi (by decide), m_has (by omega), Option.bind_some]
    simp only [e_jK, e_nm]
    by_cases hc : (chs al bn u).testBit i = true
    · obtain ⟨P1, Q1, hP1, e1⟩ := x_bhd V hc hI
      have hb := ly_bd V hc
      have hb1 := hb.1
      have hb2 := hb.2.1
      rw [if_pos hc, v_1 V, Option.bind_some, s_cv V.1, e1, e_b2, c_value hb (by decide), Option.bind_some, v_0 V, Option.bind_some, bd_cv (v_B V), x_pv V, Option.bind_some, c_long hb (by decide)]
      by_cases hw : (brd (ly al u i)).1 = al 2 % 2
      · have hwt : (wof al bn u).testBit i = true := wof_tb.mpr ⟨hi, hc, hw⟩
        refine ⟨P1, Q1, hP1, ?_⟩
        rw [if_pos (by rw [hw]), if_neg (ne_0.mpr ⟨i, hwt⟩), lo_eq (by omega) hwt hno]
      · have hwf : (wof al bn u).testBit i = false := Bool.eq_false_iff.mpr fun q => hw (wof_tb.mp q).2.2
        have e' := e P1 Q1 hP1 hwf
        rw [sc1_s, if_pos hc] at e'
        rw [if_neg (fun q => hw ((nI_eq (by omega) (by omega)).mp q))]
        simp only [Option.bind_some, bd_P (v_B V)]
        rw [nI_add, i4, pk_mul, nI_add, nI_1]
        have hx18 : (brd (ly al u i)).2.1 + al 2 ≤ 18 := by omega
        generalize sc1 al bn u i s0 = s at hgs e' ⊢
        generalize (brd (ly al u i)).2.1 + al 2 = x at hx18 e' ⊢
        cases s with
        | none =>
          rw [upS_n] at e'
          rw [show cbB none = (-1 : Int32) from rfl, if_neg (m1_lt (by omega))]
          exact e'
        | some q =>
          have hq := hgs q rfl
          rw [upS_s] at e'
          rw [show cbB (some q) = nI q.2 from rfl]
          by_cases hx : q.2 < x
          · rw [if_pos hx] at e'
            rw [if_neg (nI_ge hx (by omega))]
            exact e'
          · rw [if_neg hx] at e'
            rw [if_pos (nI_le (by omega) (by omega))]
            exact e'
    · have hwf : (wof al bn u).testBit i = false := Bool.eq_false_iff.mpr fun q => hc (wof_tb.mp q).2.1
      have e' := e P0 Q0 hI hwf
      rw [sc1_s, if_neg hc] at e'
      rw [if_neg hc, nI_1]
      exact e'
  · obtain ⟨P0, Q0⟩ := s
    obtain ⟨hI, hno⟩ := hI
    refine ⟨P0, Q0, hI, ?_⟩
    have h0 : wof al bn u = 0 := bit_eq fun j => by
      rw [Nat.zero_testBit]
      refine ⟨fun q => ?_, fun q => by cases q⟩
      rw [hno j (wof_tb.mp q).1] at q
      cases q
    rw [if_pos h0]
    show m_X5_chosenMove_L31 0 (nI u) (nI (chs al bn u)) K1 K2 (f + 1) (cbA (sc1 al bn u 3 s0)) (cbB (sc1 al bn u 3 s0)) (nI 3) (wC g P0 Q0) = _
    rw [m_X5_chosenMove_L31, i3, iLe (Nat.le_refl _) (by decide)]
end VX
