section VX
variable {g : Hp} {P : Nat → Int64} {Q : Nat → Int32} {num L w ld : Nat} {al bn : Nat → Nat} {lat : Option Nat} {Gn : Nat → Nat → Nat}
theorem x_winners (V : Vx g num al bn lat L Gn w ld) {u : Nat} (hu : u < 9) (hP : CKs P Q L Gn) : ∃ P' Q', CKs P' Q' L Gn ∧ m_X5_winnersOn 0 (nI u) (wC g P Q) = some (nI (wof al bn u), wC g P' Q') := by
  unfold m_X5_winnersOn
  rw [v_0 V, Option.bind_some, bd_cv (v_B V), x_choices (v_B V) (v_R V) hu, Option.bind_some]
  have hch := chs_lt (al := al) (b := bn) (v := u) (v_R V)
  have key := forQ (σ := (Nat → Int64) × (Nat → Int32)) (fun f i s => m_X5_winnersOn_L14 0 (nI u) (nI (chs al bn u)) (fun v8 h9 => some (v8, h9)) f (nI (mks i (fun c => (chs al bn u).testBit c && ((brd (ly al u c)).1 == al 2 % 2)))) (nI i) (wC g s.1 s.2)) 3 (fun _ s => CKs s.1 s.2 L Gn) (fun r => ∃ P' Q', CKs P' Q' L Gn ∧ r = some (nI (wof al bn u), wC g P' Q')) (fun f i s hi hI e => ?_) (fun f s hI => ?_) LF 0 (P, Q) (Nat.zero_le _) (by decide) hP
  · exact key
  · obtain ⟨P0, Q0⟩ := s
    have hI : CKs P0 Q0 L Gn := hI
    have e : ∀ P1 Q1, CKs P1 Q1 L Gn → ∃ P' Q', CKs P' Q' L Gn ∧ m_X5_winnersOn_L14 0 (nI u) (nI (chs al bn u)) (fun v8 h9 => some (v8, h9)) f (nI (mks (i + 1) (fun c => (chs al bn u).testBit c && ((brd (ly al u c)).1 == al 2 % 2)))) (nI (i + 1)) (wC g P1 Q1) = some (nI (wof al bn u), wC g P' Q') := fun P1 Q1 h1 => e (P1, Q1) h1
    show ∃ P' Q', CKs P' Q' L Gn ∧ m_X5_winnersOn_L14 0 (nI u) (nI (chs al bn u)) (fun v8 h9 => some (v8, h9)) (f + 1) (nI (mks i (fun c => (chs al bn u).testBit c && ((brd (ly al u c)).1 == al 2 % 2)))) (nI i) (wC g P0 Q0) = some (nI (wof al bn u), wC g P' Q')
    rw [m_X5_winnersOn_L14, i3, iNle hi (by decide), m_has (by omega), Option.bind_some]
    simp only [e_jK, e_nm]
    by_cases hc : (chs al bn u).testBit i = true
    · obtain ⟨P1, Q1, hP1, e1⟩ := x_bhd V hc hI
      have hb := ly_bd V hc
      have e' := e P1 Q1 hP1
      rw [mks, hc, Bool.true_and] at e'
      rw [if_pos hc, v_1 V, Option.bind_some, s_cv V.1, e1, e_b2, c_value hb (by decide), Option.bind_some, v_0 V, Option.bind_some, bd_cv (v_B V), x_pv V, Option.bind_some, nI_sh (by omega), nI_or, nI_1]
      by_cases hw : (brd (ly al u i)).1 = al 2 % 2
      · rw [if_pos (by rw [hw])]
        rw [if_pos (by rw [hw]; exact beq_self_eq_true _)] at e'
        exact e'
      · rw [if_neg (fun q => hw ((nI_eq (by have := hb.1; omega) (by omega)).mp q))]
        rw [if_neg (fun q => hw (beq_iff_eq.mp q)), Nat.or_zero] at e'
        exact e'
    · have e' := e P0 Q0 hI
      rw [mks, Bool.eq_false_iff.mpr hc, Bool.false_and, if_neg (by decide), Nat.or_zero] at e'
      rw [if_neg hc, nI_1]
      exact e'
  · obtain ⟨P0, Q0⟩ := s
    refine ⟨P0, Q0, hI, ?_⟩
    show m_X5_winnersOn_L14 0 (nI u) (nI (chs al bn u)) (fun v8 h9 => some (v8, h9)) (f + 1) (nI (wof al bn u)) (nI 3) (wC g P0 Q0) = _
    rw [m_X5_winnersOn_L14, i3, iLe (Nat.le_refl _) (by decide)]
end VX
