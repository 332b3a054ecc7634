/-! queries answered alike: values, parts, best moves -/
def Rb (A : Nat → Nat → Int32) (al b : Nat → Nat) : Prop := Al A al ∧ Rg al ∧ Fw al ∧ Bk al b
section FG
variable {v : Nat → Int32} {A : Nat → Nat → Int32} {g : Hp} {al b : Nat → Nat}
theorem Rx_fg (hz : 31 ≤ g.2.1) (X : Rb A al b) : Rx g (wq A (fgt (A 7) 80000) (A 8)) al b := ⟨hz, Al_wq X.1, by rw [wq_7]; exact MK_fgt, X.2⟩
theorem y_fg (hz : 31 ≤ g.2.1) : m_X6_forgets 20 (setR v A g) = some (setR v (wq A (fgt (A 7) 80000) (A 8)) g) := by rw [y_forgets hz, wK_wq]
theorem d_value (hz : 31 ≤ g.2.1) (X : Rb A al b) : ∃ M B, m_X6_value 20 (setR v A g) = some (nI ((brd al).1 ^^^ al 2 % 2), setR (upd v 7 0) (wq A M B) g) := by
  obtain ⟨M, B, -, e⟩ := q_valueNow (v := upd v 7 0) (Rx_fg hz X)
  rw [wq_wq] at e
  refine ⟨M, B, ?_⟩
  unfold m_X6_value
  rw [yp7 hz, Option.bind_some, r_cv hz, y_fg hz, Option.bind_some, r_cv hz, e, e_b2]
theorem d_longest (hz : 31 ≤ g.2.1) (X : Rb A al b) : ∃ M B, m_X6_longest 20 (setR v A g) = some (nI ((brd al).2.1 + al 2), setR (upd v 7 0) (wq A M B) g) := by
  obtain ⟨M, B, hM, e⟩ := q_board (v := upd v 7 0) (Rx_fg hz X)
  have X2 := Rx_wq (B := B) (Rx_fg hz X) hM
  rw [wq_wq] at e X2
  refine ⟨M, B, ?_⟩
  unfold m_X6_longest
  rw [yp7 hz, Option.bind_some, r_cv hz, y_fg hz, Option.bind_some, r_cv hz, e, e_b2, r_a hz, Option.bind_some, q_al2 X2, Option.bind_some, p_l (brd_bd X.2.1) (by decide), nI_add]
theorem d_shortest (hz : 31 ≤ g.2.1) (X : Rb A al b) : ∃ M B, m_X6_shortest 20 (setR v A g) = some (nI ((brd al).2.2 + al 2), setR (upd v 7 0) (wq A M B) g) := by
  obtain ⟨M, B, hM, e⟩ := q_board (v := upd v 7 0) (Rx_fg hz X)
  have X2 := Rx_wq (B := B) (Rx_fg hz X) hM
  rw [wq_wq] at e X2
  refine ⟨M, B, ?_⟩
  unfold m_X6_shortest
  rw [yp7 hz, Option.bind_some, r_cv hz, y_fg hz, Option.bind_some, r_cv hz, e, e_b2, r_a hz, Option.bind_some, q_al2 X2, Option.bind_some, p_s (brd_bd X.2.1) (by decide), nI_add]
theorem d_winCol (hz : 31 ≤ g.2.1) (X : Rb A al b) {u : Nat} (hu : u < al 0) : ∃ M B, m_X6_winningColours 20 (nI u) (setR v A g) = some (nI (wof al b u), setR (upd v 7 0) (wq A M B) g) := by
  obtain ⟨M, B, hM, e⟩ := q_winningOn (v := upd v 7 0) (Rx_fg hz X) hu
  rw [wq_wq] at e
  refine ⟨M, B, ?_⟩
  have hN := X.2.1.1
  unfold m_X6_winningColours
  rw [r_cv hz, y_isVertex hz X.1 X.2.1, nI_toInt (by omega), decide_eq_true (by omega), Option.bind_some]
  simp only [e_jK]
  rw [if_pos trivial]
  refine (pz0 hz).trans ?_
  rw [r_cv hz, y_fg hz, Option.bind_some, r_cv hz, e, e_b2]
theorem d_winColX (hz : 31 ≤ g.2.1) (X : Rb A al b) {x : Int32} (hx : ¬ (0 ≤ x.toInt ∧ x.toInt < al 0)) : m_X6_winningColours 20 x (setR v A g) = some ((0 : Int32), setR (upd v 7 (nI 1)) A g) := by
  unfold m_X6_winningColours
  rw [r_cv hz, y_isVertex hz X.1 X.2.1, decide_eq_false hx, Option.bind_some]
  simp only [e_jK]
  rw [if_neg (by decide)]
  exact pzT hz (t := 1) (by decide) (by decide)
theorem d_valueIf (hz : 31 ≤ g.2.1) (X : Rb A al b) {u c : Nat} (hc : (chs al b u).testBit c = true) : ∃ M B, m_X6_valueIf 20 (nI u) (nI c) (setR v A g) = some (nI ((brd (ly al u c)).1 ^^^ al 2 % 2), setR (upd v 7 0) (wq A M B) g) := by
  obtain ⟨M, B, hM, e⟩ := q_boardIf (v := upd v 7 0) (Rx_fg hz X) hc
  have X2 := Rx_wq (B := B) (Rx_fg hz X) hM
  have hb := q_ly (Rx_fg hz X) hc
  rw [wq_wq] at e X2
  refine ⟨M, B, ?_⟩
  obtain ⟨h1, h2⟩ := chs_in hc
  have hu := (fre_0 h1).1
  have hN := X.2.1.1
  have hC := X.2.1.2.1
  have hw : wn al b u c = 0 := (chs_tb.mp hc).2
  unfold m_X6_valueIf
  rw [r_cv hz, y_isVertex hz X.1 X.2.1, nI_toInt (by omega), decide_eq_true (by omega), Option.bind_some]
  simp only [e_jK]
  rw [if_pos trivial, r_cv hz, y_isColour hz X.1 X.2.1, nI_toInt (by omega), decide_eq_true (by omega), Option.bind_some, if_pos rfl, r_cv hz, y_whyNot hz X.1 X.2.1 X.2.2.2 hu h2, Option.bind_some, hw, if_pos (by decide)]
  refine (pz0 hz).trans ?_
  rw [r_cv hz, y_fg hz, Option.bind_some, r_cv hz, e, e_b2, r_a hz, Option.bind_some, q_al2 X2, Option.bind_some, p_v hb (by decide), i_rem2 (by have := X.2.1.2.2.1; omega), nI_xor]
theorem d_valueIfX1 (hz : 31 ≤ g.2.1) (X : Rb A al b) {x y : Int32} (hx : ¬ ((0 ≤ x.toInt ∧ x.toInt < al 0) ∧ (0 ≤ y.toInt ∧ y.toInt < al 1))) : m_X6_valueIf 20 x y (setR v A g) = some ((0 : Int32), setR (upd v 7 (nI 1)) A g) := by
  unfold m_X6_valueIf
  rw [r_cv hz, y_isVertex hz X.1 X.2.1, Option.bind_some]
  simp only [e_jK]
  by_cases h1 : 0 ≤ x.toInt ∧ x.toInt < al 0
  · rw [decide_eq_true h1, if_pos rfl, r_cv hz, y_isColour hz X.1 X.2.1, Option.bind_some, decide_eq_false (fun e => hx ⟨h1, e⟩), if_neg (by decide)]
    exact pzT hz (t := 1) (by decide) (by decide)
  · rw [decide_eq_false h1, if_neg (by decide)]
    exact pzT hz (t := 1) (by decide) (by decide)
theorem d_valueIfX2 (hz : 31 ≤ g.2.1) (X : Rb A al b) {u c : Nat} (hu : u < al 0) (hc : c < al 1) (hw : wn al b u c ≠ 0) : m_X6_valueIf 20 (nI u) (nI c) (setR v A g) = some ((0 : Int32), setR (upd v 7 (nI 2)) A g) := by
  have hN := X.2.1.1
  have hC := X.2.1.2.1
  have hw4 := wn_le (al := al) (b := b) (v := u) (c := c)
  unfold m_X6_valueIf
  rw [r_cv hz, y_isVertex hz X.1 X.2.1, nI_toInt (by omega), decide_eq_true (by omega), Option.bind_some]
  simp only [e_jK]
  rw [if_pos trivial, r_cv hz, y_isColour hz X.1 X.2.1, nI_toInt (by omega), decide_eq_true (by omega), Option.bind_some, if_pos rfl, r_cv hz, y_whyNot hz X.1 X.2.1 X.2.2.2 hu hc, Option.bind_some, if_neg (nI_nle (by omega) (by omega))]
  exact pzT hz (t := 2) (by decide) (by decide)
theorem d_best (hz : 31 ≤ g.2.1) (X : Rb A al b) (hn : Nov al b) : ∃ M B, m_X6_bestMove 20 (setR v A g) = some (nI (bsN al b), setR (upd v 7 0) (wq A M B) g) := by
  obtain ⟨M, B, hM, e⟩ := q_best (v := upd v 7 0) (Rx_fg hz X) hn
  rw [wq_wq] at e
  refine ⟨M, B, ?_⟩
  unfold m_X6_bestMove
  have ho : (al 2 == 0 && prs al b (fre al) == 0) = false := Bool.eq_false_iff.mpr fun e => hn (by
    rw [Bool.and_eq_true, beq_iff_eq, beq_iff_eq] at e
    exact e)
  rw [r_cv hz, y_isOver hz X.1 X.2.1 X.2.2.2, ho, Option.bind_some]
  simp only [e_jK]
  rw [if_neg (by decide)]
  refine (pz0 hz).trans ?_
  rw [r_cv hz, y_fg hz, Option.bind_some, r_cv hz, e, e_b2]
theorem d_bestX (hz : 31 ≤ g.2.1) (X : Rb A al b) (hn : ¬ Nov al b) : m_X6_bestMove 20 (setR v A g) = some ((0 : Int32), setR (upd v 7 (nI 1)) A g) := by
  have ho : (al 2 == 0 && prs al b (fre al) == 0) = true := by
    rw [Bool.and_eq_true, beq_iff_eq, beq_iff_eq]
    exact Decidable.not_not.mp hn
  unfold m_X6_bestMove
  rw [r_cv hz, y_isOver hz X.1 X.2.1 X.2.2.2, ho, Option.bind_some]
  simp only [e_jK]
  rw [if_pos trivial]
  exact pzT hz (t := 1) (by decide) (by decide)
/-- how many moves win -/
def wmN (al b : Nat → Nat) : Nat := (if pwn al then 1 else 0) + sumN (al 0) (fun u => pop (wof al b u))
theorem d_winMoves (hz : 31 ≤ g.2.1) (X : Rb A al b) : ∃ M B, m_X6_winningMoves 20 (setR v A g) = some (nI (wmN al b), setR (upd v 7 0) (wq A M B) g) := by
  have hN := X.2.1.1
  obtain ⟨M, B, hM, e⟩ := q_passWins (v := upd v 7 0) (Rx_fg hz X)
  have X2 := Rx_wq (B := B) (Rx_fg hz X) hM
  rw [wq_wq] at e X2
  have loop : ∀ t : Nat, t ≤ 1 → ∃ M' B', m_X6_winningMoves_L24 20 (fun v10 h11 => some (v10, h11)) LF (nI t) (0 : Int32) (setR (upd v 7 0) (wq A M B) g) = some (nI (t + sumN (al 0) (fun u => pop (wof al b u))), setR (upd v 7 0) (wq A M' B') g) := by
    intro t ht
    have key := forQ (σ := (Nat → Int32) × (Nat → Int32)) (fun f i s => m_X6_winningMoves_L24 20 (fun v10 h11 => some (v10, h11)) f (nI (t + sumN i (fun u => pop (wof al b u)))) (nI i) (setR (upd v 7 0) (wq A s.1 s.2) g)) (al 0) (fun _ s => Rx g (wq A s.1 s.2) al b) (fun r => ∃ M' B', r = some (nI (t + sumN (al 0) (fun u => pop (wof al b u))), setR (upd v 7 0) (wq A M' B') g)) (fun f i s hi hI e => ?_) (fun f s hI => ?_) LF 0 (M, B) (Nat.zero_le _) (by unfold LF; omega) X2
    · exact key
    · obtain ⟨M0, B0⟩ := s
      have hI : Rx g (wq A M0 B0) al b := hI
      obtain ⟨M1, B1, hM1, e1⟩ := q_winningOn (v := upd v 7 0) hI hi
      have X3 := Rx_wq (B := B1) hI hM1
      rw [wq_wq] at e1 X3
      obtain ⟨M2, B2, e2⟩ := e (M1, B1) X3
      refine ⟨M2, B2, ?_⟩
      show m_X6_winningMoves_L24 20 (fun v10 h11 => some (v10, h11)) (f + 1) (nI (t + sumN i (fun u => pop (wof al b u)))) (nI i) (setR (upd v 7 0) (wq A M0 B0) g) = _
      have hw := wof_lt (al := al) (b := b) (u := i)
      rw [m_X6_winningMoves_L24, r_a hz, Option.bind_some, q_al0 hI, Option.bind_some, iNle hi (by omega), r_cv hz, e1, e_b2, y_bits (by omega), Option.bind_some]
      simp only [e_nm]
      rw [nI_add, nI_1, Nat.add_assoc]
      exact e2
    · obtain ⟨M0, B0⟩ := s
      refine ⟨M0, B0, ?_⟩
      have hI : Rx g (wq A M0 B0) al b := hI
      show m_X6_winningMoves_L24 20 (fun v10 h11 => some (v10, h11)) (f + 1) (nI (t + sumN (al 0) (fun u => pop (wof al b u)))) (nI (al 0)) (setR (upd v 7 0) (wq A M0 B0) g) = _
      rw [m_X6_winningMoves_L24, r_a hz, Option.bind_some, q_al0 hI, Option.bind_some, iLe (Nat.le_refl _) (by omega)]
  unfold m_X6_winningMoves wmN
  rw [yp7 hz, Option.bind_some, r_cv hz, y_fg hz, Option.bind_some, r_cv hz, e, e_b2]
  simp only [e_jK]
  by_cases hp : pwn al = true
  · rw [if_pos hp, if_pos hp]
    exact loop 1 (by decide)
  · rw [if_neg hp, if_neg hp]
    exact loop 0 (by decide)
/-- what part answers of the part S -/
def pav (al b : Nat → Nat) (S : Nat) : Nat → Int32
  | 0 => nI (pop S)
  | 1 => nI (lo S)
  | 2 => nI (al (31 + lo S)) - 1
  | 3 => nI (edg al S)
  | 4 => nI (prs al b S)
  | 5 => nI (gB al S).1
  | 6 => nI (gB al S).2.1
  | _ => nI (gB al S).2.2
/-- the part of number p, the reference's way -/
theorem d_part0 (hz : 31 ≤ g.2.1) (X : Rb A al b) (U : Ub al) {p j : Nat} (hp : p < 2 ^ 31) (hj : j ≤ 7) (hne : prt (nrf al) (fre al) p ≠ 0) : ∃ M B, m_X6_part 20 (nI p) (nI j) (setR v A g) = some (pav al b (prt (nrf al) (fre al) p) j, setR (upd v 7 0) (wq A M B) g) := by
  obtain ⟨ha, R, F, hk⟩ := id X
  have hf := fre_lt R
  have hS : prt (nrf al) (fre al) p < 512 := prt_lt hf
  have hl := lo_ok hS hne
  have hr0 : rst (nrf al) (fre al) p ≠ 0 := fun e => hne (prt_0 hf e)
  have hC := Cfg_fre R F hr0
  have hbd := gA_bd hC
  have h9 := pop_le (s := prt (nrf al) (fre al) p)
  obtain ⟨M, hM, ek⟩ := y_knownRD (v := upd v 7 0) hz (Rx_fg hz X).2.1 (Rx_fg hz X).2.2.1 hC hne
  rw [wK_wq, wq_wq] at ek
  have hj' : j = 0 ∨ j = 1 ∨ j = 2 ∨ j = 3 ∨ j = 4 ∨ j = 5 ∨ j = 6 ∨ j = 7 := by omega
  unfold m_X6_part
  simp only [e_jK]
  rw [if_pos (nI_pos' hp), r_cv hz, y_partSet hz ha R (sy_Rg R) hp, Option.bind_some, if_neg (show ¬ nI (prt (nrf al) (fre al) p) = 0 from fun e => hne ((nI_z (by omega)).mp e)), show (7 : Int32) = nI 7 from rfl, isIn_L _ (by decide), nI_toInt (by omega), decide_eq_true (by omega), Option.bind_some, if_pos rfl]
  have hban := y_banOf (v := upd v 7 0) hz ha hl.1
  rcases hj' with rfl | rfl | rfl | rfl | rfl | rfl | rfl | rfl
  · refine ⟨A 7, A 8, (pz0 hz).trans ?_⟩
    rw [wq_self, y_low hS hne, Option.bind_some, r_cv hz, hban, Option.bind_some, sw_0, y_bits hS, Option.bind_some]
    rfl
  · refine ⟨A 7, A 8, (pz0 hz).trans ?_⟩
    rw [wq_self, y_low hS hne, Option.bind_some, r_cv hz, hban, Option.bind_some, sw_s (by decide), sw_0, Option.bind_some]
    rfl
  · refine ⟨A 7, A 8, (pz0 hz).trans ?_⟩
    rw [wq_self, y_low hS hne, Option.bind_some, r_cv hz, hban, Option.bind_some]
    iterate 2 rw [sw_s (by decide)]
    rw [sw_0]
    rfl
  · refine ⟨A 7, A 8, (pz0 hz).trans ?_⟩
    rw [wq_self, y_low hS hne, Option.bind_some, r_cv hz, hban, Option.bind_some]
    iterate 3 rw [sw_s (by decide)]
    rw [sw_0, r_cv hz, y_edges hz ha R hS, Option.bind_some]
    rfl
  · refine ⟨A 7, A 8, (pz0 hz).trans ?_⟩
    rw [wq_self, y_low hS hne, Option.bind_some, r_cv hz, hban, Option.bind_some]
    iterate 4 rw [sw_s (by decide)]
    rw [sw_0, r_cv hz, y_pairsIn hz ha R hk hS (fun i hi => fre_N ((rch_cl hf).2.1 i hi)), Option.bind_some]
    rfl
  · refine ⟨M, wq A (fgt (A 7) 80000) (A 8) 8, (pz0 hz).trans ?_⟩
    rw [y_low hS hne, Option.bind_some, r_cv hz, hban, Option.bind_some]
    iterate 5 rw [sw_s (by decide)]
    rw [sw_n, r_cv hz]
    unfold m_X6_ofPart
    rw [r_cv hz, y_fg hz, Option.bind_some, r_cv hz, ek, e_b2, if_pos (show nI 5 = (5 : Int32) from rfl), e_b2, p_v hbd h9]
    rfl
  · refine ⟨M, wq A (fgt (A 7) 80000) (A 8) 8, (pz0 hz).trans ?_⟩
    rw [y_low hS hne, Option.bind_some, r_cv hz, hban, Option.bind_some]
    iterate 5 rw [sw_s (by decide)]
    rw [sw_n, r_cv hz]
    unfold m_X6_ofPart
    rw [r_cv hz, y_fg hz, Option.bind_some, r_cv hz, ek, e_b2, if_neg (show ¬ nI 6 = (5 : Int32) by decide), if_pos (show nI 6 = (6 : Int32) from rfl), e_b2, p_l hbd h9]
    rfl
  · refine ⟨M, wq A (fgt (A 7) 80000) (A 8) 8, (pz0 hz).trans ?_⟩
    rw [y_low hS hne, Option.bind_some, r_cv hz, hban, Option.bind_some]
    iterate 5 rw [sw_s (by decide)]
    rw [sw_n, r_cv hz]
    unfold m_X6_ofPart
    rw [r_cv hz, y_fg hz, Option.bind_some, r_cv hz, ek, e_b2, if_neg (show ¬ nI 7 = (5 : Int32) by decide), if_neg (show ¬ nI 7 = (6 : Int32) by decide), e_b2, p_s hbd h9]
    rfl
end FG
