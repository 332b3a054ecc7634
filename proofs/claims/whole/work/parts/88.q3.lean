/-! queries of values: the class's side; means -/
section PX
variable {v : Nat → Int32} {A : Nat → Nat → Int32} {g : Hp} {al b : Nat → Nat}
theorem prt_hi {nr : Nat → Nat} {set p : Nat} (hy : Sy nr) (hset : set < 512) (hp : 9 ≤ p) : prt nr set p = 0 := by
  obtain ⟨d, rfl⟩ : ∃ d, p = 9 + d := ⟨p - 9, by omega⟩
  exact prt_0 hset (rst_min hy hset d)
theorem d_partX1 (hz : 31 ≤ g.2.1) (X : Rb A al b) {x y : Int32} (hx : x < 0 ∨ ∃ p, p < 2 ^ 31 ∧ x = nI p ∧ prt (nrf al) (fre al) p = 0) : m_X6_part 20 x y (setR v A g) = some ((0 : Int32), setR (upd v 7 (nI 1)) A g) := by
  obtain ⟨ha, R, F, hk⟩ := id X
  unfold m_X6_part
  simp only [e_jK]
  rcases hx with hx | ⟨p, hp, rfl, h0⟩
  · rw [if_neg (Int32.not_le.mpr hx), if_pos trivial]
    exact pzT hz (t := 1) (by decide) (by decide)
  · rw [if_pos (nI_pos' hp), r_cv hz, y_partSet hz ha R (sy_Rg R) hp, Option.bind_some, h0, if_pos (show nI 0 = (0 : Int32) from rfl)]
    exact pzT hz (t := 1) (by decide) (by decide)
theorem d_partX2 (hz : 31 ≤ g.2.1) (X : Rb A al b) {p : Nat} {y : Int32} (hp : p < 2 ^ 31) (hne : prt (nrf al) (fre al) p ≠ 0) (hy : ¬ (0 ≤ y.toInt ∧ y.toInt ≤ 7)) : m_X6_part 20 (nI p) y (setR v A g) = some ((0 : Int32), setR (upd v 7 (nI 2)) A g) := by
  obtain ⟨ha, R, F, hk⟩ := id X
  have hS : prt (nrf al) (fre al) p < 512 := prt_lt (fre_lt R)
  unfold m_X6_part
  simp only [e_jK]
  rw [if_pos (nI_pos' hp), r_cv hz, y_partSet hz ha R (sy_Rg R) hp, Option.bind_some, if_neg (show ¬ nI (prt (nrf al) (fre al) p) = 0 from fun e => hne ((nI_z (by omega)).mp e)), show (7 : Int32) = nI 7 from rfl, isIn_L _ (by decide), decide_eq_false (show ¬ (0 ≤ y.toInt ∧ y.toInt ≤ ((7 : Nat) : Int)) from hy), Option.bind_some, if_neg (by decide)]
  exact pzT hz (t := 2) (by decide) (by decide)
theorem d_wo (hz : 31 ≤ g.2.1) (X : Rb A al b) (U : Ub al) {u : Nat} (hu : u < al 0) (hf : (fre al).testBit u = false) : m_X6_valueWithout 20 (nI u) (setR v A g) = some ((0 : Int32), setR (upd v 7 (nI 2)) A g) := by
  obtain ⟨ha, R, F, hk⟩ := id X
  have hN := R.1
  unfold m_X6_valueWithout
  rw [r_cv hz, y_isVertex hz ha R, nI_toInt (by omega), decide_eq_true (by omega), Option.bind_some]
  simp only [e_jK]
  rw [if_pos trivial, r_cv hz, y_isFree hz ha R (by omega), fre_v hu, hf, Option.bind_some, if_neg (by decide)]
  exact pzT hz (t := 2) (by decide) (by decide)
theorem d_woX (hz : 31 ≤ g.2.1) (X : Rb A al b) {x : Int32} (hx : ¬ (0 ≤ x.toInt ∧ x.toInt < al 0)) : m_X6_valueWithout 20 x (setR v A g) = some ((0 : Int32), setR (upd v 7 (nI 1)) A g) := by
  obtain ⟨ha, R, F, hk⟩ := id X
  unfold m_X6_valueWithout
  rw [r_cv hz, y_isVertex hz ha R, decide_eq_false hx, Option.bind_some]
  simp only [e_jK]
  rw [if_neg (by decide)]
  exact pzT hz (t := 1) (by decide) (by decide)
/-- the sum of the values of the first n parts -/
def mvs (al : Nat → Nat) (n : Nat) : Nat := sumN n (fun j => (gB al (prt (nrf al) (fre al) j)).1)
theorem mvs_le (R : Rg al) : ∀ n, mvs al n + pop (rst (nrf al) (fre al) n) ≤ 9
  | 0 => by
    show 0 + pop (fre al) ≤ 9
    have := pop_le (s := fre al)
    omega
  | n + 1 => by
    have ih := mvs_le R n
    have hf := fre_lt R
    have hg := (gB_bd R (prt_lt (j := n) (nr := nrf al) hf)).1
    have e := pop_split (prt_sub (nr := nrf al) (j := n) (sy_Rg R) hf)
    have e' : pop (rst (nrf al) (fre al) (n + 1)) + pop (prt (nrf al) (fre al) n) = pop (rst (nrf al) (fre al) n) := e
    show (mvs al n + (gB al (prt (nrf al) (fre al) n)).1) + pop (rst (nrf al) (fre al) (n + 1)) ≤ 9
    omega
theorem np_rst {nr : Nat → Nat} {set : Nat} : ∀ k j i, i < npf nr set k j → j ≤ i → rst nr set i ≠ 0
  | 0, j, i, h, hj => by
    rw [npf] at h
    omega
  | k + 1, j, i, h, hj => by
    rw [npf] at h
    by_cases h0 : rst nr set j = 0
    · rw [if_pos h0] at h
      omega
    · rw [if_neg h0] at h
      by_cases e : i = j
      · rw [e]
        exact h0
      · exact np_rst k (j + 1) i h (by omega)
theorem mean_ok : ∀ s, s < 10 → ∀ p, p < 10 → p ≠ 0 → n32 (FP.fdiv (FP.i2f (nI s)) (FP.i2f (nI p))) = some (FP.fdiv (FP.i2f (nI s)) (FP.i2f (nI p))) := by decide +kernel
def meanN (al : Nat → Nat) : UInt32 := if np (nrf al) (fre al) = 0 then FP.fconst0 else FP.fdiv (FP.i2f (nI (mvs al (np (nrf al) (fre al))))) (FP.i2f (nI (np (nrf al) (fre al))))
theorem d_mean (hz : 31 ≤ g.2.1) (X : Rb A al b) : ∃ M B, m_X6_meanValue 20 (setR v A g) = some (meanN al, setR (upd v 7 0) (wq A M B) g) := by
  obtain ⟨ha, R, F, hk⟩ := id X
  have hf := fre_lt R
  have hnp := np_le (nr := nrf al) (set := fre al)
  have X2 := Rx_fg hz X
  have hs := mvs_le R (np (nrf al) (fre al))
  have key := forQ (σ := (Nat → Int32) × (Nat → Int32)) (fun f i s => m_X6_meanValue_L22 20 (nI (np (nrf al) (fre al))) (fun v9 h10 => if nI (np (nrf al) (fre al)) = 0 then some (FP.fconst0, h10) else (n32 (FP.fdiv (FP.i2f v9) (FP.i2f (nI (np (nrf al) (fre al)))))).bind fun x20 => some (x20, h10)) f (nI (mvs al i)) (nI i) (setR (upd v 7 0) (wq A s.1 s.2) g)) (np (nrf al) (fre al)) (fun _ s => Rx g (wq A s.1 s.2) al b) (fun r => ∃ M B, r = some (meanN al, setR (upd v 7 0) (wq A M B) g)) (fun f i s hi hI e => ?_) (fun f s hI => ?_) LF 0 (fgt (A 7) 80000, A 8) (Nat.zero_le _) (by unfold LF; omega) X2
  · obtain ⟨M, B, ek⟩ := key
    refine ⟨M, B, ?_⟩
    unfold m_X6_meanValue
    rw [yp7 hz, Option.bind_some, r_cv hz, y_fg hz, Option.bind_some, r_cv hz, y_freeSet hz X2.2.1 R, Option.bind_some, r_cv hz, y_partsIn hz X2.2.1 R (sy_Rg R) hf (fun i hi => fre_N hi), Option.bind_some]
    exact ek
  · obtain ⟨M0, B0⟩ := s
    have hI : Rx g (wq A M0 B0) al b := hI
    have hr0 := np_rst (nr := nrf al) (set := fre al) 9 0 i hi (Nat.zero_le _)
    have hS : prt (nrf al) (fre al) i < 512 := prt_lt hf
    have hne := prt_ne (sy_Rg R) hf hr0
    have hl := lo_ok hS hne
    have hC := Cfg_fre R F hr0
    have hbd := gA_bd hC
    have h9 := pop_le (s := prt (nrf al) (fre al) i)
    obtain ⟨M1, hM1, e1⟩ := y_knownRD (v := upd v 7 0) hz hI.2.1 hI.2.2.1 hC hne
    have X3 := Rx_wq (B := wq A M0 B0 8) hI hM1
    rw [wK_wq, wq_wq] at e1
    rw [wq_wq] at X3
    obtain ⟨M2, B2, e2⟩ := e (M1, wq A M0 B0 8) X3
    refine ⟨M2, B2, ?_⟩
    show m_X6_meanValue_L22 20 (nI (np (nrf al) (fre al))) _ (f + 1) (nI (mvs al i)) (nI i) (setR (upd v 7 0) (wq A M0 B0) g) = _
    rw [m_X6_meanValue_L22, iNle hi (by omega), r_cv hz, y_partSet hz hI.2.1 R (sy_Rg R) (by omega), Option.bind_some, r_cv hz, Option.bind_some, y_low hS hne, Option.bind_some, r_cv hz, y_banOf hz hI.2.1 hl.1, Option.bind_some, r_cv hz, e1, e_b2, p_v hbd h9]
    simp only [e_nm]
    rw [nI_add, nI_1]
    exact e2
  · obtain ⟨M0, B0⟩ := s
    refine ⟨M0, B0, ?_⟩
    show m_X6_meanValue_L22 20 (nI (np (nrf al) (fre al))) _ (f + 1) (nI (mvs al (np (nrf al) (fre al)))) (nI (np (nrf al) (fre al))) (setR (upd v 7 0) (wq A M0 B0) g) = _
    rw [m_X6_meanValue_L22, iLe (Nat.le_refl _) (by omega)]
    unfold meanN
    by_cases h0 : np (nrf al) (fre al) = 0
    · rw [if_pos h0, h0, if_pos (show nI 0 = (0 : Int32) from rfl)]
    · rw [if_neg h0, if_neg (show ¬ nI (np (nrf al) (fre al)) = 0 from fun e => h0 ((nI_z (by omega)).mp e)), mean_ok _ (by omega) _ (by omega) h0, Option.bind_some]
end PX
section VX
variable {g : Hp} {P : Nat → Int64} {Q : Nat → Int32} {num L w ld : Nat} {al bn : Nat → Nat} {lat : Option Nat} {Gn : Nat → Nat → Nat}
theorem x_one (V : Vx g num al bn lat L Gn w ld) {p : Nat} (hne : prt (nrf al) (fre al) p ≠ 0) (hP : CKs P Q L Gn) : ∃ P' Q', CKs P' Q' L Gn ∧ m_X4_ofPartsIn 1 (nI (prt (nrf al) (fre al) p)) (wC g P Q) = some (nI (pk (gB al (prt (nrf al) (fre al) p))), wC g P' Q') := by
  have R := v_R V
  have hf := fre_lt R
  have hr0 : rst (nrf al) (fre al) p ≠ 0 := fun e => hne (prt_0 hf e)
  obtain ⟨p1, p2, p3⟩ := prt_in (sy_Rg R) hf hr0
  have e : pcs (nrf al) (prt (nrf al) (fre al) p) (gB al) = gB al (prt (nrf al) (fre al) p) := pcs_one (sy_Rg R) hf p3
  have := x_partsInS V.1 V.2.2.2.1 V.2.2.2.2 (s := prt (nrf al) (fre al) p) (Cs_rch hf) hP
  rw [e] at this
  exact this
theorem c_part (V : Vx g num al bn lat L Gn w ld) {p j : Nat} (hp : p < 2 ^ 31) (hj : j ≤ 7) (hne : prt (nrf al) (fre al) p ≠ 0) (hP : CKs P Q L Gn) : ∃ P' Q', CKs P' Q' L Gn ∧ m_X5_part 0 (nI p) (nI j) (wC g P Q) = some (.inl (pav al bn (prt (nrf al) (fre al) p) j), wC g P' Q') := by
  have R := v_R V
  have hf := fre_lt R
  have B := v_B (P := P) (Q := Q) V
  have hS : prt (nrf al) (fre al) p < 512 := prt_lt hf
  have hl := lo_ok hS hne
  have hr0 : rst (nrf al) (fre al) p ≠ 0 := fun e => hne (prt_0 hf e)
  obtain ⟨q1, q2⟩ := prt_of R Cs_self hf hr0
  have hpt : Ptb al (prt (nrf al) (fre al) p) := by
    rw [q2]
    exact Ptb_rch R V.2.2.2.2 q1
  have hban : m_X0_banOf 2 (nI (prt (nrf al) (fre al) p)) (wC g P Q) = some (nI (al (31 + lo (prt (nrf al) (fre al) p))) - 1) := x_banP B V.2.2.2.1 hS hpt.2.2.1 hl.2 hpt.2.2.2 (R.2.2.2.2.1 _ hl.1).2.2.2
  have hbd : Bd3 (gB al (prt (nrf al) (fre al) p)) (pop (prt (nrf al) (fre al) p)) := gB_bd R hS
  have h9 := pop_le (s := prt (nrf al) (fre al) p)
  obtain ⟨P1, Q1, hP1, e1⟩ := x_one V hne hP
  have hj' : j = 0 ∨ j = 1 ∨ j = 2 ∨ j = 3 ∨ j = 4 ∨ j = 5 ∨ j = 6 ∨ j = 7 := by omega
  unfold m_X5_part
  rw [v_0 V, Option.bind_some, bd_cv B, x_partAt B R (sy_Rg R) hp, Option.bind_some, if_neg (show ¬ nI (prt (nrf al) (fre al) p) = 0 from fun e => hne ((nI_z (by omega)).mp e))]
  rcases hj' with rfl | rfl | rfl | rfl | rfl | rfl | rfl | rfl
  · refine ⟨P, Q, hP, ?_⟩
    rw [sw_0, i_bits hS, Option.bind_some]
    rfl
  · refine ⟨P, Q, hP, ?_⟩
    rw [sw_s (by decide), sw_0, m_least hS hne, Option.bind_some]
    rfl
  · refine ⟨P, Q, hP, ?_⟩
    iterate 2 rw [sw_s (by decide)]
    rw [sw_0, Option.bind_some, bd_cv B, hban, Option.bind_some]
    rfl
  · refine ⟨P, Q, hP, ?_⟩
    iterate 3 rw [sw_s (by decide)]
    rw [sw_0, Option.bind_some, bd_cv B, x_edges B R hS, Option.bind_some]
    rfl
  · refine ⟨P, Q, hP, ?_⟩
    iterate 4 rw [sw_s (by decide)]
    rw [sw_0, Option.bind_some, bd_cv B, x_choicesIn B R, Option.bind_some]
    rfl
  · refine ⟨P1, Q1, hP1, ?_⟩
    iterate 5 rw [sw_s (by decide)]
    rw [sw_0, v_1 V, Option.bind_some, s_cv V.1, e1, e_b2, c_value hbd h9, Option.bind_some]
    rfl
  · refine ⟨P1, Q1, hP1, ?_⟩
    iterate 6 rw [sw_s (by decide)]
    rw [sw_0, v_1 V, Option.bind_some, s_cv V.1, e1, e_b2, c_long hbd h9, Option.bind_some]
    rfl
  · refine ⟨P1, Q1, hP1, ?_⟩
    iterate 7 rw [sw_s (by decide)]
    rw [sw_0, v_1 V, Option.bind_some, s_cv V.1, e1, e_b2, c_short hbd h9, Option.bind_some]
    rfl
theorem c_partX1 (V : Vx g num al bn lat L Gn w ld) {x y : Int32} (hx : x < 0 ∨ ∃ p, p < 2 ^ 31 ∧ x = nI p ∧ prt (nrf al) (fre al) p = 0) : m_X5_part 0 x y (wC g P Q) = some (.inr 2, hpush (wC g P Q) (.inr (9, [])) 6) := by
  have R := v_R V
  have B := v_B (P := P) (Q := Q) V
  unfold m_X5_part
  rw [v_0 V, Option.bind_some, bd_cv B]
  rcases hx with hx | ⟨p, hp, rfl, h0⟩
  · rw [x_partAtN B R (sy_Rg R) hx, Option.bind_some, if_pos rfl]
  · rw [x_partAt B R (sy_Rg R) hp, Option.bind_some, h0, if_pos (show nI 0 = (0 : Int32) from rfl)]
theorem c_partX2 (V : Vx g num al bn lat L Gn w ld) {p : Nat} {y : Int32} (hp : p < 2 ^ 31) (hne : prt (nrf al) (fre al) p ≠ 0) (hy : ¬ (0 ≤ y.toInt ∧ y.toInt ≤ 7)) : m_X5_part 0 (nI p) y (wC g P Q) = some (.inr 1, hpush (wC g P Q) (.inr (8, [])) 6) := by
  have R := v_R V
  have B := v_B (P := P) (Q := Q) V
  have hS : prt (nrf al) (fre al) p < 512 := prt_lt (fre_lt R)
  unfold m_X5_part
  rw [v_0 V, Option.bind_some, bd_cv B, x_partAt B R (sy_Rg R) hp, Option.bind_some, if_neg (show ¬ nI (prt (nrf al) (fre al) p) = 0 from fun e => hne ((nI_z (by omega)).mp e))]
  exact sw_out (n := 7) rfl hy
theorem c_valueIf (V : Vx g num al bn lat L Gn w ld) {u c : Nat} (hc : (chs al bn u).testBit c = true) (hP : CKs P Q L Gn) : ∃ P' Q', CKs P' Q' L Gn ∧ m_X5_valueIf 0 (nI u) (nI c) (wC g P Q) = some (.inl (nI ((brd (ly al u c)).1 ^^^ al 2 % 2)), wC g P' Q') := by
  have R := v_R V
  have B := v_B (P := P) (Q := Q) V
  obtain ⟨P1, Q1, hP1, e1⟩ := x_bhd V hc hP
  refine ⟨P1, Q1, hP1, ?_⟩
  obtain ⟨h1, h2⟩ := chs_in hc
  have hu := (fre_0 h1).1
  have hN := R.1
  have hC := R.2.1
  have hw : wn al bn u c = 0 := (chs_tb.mp hc).2
  unfold m_X5_valueIf
  rw [v_0 V, Option.bind_some, bd_cv B, x_hasPair B R, nI_toInt (by omega), nI_toInt (by omega), decide_eq_true (by omega), decide_eq_true (by omega), Option.bind_some, if_pos (show (true && true) = true from rfl), Option.bind_some, bd_cv B, x_whyNot B R (by omega) (by omega), Option.bind_some, hw, if_pos (show nI 0 = (0 : Int32) from rfl), v_1 V, Option.bind_some, s_cv V.1, e1, e_b2, c_value (ly_bd V hc) (by decide), Option.bind_some, v_0 V, Option.bind_some, bd_cv (v_B V), x_pv V, Option.bind_some, nI_xor]
theorem c_valueIfX1 (V : Vx g num al bn lat L Gn w ld) {x y : Int32} (hx : ¬ ((0 ≤ x.toInt ∧ x.toInt < al 0) ∧ (0 ≤ y.toInt ∧ y.toInt < al 1))) : m_X5_valueIf 0 x y (wC g P Q) = some (.inr 2, hpush (wC g P Q) (.inr (9, [])) 6) := by
  unfold m_X5_valueIf
  rw [v_0 V, Option.bind_some, bd_cv (v_B V), x_hasPair (v_B V) (v_R V), Option.bind_some, if_neg]
  rw [Bool.and_eq_true, decide_eq_true_eq, decide_eq_true_eq]
  exact hx
theorem c_valueIfX2 (V : Vx g num al bn lat L Gn w ld) {u c : Nat} (hu : u < al 0) (hc : c < al 1) (hw : wn al bn u c ≠ 0) : m_X5_valueIf 0 (nI u) (nI c) (wC g P Q) = some (.inr 3, hpush (wC g P Q) (.inr (10, [])) 6) := by
  have R := v_R V
  have B := v_B (P := P) (Q := Q) V
  have hN := R.1
  have hC := R.2.1
  have hw4 := wn_le (al := al) (b := bn) (v := u) (c := c)
  unfold m_X5_valueIf
  rw [v_0 V, Option.bind_some, bd_cv B, x_hasPair B R, nI_toInt (by omega), nI_toInt (by omega), decide_eq_true (by omega), decide_eq_true (by omega), Option.bind_some, if_pos (show (true && true) = true from rfl), Option.bind_some, bd_cv B, x_whyNot B R (by omega) (by omega), Option.bind_some, if_neg (show ¬ nI (wn al bn u c) = 0 from fun e => hw ((nI_z (by omega)).mp e))]
theorem c_winCol (V : Vx g num al bn lat L Gn w ld) {u : Nat} (hu : u < al 0) (hP : CKs P Q L Gn) : ∃ P' Q', CKs P' Q' L Gn ∧ m_X5_winningColours 0 (nI u) (wC g P Q) = some (.inl (nI (wof al bn u)), wC g P' Q') := by
  have hN := (v_R V).1
  obtain ⟨P1, Q1, hP1, e1⟩ := x_winners V (u := u) (by omega) hP
  refine ⟨P1, Q1, hP1, ?_⟩
  unfold m_X5_winningColours
  rw [v_0 V, Option.bind_some, bd_cv (v_B V), x_hasVertex (v_B V) (v_R V), nI_toInt (by omega), decide_eq_true (by omega), Option.bind_some, if_pos rfl, v_cv V, e1, e_b2]
theorem c_winColX (V : Vx g num al bn lat L Gn w ld) {x : Int32} (hx : ¬ (0 ≤ x.toInt ∧ x.toInt < al 0)) : m_X5_winningColours 0 x (wC g P Q) = some (.inr 2, hpush (wC g P Q) (.inr (9, [])) 6) := by
  unfold m_X5_winningColours
  rw [v_0 V, Option.bind_some, bd_cv (v_B V), x_hasVertex (v_B V) (v_R V), decide_eq_false hx, Option.bind_some, if_neg (by decide)]
theorem c_best (V : Vx g num al bn lat L Gn w ld) (hn : Nov al bn) (hP : CKs P Q L Gn) : ∃ P' Q', CKs P' Q' L Gn ∧ m_X5_bestMove 0 (wC g P Q) = some (.inl (nI (bsN al bn)), wC g P' Q') := by
  obtain ⟨P1, Q1, hP1, e1⟩ := x_chosen V hP
  refine ⟨P1, Q1, hP1, ?_⟩
  have ho : (al 2 == 0 && prs al bn (fre al) == 0) = false := Bool.eq_false_iff.mpr fun e => hn (by
    rw [Bool.and_eq_true, beq_iff_eq, beq_iff_eq] at e
    exact e)
  unfold m_X5_bestMove
  rw [v_0 V, Option.bind_some, bd_cv (v_B V), x_isOver (v_B V) (v_R V), ho, Option.bind_some, if_neg (by decide), v_cv V, e1, e_b2]
theorem c_bestX (V : Vx g num al bn lat L Gn w ld) (hn : ¬ Nov al bn) : m_X5_bestMove 0 (wC g P Q) = some (.inr 3, hpush (wC g P Q) (.inr (10, [])) 6) := by
  have ho : (al 2 == 0 && prs al bn (fre al) == 0) = true := by
    rw [Bool.and_eq_true, beq_iff_eq, beq_iff_eq]
    exact Decidable.not_not.mp hn
  unfold m_X5_bestMove
  rw [v_0 V, Option.bind_some, bd_cv (v_B V), x_isOver (v_B V) (v_R V), ho, Option.bind_some, if_pos rfl]
theorem c_wo (V : Vx g num al bn lat L Gn w ld) {u : Nat} (hu : (fre al).testBit u = true) (hP : CKs P Q L Gn) : ∃ P' Q', CKs P' Q' L Gn ∧ m_X5_valueWithout 0 (nI u) (wC g P Q) = some (.inl (nI ((wo al u).1 ^^^ al 2 % 2)), wC g P' Q') := by
  have hN := (v_R V).1
  have hu0 := (fre_0 hu).1
  obtain ⟨P1, Q1, hP1, e1⟩ := x_without V.1 V.2.2.2.1 V.2.2.2.2 hu hP
  refine ⟨P1, Q1, hP1, ?_⟩
  have hb : Bd3 (wo al u) 9 := by
    have R := v_R V
    have hf := fre_lt R
    have hP5 : rch (nrf al) (fre al) (2 ^ u) < 512 := rch_lt hf
    have h1 := pcs_gB R (s := dif (fre al) (rch (nrf al) (fre al) (2 ^ u))) (dif_l9 hf)
    have h2 : Bd3 (pcs (nrf al) (dif (rch (nrf al) (fre al) (2 ^ u)) (2 ^ u)) (fun q => gA al q (al (31 + u)))) (pop (dif (rch (nrf al) (fre al) (2 ^ u)) (2 ^ u))) := pcs_bd (sy_Rg R) (dif_l9 hP5) fun j _ => gr_b9 R (Okp_opf R (prt_lt (dif_l9 hP5)))
    have h3 := pop_rest R hu
    have := cmb_bd h1 h2 h3
    have t : Bd3 (wo al u) (pop (dif (fre al) (rch (nrf al) (fre al) (2 ^ u))) + pop (dif (rch (nrf al) (fre al) (2 ^ u)) (2 ^ u))) := this
    exact ⟨by have := t.1; omega, by have := t.2.1; omega, by have := t.2.2; omega⟩
  unfold m_X5_valueWithout
  rw [v_0 V, Option.bind_some, bd_cv (v_B V), x_hasVertex (v_B V) (v_R V), nI_toInt (by omega), decide_eq_true (by omega), Option.bind_some, if_pos rfl, Option.bind_some, bd_cv (v_B V), x_isFree (v_B V) (by omega), hu, Option.bind_some, if_pos rfl, v_1 V, Option.bind_some, s_cv V.1, e1, e_b2, c_value hb (by decide), Option.bind_some, v_0 V, Option.bind_some, bd_cv (v_B V), x_pv V, Option.bind_some, nI_xor]
theorem c_woX2 (V : Vx g num al bn lat L Gn w ld) {u : Nat} (hu : u < al 0) (hf : (fre al).testBit u = false) : m_X5_valueWithout 0 (nI u) (wC g P Q) = some (.inr 3, hpush (wC g P Q) (.inr (10, [])) 6) := by
  have hN := (v_R V).1
  unfold m_X5_valueWithout
  rw [v_0 V, Option.bind_some, bd_cv (v_B V), x_hasVertex (v_B V) (v_R V), nI_toInt (by omega), decide_eq_true (by omega), Option.bind_some, if_pos rfl, Option.bind_some, bd_cv (v_B V), x_isFree (v_B V) (by omega), hf, Option.bind_some, if_neg (by decide)]
theorem c_woX1 (V : Vx g num al bn lat L Gn w ld) {x : Int32} (hx : ¬ (0 ≤ x.toInt ∧ x.toInt < al 0)) : m_X5_valueWithout 0 x (wC g P Q) = some (.inr 2, hpush (wC g P Q) (.inr (9, [])) 6) := by
  unfold m_X5_valueWithout
  rw [v_0 V, Option.bind_some, bd_cv (v_B V), x_hasVertex (v_B V) (v_R V), decide_eq_false hx, Option.bind_some, if_neg (by decide)]
theorem c_winMoves (V : Vx g num al bn lat L Gn w ld) (hP : CKs P Q L Gn) : ∃ P' Q', CKs P' Q' L Gn ∧ m_X5_winningMoves 0 (wC g P Q) = some (nI (wmN al bn), wC g P' Q') := by
  have hN := (v_R V).1
  obtain ⟨P1, Q1, hP1, e1⟩ := x_passWins V hP
  have loop : ∀ t : Nat, t ≤ 1 → ∃ P' Q', CKs P' Q' L Gn ∧ m_X5_winningMoves_L15 0 (fun v8 h9 => some (v8, h9)) LF (nI t) (0 : Int32) (wC g P1 Q1) = some (nI (t + sumN (al 0) (fun u => pop (wof al bn u))), wC g P' Q') := by
    intro t ht
    have key := forQ (σ := (Nat → Int64) × (Nat → Int32)) (fun f i s => m_X5_winningMoves_L15 0 (fun v8 h9 => some (v8, h9)) f (nI (t + sumN i (fun u => pop (wof al bn u)))) (nI i) (wC g s.1 s.2)) (al 0) (fun _ s => CKs s.1 s.2 L Gn) (fun r => ∃ P' Q', CKs P' Q' L Gn ∧ r = some (nI (t + sumN (al 0) (fun u => pop (wof al bn u))), wC g P' Q')) (fun f i s hi hI e => ?_) (fun f s hI => ?_) LF 0 (P1, Q1) (Nat.zero_le _) (by unfold LF; omega) hP1
    · exact key
    · obtain ⟨P0, Q0⟩ := s
      have hI : CKs P0 Q0 L Gn := hI
      obtain ⟨P2, Q2, hP2, e2⟩ := x_winners V (u := i) (by omega) hI
      obtain ⟨P3, Q3, hP3, e3⟩ := e (P2, Q2) hP2
      refine ⟨P3, Q3, hP3, ?_⟩
      have hw := wof_lt (al := al) (b := bn) (u := i)
      show m_X5_winningMoves_L15 0 (fun v8 h9 => some (v8, h9)) (f + 1) (nI (t + sumN i (fun u => pop (wof al bn u)))) (nI i) (wC g P0 Q0) = _
      rw [m_X5_winningMoves_L15, v_0 V, Option.bind_some, bd_N (v_B V), Option.bind_some, iNle hi (by omega), v_cv V, e2, e_b2, i_bits (by omega), Option.bind_some]
      simp only [e_nm]
      rw [nI_add, nI_1, Nat.add_assoc]
      exact e3
    · obtain ⟨P0, Q0⟩ := s
      refine ⟨P0, Q0, hI, ?_⟩
      show m_X5_winningMoves_L15 0 (fun v8 h9 => some (v8, h9)) (f + 1) (nI (t + sumN (al 0) (fun u => pop (wof al bn u)))) (nI (al 0)) (wC g P0 Q0) = _
      rw [m_X5_winningMoves_L15, v_0 V, Option.bind_some, bd_N (v_B V), Option.bind_some, iLe (Nat.le_refl _) (by omega)]
  unfold m_X5_winningMoves wmN
  rw [v_cv V, e1, e_b2]
  simp only [e_jK]
  by_cases hp : pwn al = true
  · rw [if_pos hp, if_pos hp]
    exact loop 1 (by decide)
  · rw [if_neg hp, if_neg hp]
    exact loop 0 (by decide)
theorem c_mean (V : Vx g num al bn lat L Gn w ld) (hP : CKs P Q L Gn) : ∃ P' Q', CKs P' Q' L Gn ∧ m_X5_meanValue 0 (wC g P Q) = some (meanN al, wC g P' Q') := by
  have R := v_R V
  have hf := fre_lt R
  have hnp := np_le (nr := nrf al) (set := fre al)
  have hs := mvs_le R (np (nrf al) (fre al))
  unfold m_X5_meanValue meanN
  rw [v_0 V, Option.bind_some, Option.bind_some, bd_f (v_B V), Option.bind_some, bd_cv (v_B V), x_partsIn (v_B V) R (sy_Rg R) hf, Option.bind_some]
  by_cases h0 : np (nrf al) (fre al) = 0
  · refine ⟨P, Q, hP, ?_⟩
    rw [if_pos h0, h0, if_pos (show nI 0 = (0 : Int32) from rfl)]
  · rw [if_neg h0, if_neg (show ¬ nI (np (nrf al) (fre al)) = 0 from fun e => h0 ((nI_z (by omega)).mp e))]
    have key := forQ (σ := (Nat → Int64) × (Nat → Int32)) (fun f i s => m_X5_meanValue_L25 0 (nI (np (nrf al) (fre al))) (fun v9 h10 => (n32 (FP.fdiv (FP.i2f v9) (FP.i2f (nI (np (nrf al) (fre al)))))).bind fun x20 => some (x20, h10)) f (nI (mvs al i)) (nI i) (wC g s.1 s.2)) (np (nrf al) (fre al)) (fun _ s => CKs s.1 s.2 L Gn) (fun r => ∃ P' Q', CKs P' Q' L Gn ∧ r = some (FP.fdiv (FP.i2f (nI (mvs al (np (nrf al) (fre al))))) (FP.i2f (nI (np (nrf al) (fre al)))), wC g P' Q')) (fun f i s hi hI e => ?_) (fun f s hI => ?_) LF 0 (P, Q) (Nat.zero_le _) (by unfold LF; omega) hP
    · exact key
    · obtain ⟨P0, Q0⟩ := s
      have hI : CKs P0 Q0 L Gn := hI
      have hr0 := np_rst (nr := nrf al) (set := fre al) 9 0 i hi (Nat.zero_le _)
      have hne := prt_ne (sy_Rg R) hf hr0
      have hbd : Bd3 (gB al (prt (nrf al) (fre al) i)) (pop (prt (nrf al) (fre al) i)) := gB_bd R (prt_lt hf)
      obtain ⟨P2, Q2, hP2, e2⟩ := x_one V hne hI
      obtain ⟨P3, Q3, hP3, e3⟩ := e (P2, Q2) hP2
      refine ⟨P3, Q3, hP3, ?_⟩
      show m_X5_meanValue_L25 0 (nI (np (nrf al) (fre al))) _ (f + 1) (nI (mvs al i)) (nI i) (wC g P0 Q0) = _
      rw [m_X5_meanValue_L25, iNle hi (by omega), v_1 V, Option.bind_some, v_0 V, Option.bind_some, bd_cv (v_B V), x_partAt (v_B V) R (sy_Rg R) (by omega), Option.bind_some, s_cv V.1, e2, e_b2, c_value hbd pop_le, Option.bind_some]
      simp only [e_nm]
      rw [nI_add, nI_1]
      exact e3
    · obtain ⟨P0, Q0⟩ := s
      refine ⟨P0, Q0, hI, ?_⟩
      show m_X5_meanValue_L25 0 (nI (np (nrf al) (fre al))) _ (f + 1) (nI (mvs al (np (nrf al) (fre al)))) (nI (np (nrf al) (fre al))) (wC g P0 Q0) = _
      rw [m_X5_meanValue_L25, iLe (Nat.le_refl _) (by omega), mean_ok _ (by omega) _ (by omega) h0, Option.bind_some]
end VX
