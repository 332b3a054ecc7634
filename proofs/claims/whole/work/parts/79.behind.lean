/-! behind a lay, and without a vertex: the parts of what is left -/
theorem prt_lt {nr : Nat → Nat} {set j : Nat} (h : set < 512) : prt nr set j < 512 := rch_lt h
section MA
variable {al : Nat → Nat} {u c : Nat}
theorem fre_0 (hu : (fre al).testBit u = true) : u < al 0 ∧ al (22 + u) = 0 := by
  rw [fre_tb, Bool.and_eq_true, decide_eq_true_eq, beq_iff_eq] at hu
  exact hu
theorem fre_m {w : Nat} (h0 : w < al 0) (h : al (22 + w) = 0) : (fre al).testBit w = true := by
  rw [fre_tb, h, decide_eq_true h0]
  rfl
theorem nr_in (R : Rg al) {w i : Nat} (h : (nrf al i).testBit w = true) : w < al 0 ∧ i < al 0 ∧ w ≠ i := by
  by_cases hi : i < 9
  · rw [nrf_e hi] at h
    have := R.2.2.2.2.2.1 i w hi h
    exact ⟨this.1, this.2.1, this.2.2.1⟩
  · unfold nrf at h
    rw [if_neg hi, Nat.zero_testBit] at h
    cases h
theorem Cfg_rch (R : Rg al) (F : Fw al) (hu : (fre al).testBit u = true) : Cfg al (rch (nrf al) (fre al) (2 ^ u)) (al (31 + u)) := by
  have hf := fre_lt R
  have cl := rch_cl (nr := nrf al) (set := fre al) (s := 2 ^ u) hf
  have h9 := R.1
  have hu0 := (fre_0 hu).1
  refine ⟨R, F, rch_lt hf, fun i hi => fre_0 (cl.2.1 i hi), fun a w ha hn hw e => ?_, (F.2.2 _ (by omega)).2⟩
  have h1 := nr_in R hn
  rw [cl.2.2.1 a w ha hn (fre_m h1.1 e)] at hw
  cases hw
theorem tb_dp {s v i : Nat} : (dif s (2 ^ v)).testBit i = true ↔ s.testBit i = true ∧ i ≠ v := by
  rw [tb_dif, tb_pow, Bool.and_eq_true, Bool.not_eq_true', decide_eq_false_iff_not]
  exact and_congr_right fun _ => ⟨fun e g => e g.symm, fun e g => e g.symm⟩
theorem tb_dd {s t i : Nat} : (dif s t).testBit i = true ↔ s.testBit i = true ∧ t.testBit i = false := by
  rw [tb_dif, Bool.and_eq_true, Bool.not_eq_true']
/-- the rest of the board and the rest of the part -/
theorem cs_rest (R : Rg al) (hu : (fre al).testBit u = true) : Cs (nrf al) (fre al) (dif (fre al) (rch (nrf al) (fre al) (2 ^ u))) := Cs_dif (sy_Rg R) Cs_self (Cs_rch (fre_lt R))
theorem cs_1 (R : Rg al) (hu : (fre al).testBit u = true) : Cs (nrf al) (dif (fre al) (2 ^ u)) (dif (fre al) (rch (nrf al) (fre al) (2 ^ u))) := by
  have hs := rch_self (nr := nrf al) (fre_lt R) hu
  refine ⟨fun i hi => ?_, fun a w ha hn hw => (cs_rest R hu).2 a w ha hn (tb_dp.mp hw).1⟩
  rw [tb_dd] at hi
  refine tb_dp.mpr ⟨hi.1, fun e => ?_⟩
  rw [e, hs] at hi
  cases hi.2
theorem cs_2 (R : Rg al) (hu : (fre al).testBit u = true) : Cs (nrf al) (dif (fre al) (2 ^ u)) (dif (rch (nrf al) (fre al) (2 ^ u)) (2 ^ u)) := by
  have cl := rch_cl (nr := nrf al) (set := fre al) (s := 2 ^ u) (fre_lt R)
  refine ⟨fun i hi => ?_, fun a w ha hn hw => ?_⟩
  · have := tb_dp.mp hi
    exact tb_dp.mpr ⟨cl.2.1 i this.1, this.2⟩
  · have h1 := tb_dp.mp hw
    exact tb_dp.mpr ⟨cl.2.2.1 a w (tb_dp.mp ha).1 hn h1.1, h1.2⟩
theorem pcs_rest {G : Nat → An} (R : Rg al) (hu : (fre al).testBit u = true) : pcs (nrf al) (dif (fre al) (2 ^ u)) G = cmb (pcs (nrf al) (dif (fre al) (rch (nrf al) (fre al) (2 ^ u))) G) (pcs (nrf al) (dif (rch (nrf al) (fre al) (2 ^ u)) (2 ^ u)) G) := by
  have hf := fre_lt R
  have hs := rch_self (nr := nrf al) hf hu
  have cl := rch_cl (nr := nrf al) (set := fre al) (s := 2 ^ u) hf
  refine pcs_split (sy_Rg R) (dif_l9 hf) (cs_1 R hu) (cs_2 R hu) (fun i => ?_) (fun i a b => ?_)
  · by_cases e : i = u
    · subst e
      rw [tb_dif, tb_dif, tb_dif, tb_pow, hs, decide_eq_true rfl]
      cases (fre al).testBit i <;> rfl
    · rw [tb_dif, tb_dif, tb_dif, tb_pow, decide_eq_false (show ¬ u = i from fun g => e g.symm)]
      cases hp : (rch (nrf al) (fre al) (2 ^ u)).testBit i
      · cases (fre al).testBit i <;> rfl
      · rw [cl.2.1 i hp]
        rfl
  · rw [tb_dd] at a
    rw [(tb_dp.mp b).1] at a
    cases a.2
theorem opf_far (R : Rg al) (hu : (fre al).testBit u = true) (hc : c < 3) {q : Nat} (hq : q < 512) (hno : ∀ i, q.testBit i = true → (nrf al i).testBit u = false) : opf (onv al u c) q = opf al q := funext fun w => bit_eq fun i => by
  rw [opf_tb hq, opf_tb hq]
  refine and_congr_right fun hi => ?_
  have hi9 := bit_lt hq hi
  rw [Sg_ls Sg_onv hi9]
  refine and_congr_right fun _ => ?_
  obtain ⟨h0, h1⟩ := fre_0 hu
  have := arn_onv (w := w) R h0 h1 hc hi9
  rw [hno i hi] at this
  have t : (arn (onv al u c) i).testBit w = true ↔ (arn al i).testBit w = true := this.trans ⟨fun e => e.elim id (fun e => by have := e.2; cases this), Or.inl⟩
  cases hx : (arn (onv al u c) i).testBit w <;> cases hy : (arn al i).testBit w
  · exact Iff.rfl
  · rw [hx, hy] at t; exact absurd (t.mpr rfl) (by decide)
  · rw [hx, hy] at t; exact absurd (t.mp rfl) (by decide)
  · exact Iff.rfl
theorem brd_ly (R : Rg al) (F : Fw al) (hu : (fre al).testBit u = true) (hc : c < 3) : brd (ly al u c) = cmb (pcs (nrf al) (dif (fre al) (rch (nrf al) (fre al) (2 ^ u))) (gB al)) (pcs (nrf al) (dif (rch (nrf al) (fre al) (2 ^ u)) (2 ^ u)) (fun q => gr (nrf al) 10 q (sbO (fun w => mvO (nrf al) (opf al (rch (nrf al) (fre al) (2 ^ u))) u c w) q) (c + 1))) := by
  have hf := fre_lt R
  have h9 := R.1
  have hu9 : u < 9 := by have := (fre_0 hu).1; omega
  have cl := rch_cl (nr := nrf al) (set := fre al) (s := 2 ^ u) hf
  have hs := rch_self (nr := nrf al) hf hu
  have hgA : gA (ly al u c) = gA (onv al u c) := Lw_gA (Lw_ly hu9)
  unfold brd
  rw [fre_ly R, nr_ly, hgA, pcs_rest R hu]
  have e1 : pcs (nrf al) (dif (fre al) (rch (nrf al) (fre al) (2 ^ u))) (fun q => gA (onv al u c) q (ly al u c (31 + lo q))) = pcs (nrf al) (dif (fre al) (rch (nrf al) (fre al) (2 ^ u))) (gB al) := by
    refine pcs_congr fun j hj => ?_
    have hd : dif (fre al) (rch (nrf al) (fre al) (2 ^ u)) < 512 := dif_l9 hf
    have hin : ∀ i, (prt (nrf al) (dif (fre al) (rch (nrf al) (fre al) (2 ^ u))) j).testBit i = true → (fre al).testBit i = true ∧ (rch (nrf al) (fre al) (2 ^ u)).testBit i = false := fun i hi => tb_dd.mp ((rch_cl hd).2.1 i hi)
    have hl := lo_ok (s := prt (nrf al) (dif (fre al) (rch (nrf al) (fre al) (2 ^ u))) j) (rch_lt hd) (prt_ne (sy_Rg R) hd hj)
    show gr (nrf (onv al u c)) 10 _ (opf (onv al u c) _) (ly al u c (31 + lo _)) = gr (nrf al) 10 _ (opf al _) (al (31 + lo _))
    rw [Sg_nr Sg_onv, ly_ban R hu9, (hin _ hl.2).2, if_neg (by decide), opf_far R hu hc (prt_lt hd) fun i hi => by
      cases hb : (nrf al i).testBit u
      · rfl
      · have g := hin i hi
        have := cl.2.2.1 u i hs (sy_Rg R i u hb) g.1
        rw [g.2] at this
        cases this]
  have e2 : pcs (nrf al) (dif (rch (nrf al) (fre al) (2 ^ u)) (2 ^ u)) (fun q => gA (onv al u c) q (ly al u c (31 + lo q))) = pcs (nrf al) (dif (rch (nrf al) (fre al) (2 ^ u)) (2 ^ u)) (fun q => gr (nrf al) 10 q (sbO (fun w => mvO (nrf al) (opf al (rch (nrf al) (fre al) (2 ^ u))) u c w) q) (c + 1)) := by
    refine pcs_congr fun j hj => ?_
    have hd : dif (rch (nrf al) (fre al) (2 ^ u)) (2 ^ u) < 512 := dif_l9 (rch_lt hf)
    have hin : ∀ i, (prt (nrf al) (dif (rch (nrf al) (fre al) (2 ^ u)) (2 ^ u)) j).testBit i = true → (rch (nrf al) (fre al) (2 ^ u)).testBit i = true ∧ i ≠ u := fun i hi => tb_dp.mp ((rch_cl hd).2.1 i hi)
    have hl := lo_ok (s := prt (nrf al) (dif (rch (nrf al) (fre al) (2 ^ u)) (2 ^ u)) j) (rch_lt hd) (prt_ne (sy_Rg R) hd hj)
    show gr (nrf (onv al u c)) 10 _ (opf (onv al u c) _) (ly al u c (31 + lo _)) = gr (nrf al) 10 _ _ (c + 1)
    rw [Sg_nr Sg_onv, ly_ban R hu9, (hin _ hl.2).1, if_pos rfl, opf_onv (Cfg_rch R F hu) hs hc (prt_lt hd) hin]
  rw [e1, e2]
/-- the board without a vertex -/
def wo (al : Nat → Nat) (u : Nat) : An := cmb (pcs (nrf al) (dif (fre al) (rch (nrf al) (fre al) (2 ^ u))) (gB al)) (pcs (nrf al) (dif (rch (nrf al) (fre al) (2 ^ u)) (2 ^ u)) (fun q => gA al q (al (31 + u))))
end MA
section SV
variable {g : Hp} {P : Nat → Int64} {Q : Nat → Int32} {num L : Nat} {al bn : Nat → Nat} {lat : Option Nat} {Gn : Nat → Nat → Nat}
theorem brd_bd (R : Rg al) : Bd3 (brd al) 9 := by
  have := pcs_gB R (fre_lt R)
  have h9 := pop_le (s := fre al)
  have t : Bd3 (brd al) (pop (fre al)) := this
  exact ⟨by have := t.1; omega, by have := t.2.1; omega, by have := t.2.2; omega⟩
theorem pop_rest (R : Rg al) {u : Nat} (hu : (fre al).testBit u = true) : pop (dif (fre al) (rch (nrf al) (fre al) (2 ^ u))) + pop (dif (rch (nrf al) (fre al) (2 ^ u)) (2 ^ u)) ≤ 9 := by
  have hf := fre_lt R
  have h1 := pop_split (rch_cl (nr := nrf al) (s := 2 ^ u) hf).2.1
  have h2 := pop_v (rch_self (nr := nrf al) hf hu) (rch_lt hf)
  have h9 := pop_le (s := fre al)
  omega
theorem x_behindLay (S : Slv g num al bn lat L Gn) (F : Fw al) (hk : Bk al bn) (U : Ub al) {u c : Nat} (hu : (fre al).testBit u = true) (hc : c < 3) (hP : CKs P Q L Gn) : ∃ P' Q', CKs P' Q' L Gn ∧ m_X4_behindLay 1 (nI u) (nI c) (wC g P Q) = some (nI (pk (brd (ly al u c))), wC g P' Q') := by
  obtain ⟨hz, S6, B, R, hnL, hL, hG⟩ := id S
  have hf := fre_lt R
  have h9 := R.1
  have hu9 : u < 9 := by have := (fre_0 hu).1; omega
  have hpt := Ptb_rch R U hu
  have hO := Okp_opf R hpt.1
  have hl := lo_ok hpt.1 hpt.2.1
  have hb := (R.2.2.2.2.1 _ hl.1).2.2.2
  obtain ⟨P1, Q1, hP1, e1⟩ := x_partsInS S hk U (cs_rest R hu) hP
  obtain ⟨P2, Q2, hP2, e2⟩ := x_onPieces (b := c + 1) S hP1 (Okp_mv (nr := nrf al) (v := u) hO hc) (by omega)
  refine ⟨P2, Q2, hP2, ?_⟩
  have hbd1 := pcs_gB R (s := dif (fre al) (rch (nrf al) (fre al) (2 ^ u))) (dif_l9 hf)
  have hbd2 : Bd3 (pcs (nrf al) (dif (rch (nrf al) (fre al) (2 ^ u)) (2 ^ u)) (fun q => gr (nrf al) 10 q (sbO (fun w => mvO (nrf al) (opf al (rch (nrf al) (fre al) (2 ^ u))) u c w) q) (c + 1))) (pop (dif (rch (nrf al) (fre al) (2 ^ u)) (2 ^ u))) := pcs_bd (sy_Rg R) (dif_l9 hpt.1) fun j _ => gr_b9 R (Okp_sb (rch_lt (dif_l9 hpt.1)) fun w hw => ((Okp_mv (nr := nrf al) (v := u) hO hc).2 w).2 hw)
  unfold m_X4_behindLay
  rw [s_b S, Option.bind_some, bd_cv (w_Bd B), x_partWith (w_Bd B) R hu9, Option.bind_some, s_cv S, x_placeOf S hk hpt, Option.bind_some, s_cv S, x_behind S hO hb hu9 hc, Option.bind_some, Option.bind_some, bd_f (w_Bd B), Option.bind_some, s_cv S, nI_dif (by omega), e1, e_b2, s_cv S, e2, e_b2, c_cmb hbd1 hbd2 (pop_rest R hu), Option.bind_some, brd_ly R F hu hc]
theorem e_each {u : Nat} (hu : u < 9) : jlshl (134480385 : Int64) (nI u) = lN (E5 0 0 (2 ^ u) (2 ^ u) (2 ^ u) (2 ^ u)) := by
  have h2 := pow_lt9 hu
  rw [show (134480385 : Int64) = lN 134480385 from rfl, l_shl (by omega) (Nat.lt_of_le_of_lt (Nat.mul_le_mul_left 134480385 (Nat.le_of_lt h2)) (by decide))]
  refine congrArg lN ?_
  generalize 2 ^ u = t
  unfold E5
  omega
theorem x_without (S : Slv g num al bn lat L Gn) (hk : Bk al bn) (U : Ub al) {u : Nat} (hu : (fre al).testBit u = true) (hP : CKs P Q L Gn) : ∃ P' Q', CKs P' Q' L Gn ∧ m_X4_without 1 (nI u) (wC g P Q) = some (nI (pk (wo al u)), wC g P' Q') := by
  obtain ⟨hz, S6, B, R, hnL, hL, hG⟩ := id S
  have hf := fre_lt R
  have h9 := R.1
  have hu9 : u < 9 := by have := (fre_0 hu).1; omega
  have h2 := pow_lt9 hu9
  have hpt := Ptb_rch R U hu
  have hO := Okp_opf R hpt.1
  have hl := lo_ok hpt.1 hpt.2.1
  have hb := (R.2.2.2.2.1 _ hl.1).2.2.2
  have hF := Okp_f hO hb
  have hO' : Okp (dif (rch (nrf al) (fre al) (2 ^ u)) (2 ^ u)) (fun w => dif (opf al (rch (nrf al) (fre al) (2 ^ u)) w) (2 ^ u)) := ⟨dif_l9 hpt.1, fun w => ⟨fun i hi => by
    have := tb_dp.mp hi
    exact tb_dp.mpr ⟨(hO.2 w).1 i this.1, this.2⟩, fun hw => by
    show dif (opf al (rch (nrf al) (fre al) (2 ^ u)) w) (2 ^ u) = 0
    rw [(hO.2 w).2 hw, dif_z]⟩⟩
  obtain ⟨P1, Q1, hP1, e1⟩ := x_partsInS S hk U (cs_rest R hu) hP
  obtain ⟨P2, Q2, hP2, e2⟩ := x_onPieces (b := al (31 + lo (rch (nrf al) (fre al) (2 ^ u)))) S hP1 hO' hb
  refine ⟨P2, Q2, hP2, ?_⟩
  have hbd1 := pcs_gB R (s := dif (fre al) (rch (nrf al) (fre al) (2 ^ u))) (dif_l9 hf)
  have hbd2 : Bd3 (pcs (nrf al) (dif (rch (nrf al) (fre al) (2 ^ u)) (2 ^ u)) (fun q => gr (nrf al) 10 q (sbO (fun w => dif (opf al (rch (nrf al) (fre al) (2 ^ u)) w) (2 ^ u)) q) (al (31 + lo (rch (nrf al) (fre al) (2 ^ u)))))) (pop (dif (rch (nrf al) (fre al) (2 ^ u)) (2 ^ u))) := pcs_bd (sy_Rg R) (dif_l9 hpt.1) fun j _ => gr_b9 R (Okp_sb (rch_lt (dif_l9 hpt.1)) fun w hw => (hO'.2 w).2 hw)
  have hbe : al (31 + lo (rch (nrf al) (fre al) (2 ^ u))) = al (31 + u) := (hpt.2.2.2 u (rch_self hf hu)).symm
  have ew : pcs (nrf al) (dif (rch (nrf al) (fre al) (2 ^ u)) (2 ^ u)) (fun q => gr (nrf al) 10 q (sbO (fun w => dif (opf al (rch (nrf al) (fre al) (2 ^ u)) w) (2 ^ u)) q) (al (31 + lo (rch (nrf al) (fre al) (2 ^ u))))) = pcs (nrf al) (dif (rch (nrf al) (fre al) (2 ^ u)) (2 ^ u)) (fun q => gA al q (al (31 + u))) := by
    rw [hbe]
    refine pcs_congr fun j _ => ?_
    have hd : dif (rch (nrf al) (fre al) (2 ^ u)) (2 ^ u) < 512 := dif_l9 hpt.1
    have hin : ∀ i, (prt (nrf al) (dif (rch (nrf al) (fre al) (2 ^ u)) (2 ^ u)) j).testBit i = true → (rch (nrf al) (fre al) (2 ^ u)).testBit i = true ∧ i ≠ u := fun i hi => tb_dp.mp ((rch_cl hd).2.1 i hi)
    have eo : sbO (fun w => dif (opf al (rch (nrf al) (fre al) (2 ^ u)) w) (2 ^ u)) (prt (nrf al) (dif (rch (nrf al) (fre al) (2 ^ u)) (2 ^ u)) j) = opf al (prt (nrf al) (dif (rch (nrf al) (fre al) (2 ^ u)) (2 ^ u)) j) := funext fun w => bit_eq fun i => by
      show (dif (opf al (rch (nrf al) (fre al) (2 ^ u)) w) (2 ^ u) &&& prt (nrf al) (dif (rch (nrf al) (fre al) (2 ^ u)) (2 ^ u)) j).testBit i = true ↔ _
      rw [Nat.testBit_and, Bool.and_eq_true, tb_dp, opf_tb hpt.1, opf_tb (prt_lt hd)]
      exact ⟨fun ⟨⟨⟨_, b⟩, _⟩, d⟩ => ⟨d, b⟩, fun ⟨d, b⟩ => ⟨⟨⟨(hin i d).1, b⟩, (hin i d).2⟩, d⟩⟩
    show gr (nrf al) 10 _ (sbO _ _) _ = gr (nrf al) 10 _ (opf al _) _
    rw [eo]
  unfold m_X4_without
  rw [s_b S, Option.bind_some, bd_cv (w_Bd B), x_partWith (w_Bd B) R hu9, Option.bind_some, s_cv S, x_placeOf S hk hpt, Option.bind_some]
  simp only [e_nm]
  rw [e_each hu9, lN_dif (E5_lt hF (by omega)), E5_dif hF ⟨by decide, h2, h2, h2, h2⟩, dif_0, dif_0, Option.bind_some, bd_f (w_Bd B), Option.bind_some, s_cv S, nI_dif (by omega), e1, e_b2, s_cv S, e2, e_b2, c_cmb hbd1 hbd2 (pop_rest R hu), Option.bind_some, ew]
  rfl
end SV
