/-! a game played on: class and reference step by step -/
theorem w_fr78 {H : Hp} {P : Nat → Int64} {Q : Nat → Int32} : Fr H (wC H P Q) (fun a => a = 7 ∨ a = 8) 0 0 := ⟨Nat.le_refl _, Nat.le_refl _, Nat.le_refl _, fun a _ hs => by
  have hs' : ¬ (a = 7 ∨ a = 8) := hs
  show (if a = 7 then _ else if a = 8 then _ else H.1 a) = _
  rw [if_neg (by omega), if_neg (by omega)]⟩
def SPl (a : Nat) : Prop := InB 2 a ∨ a = 7 ∨ a = 8
def PlS (h : Hp) (num : Nat) (al bn : Nat → Nat) (lat : Option Nat) (L : Nat) (Gn : Nat → Nat → Nat) (w ld : Nat) (P : Nat → Int64) (Q : Nat → Int32) : Prop := h = wC h P Q ∧ Vx h num al bn lat L Gn w ld ∧ Chn h al (al 3) lat ∧ CKs P Q L Gn ∧ 32 ≤ h.2.1
section PLS
variable {h h' : Hp} {num L w ld n m : Nat} {al bn al' bn' : Nat → Nat} {lat lat' : Option Nat} {Gn : Nat → Nat → Nat} {P : Nat → Int64} {Q : Nat → Int32}
theorem Pl_W (S : PlS h num al bn lat L Gn w ld P Q) : WfB al ∧ Bk al bn ∧ BdH h 2 num al bn lat ∧ gR h 5 0 0 = some 2 := ⟨⟨S.2.1.1.2.2.2.1, S.2.1.2.2.1, S.2.1.2.2.2.2⟩, S.2.1.2.2.2.1, S.2.1.1.2.2.1, at_gR S.2.1.2.1 rfl⟩
theorem Pl_cv (S : PlS h num al bn lat L Gn w ld P Q) {ρ : Type} {r : Option ρ} : cv h 5 0 r = r := at_cv S.2.1.2.1
theorem Pl_c (S : PlS h num al bn lat L Gn w ld P Q) : ∃ P' Q', m_X5_chosenMove 0 h = some (nI (bsN al bn), wC h P' Q') ∧ PlS (wC h P' Q') num al bn lat L Gn w ld P' Q' ∧ Fr h (wC h P' Q') SPl 0 0 := by
  obtain ⟨e, V, C, hP, z⟩ := S
  obtain ⟨P', Q', hP', er⟩ := x_chosen V hP
  refine ⟨P', Q', (congrArg (m_X5_chosenMove 0) e).trans er, ⟨wC_self rfl rfl, Vx_fr w_fr78 V (fun i hi e => by rcases e with e | e <;> omega), Chn_fr w_fr78 (fun a fs ha _ e => by rcases e with e | e <;> omega) _ _ C, hP', z⟩, Fr_mono w_fr78 (fun a e => .inr e) (Nat.le_refl _) (Nat.le_refl _)⟩
theorem Pl_mk (S : PlS h num al bn lat L Gn w ld P Q) (F : Fr h h' (InB 2) n m) (B' : BdH h' 2 num al' bn' lat') (K' : Bk al' bn') (C' : Chn h' al' (al' 3) lat') (W' : WfB al') (hG : nrf al' = nrf al) : PlS h' num al' bn' lat' L Gn w ld P Q := by
  obtain ⟨e, ⟨⟨q1, q2, q3, q4, q5, q6, q7⟩, q8, q9⟩, C, hP, z⟩ := S
  have off : ∀ x, ¬ (2 ≤ x ∧ x ≤ 6) → ¬ InB 2 x := fun x hx e => by
    unfold InB at e
    omega
  have h78 := congrArg (fun q : Hp => (q.1 7, q.1 8)) e
  exact ⟨wC_self ((F.2.2.2 7 (by omega) (off 7 (by omega))).trans (congrArg Prod.fst h78)) ((F.2.2.2 8 (by omega) (off 8 (by omega))).trans (congrArg Prod.snd h78)), ⟨⟨Nat.le_trans q1 F.1, Fr_at F q2 (off _ (by decide)), B', W'.1, q5, q6, q7.trans hG.symm⟩, Fr_at F q8 (off _ (by decide)), W'.2.1, K', W'.2.2⟩, C', hP, Nat.le_trans z F.1⟩
theorem Pl_l {u c : Nat} (S : PlS h num al bn lat L Gn w ld P Q) (hu : (fre al).testBit u = true) (hc : c < al 1) (h3 : al 3 + 1 < 4096) : ∃ h' b' lat', m_X0_paint 2 (nI u) (nI c) h = some h' ∧ PlS h' num (lyN al u c) b' lat' L Gn w ld P Q ∧ Fr h h' SPl 1 5 := by
  obtain ⟨W, K, B, _⟩ := Pl_W S
  obtain ⟨h', b', e, B', K', C', F⟩ := x_paint B W K hu hc S.2.2.2.2 S.2.2.1
  exact ⟨h', b', _, e, Pl_mk S F B' K' (by rw [lyN_3]; exact C') (WfB_lyN W hu hc h3) nrf_lyN, Fr_mono F (fun a e => .inl e) (Nat.le_refl _) (Nat.le_refl _)⟩
theorem Pl_p (S : PlS h num al bn lat L Gn w ld P Q) (h0 : al 2 ≠ 0) (h3 : al 3 + 1 < 4096) : ∃ h' lat', m_X0_spendPass 2 h = some h' ∧ PlS h' num (psN al) bn lat' L Gn w ld P Q ∧ Fr h h' SPl 1 5 := by
  obtain ⟨W, K, B, _⟩ := Pl_W S
  obtain ⟨h', e, B', K', C', F⟩ := x_spend B W K h0 S.2.2.2.2 S.2.2.1
  exact ⟨h', _, e, Pl_mk S F B' K' (by rw [psN_3]; exact C') (WfB_psN W h3) (nrf_q Lq_psN), Fr_mono F (fun a e => .inl e) (Nat.le_refl _) (Nat.le_refl _)⟩
theorem AlF_wq {A : Nat → Nat → Int32} {M B : Nat → Int32} (h : AlF A al) : AlF (wq A M B) al := fun k hk => by rw [wq_o (by decide) (by decide)]; exact h k hk
theorem Sg_lyN {u c : Nat} : Sg al (lyN al u c) := Sg_trans Sg_ly (Lw_sg (Lq_w Lq_lyN))
theorem Sg_psN : Sg al (psN al) := Lw_sg (Lq_w Lq_psN)
/-- the most moves n, i of them made -/
theorem pl_run : ∀ n i (al bn : Nat → Nat) (lat : Option Nat) (h : Hp) (P : Nat → Int64) (Q : Nat → Int32), PlS h num al bn lat L Gn w ld P Q → al 3 + pop (fre al) + al 2 < 4095 → i + n < 2 ^ 31 →
    ∃ m al' bn' lat' h' P' Q', PlS h' num al' bn' lat' L Gn w ld P' Q' ∧ Fr h h' SPl n (5 * n) ∧ al' 3 + pop (fre al') + al' 2 = al 3 + pop (fre al) + al 2 ∧
      (∀ (K : Int32 → Hp → Option ((Int32 ⊕ Nat) × Hp)) f, n < f → m_X5_playOut_L34 0 (nI (i + n)) K f (nI i) h = K (nI m) h') ∧
      ∀ (g : Hp) (v : Nat → Int32) (A : Nat → Nat → Int32), 31 ≤ g.2.1 → AlF A al → MK al (A 7) → ∃ A', (∀ j, j ≠ 0 → j ≠ 7 → j ≠ 8 → A' j = A j) ∧ AlF A' al' ∧ ∀ (K : Int32 → Hp → Option (Int32 × Hp)) f, n < f → m_X6_playOut_L38 20 (nI (i + n)) K f (nI i) (setR v A g) = K (nI m) (setR v A' g)
  | 0, i, al, bn, lat, h, P, Q, S, hp, hi => by
    refine ⟨i, al, bn, lat, h, P, Q, S, Fr_refl, rfl, fun K f hf => ?_, fun g v A hz ha hm => ⟨A, fun _ _ _ _ => rfl, ha, fun K f hf => ?_⟩⟩
    · obtain ⟨f, rfl⟩ : ∃ k, f = k + 1 := ⟨f - 1, by omega⟩
      rw [m_X5_playOut_L34, Nat.add_zero, iLe (Nat.le_refl _) (by omega)]
    · obtain ⟨f, rfl⟩ : ∃ k, f = k + 1 := ⟨f - 1, by omega⟩
      rw [m_X6_playOut_L38, Nat.add_zero, iLe (Nat.le_refl _) (by omega)]
  | n + 1, i, al, bn, lat, h, P, Q, S, hp, hi => by
    obtain ⟨W, K0, B, g0⟩ := Pl_W S
    have hC := W.1.2.1
    have h9 := W.1.1
    by_cases hn : Nov al bn
    · have ho : (al 2 == 0 && prs al bn (fre al) == 0) = false := Bool.eq_false_iff.mpr fun e => hn (by
        rw [Bool.and_eq_true, beq_iff_eq, beq_iff_eq] at e
        exact e)
      obtain ⟨P1, Q1, e1, S1, F1⟩ := Pl_c S
      obtain ⟨_, _, B1, g1⟩ := Pl_W S1
      rcases bs_ok W.1 hn with ⟨hb, h0⟩ | ⟨u, c, hb, hc3, hu, hch⟩
      · -- a pass
        obtain ⟨h2, lat2, e2, S2, F2⟩ := Pl_p S1 h0 (by omega)
        have hf2 : psN al 3 + pop (fre (psN al)) + psN al 2 = al 3 + pop (fre al) + al 2 := by
          rw [fre_q Lq_psN W.1, psN_3, psN_2]
          omega
        obtain ⟨m, al', bn', lat', h', P', Q', S', F', s1, ec, er⟩ := pl_run n (i + 1) (psN al) bn lat2 h2 P1 Q1 S2 (by omega) (by omega)
        refine ⟨m, al', bn', lat', h', P', Q', S', Fr_mono (Fr_trans (Fr_trans F1 F2) F') (fun _ e => e) (by omega) (by omega), s1.trans hf2, fun K f hf => ?_, fun g v A hz ha hm => ?_⟩
        · obtain ⟨f, rfl⟩ : ∃ k, f = k + 1 := ⟨f - 1, by omega⟩
          have ec' := ec K f (by omega)
          rw [show i + 1 + n = i + (n + 1) by omega] at ec'
          rw [m_X5_playOut_L34, iNle (by omega) (by omega), g0, Option.bind_some, bd_cv B, x_isOver B W.1, ho, Option.bind_some, if_neg (by decide), Pl_cv S, e1, e_b2]
          simp only [e_jK, e_nm]
          rw [hb, if_pos (show nI 100 = (100 : Int32) from rfl), g1, Option.bind_some, bd_cv B1, e2, Option.bind_some, nI_1]
          exact ec'
        · have X : Rx g A al bn := ⟨hz, AlF_al ha, hm, W.1, W.2.1, K0⟩
          obtain ⟨M, Bb, hM, eb⟩ := q_best (v := v) X hn
          obtain ⟨A1, ep, r1, a1⟩ := y_passes (v := v) hz (AlF_wq (M := M) (B := Bb) ha) W.1 h0 (by omega)
          obtain ⟨A', r2, a2, er'⟩ := er g v A1 hz a1 (by rw [r1 7 (by decide), wq_7]; exact MK_sg hM Sg_psN)
          refine ⟨A', fun j j0 j7 j8 => (r2 j j0 j7 j8).trans ((r1 j j0).trans (wq_o j7 j8)), a2, fun K f hf => ?_⟩
          obtain ⟨f, rfl⟩ : ∃ k, f = k + 1 := ⟨f - 1, by omega⟩
          have er2 := er' K f (by omega)
          rw [show i + 1 + n = i + (n + 1) by omega] at er2
          rw [m_X6_playOut_L38, iNle (by omega) (by omega), r_cv hz, y_isOver hz (AlF_al ha) W.1 K0, ho, Option.bind_some, if_neg (by decide), r_cv hz, eb, e_b2]
          simp only [e_jK, e_nm]
          rw [hb, if_pos (show nI 100 = (100 : Int32) from rfl), r_cv hz, ep, Option.bind_some, nI_1]
          exact er2
      · -- a lay
        obtain ⟨hfu, hc⟩ := chs_in hch
        have hpv := pop_v hfu (fre_lt W.1)
        obtain ⟨h2, b2, lat2, e2, S2, F2⟩ := Pl_l S1 hfu hc (by omega)
        have hf2 : lyN al u c 3 + pop (fre (lyN al u c)) + lyN al u c 2 = al 3 + pop (fre al) + al 2 := by
          rw [fre_lyN W.1 hfu (by omega), lyN_3, lyN_2]
          omega
        have hq : ¬ nI (bsN al bn) = (100 : Int32) := fun e => by
          have := (nI_eq (b := 100) (by omega) (by decide)).mp e
          omega
        have hd : jdiv (nI (bsN al bn)) (4 : Int32) = nI u := by rw [i_div4 (by omega), hb]; exact congrArg nI (by omega)
        have hr : jrem (nI (bsN al bn)) (4 : Int32) = nI c := by rw [i_rem4 (by omega), hb]; exact congrArg nI (by omega)
        obtain ⟨m, al', bn', lat', h', P', Q', S', F', s1, ec, er⟩ := pl_run n (i + 1) (lyN al u c) b2 lat2 h2 P1 Q1 S2 (by omega) (by omega)
        refine ⟨m, al', bn', lat', h', P', Q', S', Fr_mono (Fr_trans (Fr_trans F1 F2) F') (fun _ e => e) (by omega) (by omega), s1.trans hf2, fun K f hf => ?_, fun g v A hz ha hm => ?_⟩
        · obtain ⟨f, rfl⟩ : ∃ k, f = k + 1 := ⟨f - 1, by omega⟩
          have ec' := ec K f (by omega)
          rw [show i + 1 + n = i + (n + 1) by omega] at ec'
          rw [m_X5_playOut_L34, iNle (by omega) (by omega), g0, Option.bind_some, bd_cv B, x_isOver B W.1, ho, Option.bind_some, if_neg (by decide), Pl_cv S, e1, e_b2]
          simp only [e_jK, e_nm]
          rw [if_neg hq, g1, Option.bind_some, bd_cv B1, hd, hr, e2, Option.bind_some, nI_1]
          exact ec'
        · have X : Rx g A al bn := ⟨hz, AlF_al ha, hm, W.1, W.2.1, K0⟩
          obtain ⟨M, Bb, hM, eb⟩ := q_best (v := v) X hn
          obtain ⟨A1, ep, r1, a1⟩ := y_lays (v := v) hz (AlF_wq (M := M) (B := Bb) ha) W.1 hfu hc (by omega)
          obtain ⟨A', r2, a2, er'⟩ := er g v A1 hz a1 (by rw [r1 7 (by decide), wq_7]; exact MK_sg hM Sg_lyN)
          refine ⟨A', fun j j0 j7 j8 => (r2 j j0 j7 j8).trans ((r1 j j0).trans (wq_o j7 j8)), a2, fun K f hf => ?_⟩
          obtain ⟨f, rfl⟩ : ∃ k, f = k + 1 := ⟨f - 1, by omega⟩
          have er2 := er' K f (by omega)
          rw [show i + 1 + n = i + (n + 1) by omega] at er2
          rw [m_X6_playOut_L38, iNle (by omega) (by omega), r_cv hz, y_isOver hz (AlF_al ha) W.1 K0, ho, Option.bind_some, if_neg (by decide), r_cv hz, eb, e_b2]
          simp only [e_jK, e_nm]
          rw [if_neg hq, hd, hr, r_cv hz, ep, Option.bind_some, nI_1]
          exact er2
    · have ho : (al 2 == 0 && prs al bn (fre al) == 0) = true := by
        rw [Bool.and_eq_true, beq_iff_eq, beq_iff_eq]
        exact Decidable.not_not.mp hn
      refine ⟨i, al, bn, lat, h, P, Q, S, Fr_mono Fr_refl (fun _ e => e) (by omega) (by omega), rfl, fun K f hf => ?_, fun g v A hz ha hm => ⟨A, fun _ _ _ _ => rfl, ha, fun K f hf => ?_⟩⟩
      · obtain ⟨f, rfl⟩ : ∃ k, f = k + 1 := ⟨f - 1, by omega⟩
        rw [m_X5_playOut_L34, iNle (by omega) (by omega), g0, Option.bind_some, bd_cv B, x_isOver B W.1, ho, Option.bind_some, if_pos rfl]
      · obtain ⟨f, rfl⟩ : ∃ k, f = k + 1 := ⟨f - 1, by omega⟩
        rw [m_X6_playOut_L38, iNle (by omega) (by omega), r_cv hz, y_isOver hz (AlF_al ha) W.1 K0, ho, Option.bind_some, if_pos rfl]
end PLS
