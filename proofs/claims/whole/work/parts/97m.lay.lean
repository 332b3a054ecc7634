/-! lay answered alike -/
section LAY
variable {k L : Nat} {H : Hp} {v : Nat → Int32} {A : Nat → Nat → Int32} {Gn : Nat → Nat → Nat} {al bn : Nat → Nat} {P : Nat → Int64} {Q : Nat → Int32}
theorem A_lay (hk5 : k ≤ 512) (I : Kn0 k H v A L Gn al bn P Q) (x y : Int32) : Agr k (m_L_lay 0 x y 31 H) (m_X6_lay 20 x y) := by
  obtain ⟨num, lat, w, V, C, pt, ha⟩ := K_b I
  obtain ⟨W, K, _, _⟩ := K_B I
  have h9 := W.1.1
  have hC := W.1.2.1
  have p1 := pt.1
  have p2 := pt.2
  by_cases hx : (0 ≤ x.toInt ∧ x.toInt < al 0) ∧ (0 ≤ y.toInt ∧ y.toInt < al 1)
  · obtain ⟨u, hu, rfl⟩ := i_inN (by omega) hx.1
    obtain ⟨c, hc, rfl⟩ := i_inN (by omega) hx.2
    have hwl := wn_le (al := al) (b := bn) (v := u) (c := c)
    have ex0 : m_X5_lay 0 (nI u) (nI c) H = (m_X0_whyNot 2 (nI u) (nI c) H).bind fun x4 =>
    if x4 = 0 then
      (gR H 5 0 3).bind fun a5 =>
      (gR H 5 0 0).bind fun a6 =>
      cv H 1 a5 <| (m_X1_keep a5 a6 H).bind fun h7 =>
      (gR h7 5 0 0).bind fun a8 =>
      cv h7 0 a8 <| (m_X0_paint a8 (nI u) (nI c) h7).bind fun h9 =>
      (gR h9 5 0 0).bind fun a10 =>
      (gR h9 5 0 0).bind fun a11 =>
      (gI h9 0 a11 4).bind fun x12 =>
      cv h9 0 a10 <| (m_X0_partsIn a10 x12 h9).bind fun x13 =>
      some (.inl x13, h9)
    else
      some (.inr 0, hpush H (.inr (7, [])) 6) := by
      unfold m_X5_lay
      rw [K_g0 I, Option.bind_some, bd_cv V.1.2.2.1, x_hasPair V.1.2.2.1 W.1, decide_eq_true hx.1, decide_eq_true hx.2, Option.bind_some, if_pos (show (true && true) = true from rfl), Option.bind_some, bd_cv V.1.2.2.1]
    have ey0 : ∀ g : Hp, 31 ≤ g.2.1 → m_X6_lay 20 (nI u) (nI c) (setR v A g) = if nI (wn al bn u c) ≤ (0 : Int32) then
        ((pV (setR v A g) 6 20 7 (.int 0)).bind fun h4 =>
    (gI h4 6 20 7).bind fun x5 =>
    if x5 ≤ 0 then
      cv h4 6 20 <| (m_X6_keeps 20 h4).bind fun h6 =>
      cv h6 6 20 <| (m_X6_lays 20 (nI u) (nI c) h6).bind fun h7 =>
      cv h7 6 20 <| (m_X6_freeSet 20 h7).bind fun x8 =>
      cv h7 6 20 <| (m_X6_partsIn 20 x8 h7).bind fun x9 =>
      some (x9, h7)
    else
      some ((0 : Int32), h4)) else some ((0 : Int32), setR (upd v 7 (nI 2)) A g) := fun g hg => by
      unfold m_X6_lay
      simp only [e_jK]
      rw [r_cv hg, y_isVertex hg (AlF_al ha) W.1, decide_eq_true hx.1, Option.bind_some, if_pos rfl, r_cv hg, y_isColour hg (AlF_al ha) W.1, decide_eq_true hx.2, Option.bind_some, if_pos rfl, r_cv hg, y_whyNot hg (AlF_al ha) W.1 K hu hc, Option.bind_some]
      by_cases hq : nI (wn al bn u c) ≤ (0 : Int32)
      · rw [if_pos hq, if_pos hq]
      · rw [if_neg hq, if_neg hq, yp7 hg, Option.bind_some, rg7 hg, Option.bind_some]
        show (if (2 : Int32) ≤ 0 then _ else _) = _
        rw [if_neg (by decide)]
        rfl
    rw [x_whyNot V.1.2.2.1 W.1 (by omega) (by omega), Option.bind_some] at ex0
    by_cases hq : wn al bn u c = 0
    · have hfu := (wn_0.mp hq).1
      have hpv := pop_v hfu (fre_lt W.1)
      have hf' := fre_lyN W.1 hfu (c := c) (by omega)
      have h3 : al 3 < 4095 := by omega
      have W' := WfB_lyN W hfu hc (by omega)
      have fl' := fre_lt W'.1
      rw [hq, if_pos (show nI 0 = (0 : Int32) from rfl)] at ex0
      obtain ⟨b', hb'⟩ : ∃ b' : Nat → Nat, ∀ H1 S num lat, m_X1_keep 16 2 H = some H1 → Fr H H1 S 5 29 → OffM S → BdH H1 2 num al bn lat → Chn H1 al (al 3) lat → 32 ≤ H1.2.1 → ∃ h', m_X0_paint 2 (nI u) (nI c) H1 = some h' ∧ BdH h' 2 num (lyN al u c) b' (some H1.2.1) ∧ Bk (lyN al u c) b' ∧ Chn h' (lyN al u c) (al 3 + 1) (some H1.2.1) ∧ Fr H1 h' (InB 2) 1 5 := by
        obtain ⟨H1, S, hd, k1, F1, S1, S2, _⟩ := X_keep I.2.2.2.2.2.2.2.2.1 I.2.2.2.1 V.1.2.2.1 K C W V.1.2.2.2.2.1 V.1.2.2.2.2.2.2 pt ha
        have B1 : BdH H1 2 num al bn lat := Fr_bd F1 V.1.2.2.1 fun i hi e => by have := S1 _ e; omega
        obtain ⟨h', b', r1, r2, r3, r4, r5⟩ := x_paint B1 W K hfu hc (Nat.le_trans I.2.2.2.1 F1.1) (Chn_fr F1 S2 _ _ C)
        refine ⟨b', fun H1' S' num' lat' k1' F1' oM' B' C' z' => ?_⟩
        obtain rfl : H1 = H1' := Option.some.inj (k1.symm.trans k1')
        obtain ⟨h2, b2, t1, t2, t3, t4, t5⟩ := x_paint B' W K hfu hc z' C'
        obtain rfl : h' = h2 := Option.some.inj (r1.symm.trans t1)
        refine ⟨h', r1, ⟨t2.1, t2.2.1, t2.2.2.1, t2.2.2.2.1, r2.2.2.2.2⟩, r3, t4, t5⟩
      have kb' : Bk (lyN al u c) b' := by
        obtain ⟨H1, S, hd, k1, F1, S1, S2, _⟩ := X_keep I.2.2.2.2.2.2.2.2.1 I.2.2.2.1 V.1.2.2.1 K C W V.1.2.2.2.2.1 V.1.2.2.2.2.2.2 pt ha
        obtain ⟨_, _, _, h, _⟩ := hb' H1 S num lat k1 F1 (fun x e => by have := S1 x e; omega) (Fr_bd F1 V.1.2.2.1 fun i hi e => by have := S1 _ e; omega) (Chn_fr F1 S2 _ _ C) (Nat.le_trans I.2.2.2.1 F1.1)
        exact h
      refine Agr_keep (y := nI (np (nrf (lyN al u c)) (fre (lyN al u c)))) (al' := lyN al u c) (bn' := b') I (fun H1 S num lat k1 F1 oM S15 S2 B C z1 hn hG => ?_) kb' W' ?_ fun g hd hg hd8 h6 => ?_
      · obtain ⟨H2, e2, B2, K2, C2, F2⟩ := hb' H1 S num lat k1 F1 oM B C z1
        refine ⟨H2, 1, 5, num, _, ?_, F2, by decide, by decide, B2, by rw [lyN_3]; exact C2, hn, hG.trans nrf_lyN.symm⟩
        have o0 : ¬ S 0 := fun e => by have := oM 0 e; omega
        have g1 := Fr_g0 I F1 o0
        have g2 := Fr_g0 I (Fr_trans (Fr_mono F1 (fun a e => .inl e) (Nat.le_refl _) (Nat.le_refl _)) (Fr_mono F2 (fun a e => .inr e) (Nat.le_refl _) (Nat.le_refl _))) (S := fun x => S x ∨ InB 2 x) (fun e => e.elim o0 (by unfold InB; omega))
        rw [ex0, at_gR V.2.1 rfl, Option.bind_some, K_g0 I, Option.bind_some, K_16 I, k1, Option.bind_some, g1, Option.bind_some, bd_cv B, e2, Option.bind_some, g2, Option.bind_some, Option.bind_some, bd_f B2, Option.bind_some, bd_cv B2, x_partsIn B2 W'.1 (sy_Rg W'.1) fl', Option.bind_some]
      · refine ⟨?_, ?_⟩
        · rw [hf', lyN_3]; omega
        · rw [hf', lyN_3, lyN_2]; omega
      · obtain ⟨A1, y1, y2, y3⟩ := y_keeps (v := upd v 7 0) (A := A) hg hd8 h6
        have ha1 : AlF A1 al := fun t ht => by rw [y2 0 (by decide)]; exact ha t ht
        obtain ⟨A2, w1, w2, w3⟩ := y_lays (v := upd (upd v 7 0) 6 (nI (min (hd + 1) 8))) hg ha1 W.1 hfu hc h3
        refine ⟨upd (upd v 7 0) 6 (nI (min (hd + 1) 8)), A2, ?_, rfl, rfl, rfl, rfl, rfl, fun j j0 j3 _ _ => (w2 j j0).trans (y2 j j3), w3, fun i t hi ht => by rw [w2 3 (by decide)]; exact y3 i t hi ht⟩
        rw [ey0 g hg, hq, if_pos (show nI 0 ≤ (0 : Int32) by decide), yp7 hg, Option.bind_some, rg7 hg, Option.bind_some]
        show (if (0 : Int32) ≤ 0 then _ else _) = _
        rw [if_pos (by decide), r_cv hg, y1, Option.bind_some, r_cv hg, w1, Option.bind_some, r_cv hg, y_freeSet hg (AlF_al w3) W'.1, Option.bind_some, r_cv hg, y_partsIn hg (AlF_al w3) W'.1 (sy_Rg W'.1) fl' (fun i hi => fre_N hi), Option.bind_some]
    · rw [if_neg (fun e => hq ((nI_z (by omega)).mp e))] at ex0
      refine Agr_thr (t := 2) (x := 0) (e := 0) (cl := 7) I (thH I ex0) (fun h => rfl) (by decide) fun g hg => ?_
      rw [ey0 g hg, if_neg (nI_nle (by omega) (by omega))]
      rfl
  · refine Agr_thr (t := 1) (x := 0) (e := 2) (cl := 9) I (thH I ?_) (fun h => rfl) (by decide) fun g hg => ?_
    · unfold m_X5_lay
      have hb : (decide (0 ≤ x.toInt ∧ x.toInt < al 0) && decide (0 ≤ y.toInt ∧ y.toInt < al 1)) = false := by
        rw [Bool.and_eq_false_iff]
        by_cases h1 : 0 ≤ x.toInt ∧ x.toInt < al 0
        · exact .inr (decide_eq_false fun h2 => hx ⟨h1, h2⟩)
        · exact .inl (decide_eq_false h1)
      rw [K_g0 I, Option.bind_some, bd_cv V.1.2.2.1, x_hasPair V.1.2.2.1 W.1, hb, Option.bind_some, if_neg (by decide)]
    · have fin : ∀ {r : Option (Int32 × Hp)}, r = ((pV (setR v A g) 6 20 7 (.int 1)).bind fun h4 => (gI h4 6 20 7).bind fun x5 => if x5 ≤ 0 then none else some ((0 : Int32), h4)) → r = some ((0 : Int32), setR (upd v 7 1) A g) := fun e => by
        rw [e, yp7 hg, Option.bind_some, rg7 hg, Option.bind_some]
        show (if (1 : Int32) ≤ 0 then _ else _) = _
        rw [if_neg (by decide)]
      unfold m_X6_lay
      simp only [e_jK]
      rw [r_cv hg, y_isVertex hg (AlF_al ha) W.1, Option.bind_some]
      by_cases h1 : 0 ≤ x.toInt ∧ x.toInt < al 0
      · rw [decide_eq_true h1, if_pos rfl, r_cv hg, y_isColour hg (AlF_al ha) W.1, decide_eq_false (fun h2 => hx ⟨h1, h2⟩), Option.bind_some, if_neg (by decide), yp7 hg, Option.bind_some, rg7 hg, Option.bind_some]
        show (if (1 : Int32) ≤ 0 then _ else _) = _
        rw [if_neg (by decide)]
      · rw [decide_eq_false h1, if_neg (by decide), yp7 hg, Option.bind_some, rg7 hg, Option.bind_some]
        show (if (1 : Int32) ≤ 0 then _ else _) = _
        rw [if_neg (by decide)]
end LAY
