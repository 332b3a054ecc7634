/-! pass, setPasses, lay answered alike -/
section PSL
variable {k L : Nat} {H : Hp} {v : Nat → Int32} {A : Nat → Nat → Int32} {Gn : Nat → Nat → Nat} {al bn : Nat → Nat} {P : Nat → Int64} {Q : Nat → Int32}
theorem K_16 (I : Kn0 k H v A L Gn al bn P Q) {ρ : Type} {r : Option ρ} : cv H 1 16 r = r := by
  obtain ⟨hd, nx, kb, sb, t16, _⟩ := I.2.2.2.2.2.2.2.2.1
  exact at_cv t16
theorem K_B (I : Kn0 k H v A L Gn al bn P Q) : WfB al ∧ Bk al bn ∧ Pot k al ∧ AlF A al := by
  obtain ⟨num, lat, w, V, C, pt, ha⟩ := K_b I
  exact ⟨⟨V.1.2.2.2.1, V.2.2.1, V.2.2.2.2⟩, V.2.2.2.1, pt, ha⟩
theorem Fr_g0 {H1 : Hp} {S : Nat → Prop} {n m : Nat} (I : Kn0 k H v A L Gn al bn P Q) (F : Fr H H1 S n m) (h0 : ¬ S 0) : gR H1 5 0 0 = some 2 := by
  obtain ⟨num, lat, w, V, C, pt, ha⟩ := K_b I
  exact at_gR (Fr_at F V.2.1 h0) rfl
theorem A_pass (hk5 : k ≤ 512) (I : Kn0 k H v A L Gn al bn P Q) : Agr k (m_L_pass 0 31 H) (m_X6_pass 20) := by
  obtain ⟨num, lat, w, V, C, pt, ha⟩ := K_b I
  obtain ⟨W, K, _, _⟩ := K_B I
  have h2 := W.1.2.2.1
  have a2 : ∀ {v : Nat → Int32} {A1 : Nat → Nat → Int32} {al1 : Nat → Nat} {g : Hp}, 31 ≤ g.2.1 → AlF A1 al1 → aI (setR v A1 g) 0 21 (2 : Int32) = some (nI (al1 2)) := fun hg h => (r_a0 (k := 2) hg (by decide)).trans (congrArg some (h 2 (by decide)))
  by_cases h0 : al 2 = 0
  · refine Agr_thr (t := 1) (x := 0) (e := 0) (cl := 7) I (thH I ?_) (fun h => rfl) (by decide) fun g hg => ?_
    · unfold m_X5_pass
      rw [K_g0 I, Option.bind_some, bd_P V.1.2.2.1, Option.bind_some, iZ (by omega), if_pos h0]
    · unfold m_X6_pass
      simp only [e_jK]
      rw [r_a hg, Option.bind_some, a2 hg ha, Option.bind_some, iZ (by omega), if_pos h0, yp7 hg, Option.bind_some, rg7 hg, Option.bind_some]
      show (if (1 : Int32) ≤ 0 then _ else _) = _
      rw [if_neg (by decide)]
      rfl
  · have h3 : al 3 < 4095 := by have := pt.1; omega
    have p1 := pt.1
    have p2 := pt.2
    refine Agr_keep (y := nI (al 2 - 1)) (al' := psN al) (bn' := bn) I (fun H1 S num lat k1 F1 oM S15 S2 B C z1 hn hG => ?_) (Bk_q Lq_psN W.1 K) (WfB_psN W (by omega)) ?_ fun g hd hg hd8 h6 => ?_
    · obtain ⟨H2, e2, B2, K2, C2, F2⟩ := x_spend B W K h0 z1 C
      refine ⟨H2, 1, 5, num, _, ?_, F2, by decide, by decide, B2, by rw [psN_3]; exact C2, hn, hG.trans (nrf_q Lq_psN).symm⟩
      have o0 : ¬ S 0 := fun e => by have := oM 0 e; omega
      have g1 := Fr_g0 I F1 o0
      have g2 := Fr_g0 I (Fr_trans (Fr_mono F1 (fun a e => .inl e) (Nat.le_refl _) (Nat.le_refl _)) (Fr_mono F2 (fun a e => .inr e) (Nat.le_refl _) (Nat.le_refl _))) (S := fun x => S x ∨ InB 2 x) (fun e => e.elim o0 (by unfold InB; omega))
      unfold m_X5_pass
      rw [K_g0 I, Option.bind_some, bd_P V.1.2.2.1, Option.bind_some, iZ (by omega), if_neg h0, at_gR V.2.1 rfl, Option.bind_some, Option.bind_some, K_16 I, k1, Option.bind_some, g1, Option.bind_some, bd_cv B, e2, Option.bind_some, g2, Option.bind_some, bd_P B2, Option.bind_some, psN_2]
    · refine ⟨?_, ?_⟩
      · rw [fre_q Lq_psN W.1, psN_3]; omega
      · rw [fre_q Lq_psN W.1, psN_3, psN_2]; omega
    · obtain ⟨A1, y1, y2, y3⟩ := y_keeps (v := upd v 7 (bI false)) (A := A) hg hd8 h6
      have ha1 : AlF A1 al := fun t ht => by rw [y2 0 (by decide)]; exact ha t ht
      obtain ⟨A2, w1, w2, w3⟩ := y_passes (v := upd (upd v 7 (bI false)) 6 (nI (min (hd + 1) 8))) hg ha1 W.1 h0 h3
      refine ⟨upd (upd v 7 (bI false)) 6 (nI (min (hd + 1) 8)), A2, ?_, rfl, rfl, rfl, rfl, rfl, fun j j0 j3 _ _ => (w2 j j0).trans (y2 j j3), w3, fun i t hi ht => by rw [w2 3 (by decide)]; exact y3 i t hi ht⟩
      unfold m_X6_pass
      simp only [e_jK]
      rw [r_a hg, Option.bind_some, a2 hg ha, Option.bind_some, iZ (by omega), if_neg h0, yp7 hg, Option.bind_some, rg7 hg, Option.bind_some]
      show (if (0 : Int32) ≤ 0 then _ else _) = _
      rw [if_pos (by decide), r_cv hg, y1, Option.bind_some, r_cv hg, w1, Option.bind_some, r_a hg, Option.bind_some, a2 hg w3, Option.bind_some, psN_2]
theorem x_setP2 {g : Hp} {o num p : Nat} {b : Nat → Nat} {lat : Option Nat} (B : BdH g o num al b lat) (R : Rg al) : ∃ g', pV g 0 o 3 (.int (nI p)) = some g' ∧ BdH g' o num (sp2 al p) b lat ∧ Fr g g' (InB o) 0 0 := by
  obtain ⟨O, ⟨q1, a1, e1⟩, ⟨q2, a2, e2⟩, ⟨q3, a3, e3⟩, ⟨q4, a4, e4⟩⟩ := B
  have O' : At g o (bo o (nI num) (nI (al 1)) (nI (al 0)) (nI (al 2)) (nI (fre al)) (nI (al 3)) lat) := O
  refine ⟨_, bp_3 O', ⟨?_, ⟨q1, at_set_ne a1 (by omega), fun k hk => ?_⟩, ⟨q2, at_set_ne a2 (by omega), fun k hk => ?_⟩, ⟨q3, at_set_ne a3 (by omega), fun k hk => ?_⟩, ⟨q4, at_set_ne a4 (by omega), e4⟩⟩, Fr_set ⟨by omega, by omega⟩⟩
  · rw [fre_q Lq_sp2 R]
    exact at_set_eq O'
  · rw [e1 k hk, nrf_q Lq_sp2]
  · rw [e2 k hk, lsf_q Lq_sp2]
  · rw [e3 k hk, pnf_q Lq_sp2]
theorem A_setP (hk5 : k ≤ 512) (I : Kn0 k H v A L Gn al bn P Q) (x : Int32) : Agr k (m_L_setPasses 0 x 31 H) (m_X6_setPasses 20 x) := by
  obtain ⟨num, lat, w, V, C, pt, ha⟩ := K_b I
  obtain ⟨W, K, _, _⟩ := K_B I
  have h2 := W.1.2.2.1
  have a2 : ∀ {v : Nat → Int32} {A1 : Nat → Nat → Int32} {al1 : Nat → Nat} {g : Hp}, 31 ≤ g.2.1 → AlF A1 al1 → aI (setR v A1 g) 0 21 (2 : Int32) = some (nI (al1 2)) := fun hg h => (r_a0 (k := 2) hg (by decide)).trans (congrArg some (h 2 (by decide)))
  have i9' : m_X6_isIn x (0 : Int32) (9 : Int32) = some (decide (0 ≤ x.toInt ∧ x.toInt ≤ (9 : Nat))) := isIn_L x (m := 9) (by decide)
  by_cases hx : 0 ≤ x.toInt ∧ x.toInt ≤ (9 : Nat)
  · rw [decide_eq_true hx] at i9'
    obtain ⟨p, hp, rfl⟩ := i_inL (n := 9) (by decide) hx
    have p1 := pt.1
    refine Agr_keep (y := nI (al 2)) (al' := sp2 al p) (bn' := bn) I (fun H1 S num lat k1 F1 oM S15 S2 B C z1 hn hG => ?_) (Bk_q Lq_sp2 W.1 K) (WfB_sp2 W hp) ?_ fun g hd hg hd8 h6 => ?_
    · obtain ⟨H2, e2, B2, F2⟩ := x_setP2 (p := p) B W.1
      refine ⟨H2, 0, 0, num, lat, ?_, F2, by decide, by decide, B2, ?_, hn, hG.trans (nrf_q Lq_sp2).symm⟩
      · have o0 : ¬ S 0 := fun e => by have := oM 0 e; omega
        have g1 := Fr_g0 I F1 o0
        unfold m_X5_setPasses
        rw [iNeg (by omega), if_pos (show nI p ≤ (9 : Int32) from nI_le (b := 9) hp (by decide)), at_gR V.2.1 rfl, Option.bind_some, K_g0 I, Option.bind_some, K_16 I, k1, Option.bind_some, g1, Option.bind_some, bd_P B, Option.bind_some, Option.bind_some, e2, Option.bind_some]
      · have C' := Chn_fr F2 (fun x fs hx _ e => by unfold InB at e; omega) _ _ C
        exact Chn_al _ _ (fun j _ => if_neg (by omega)) C'
    · refine ⟨?_, ?_⟩
      · rw [fre_q Lq_sp2 W.1]
        show 2 * (al 3 + _) ≤ _
        omega
      · rw [fre_q Lq_sp2 W.1]
        show 2 * (al 3 + _ + p) ≤ _
        omega
    · obtain ⟨A1, y1, y2, y3⟩ := y_keeps (v := upd v 7 (bI false)) (A := A) hg hd8 h6
      have ha1 : AlF A1 al := fun t ht => by rw [y2 0 (by decide)]; exact ha t ht
      refine ⟨upd (upd v 7 (bI false)) 6 (nI (min (hd + 1) 8)), updA A1 0 2 (nI p), ?_, rfl, rfl, rfl, rfl, rfl, fun j j0 j3 _ _ => (updA_o j0).trans (y2 j j3), fun t ht => ?_, fun i t hi ht => y3 i t hi ht⟩
      · unfold m_X6_setPasses
        simp only [e_jK]
        rw [i9', Option.bind_some, if_pos rfl, yp7 hg, Option.bind_some, rg7 hg, Option.bind_some]
        show (if (0 : Int32) ≤ 0 then _ else _) = _
        rw [if_pos (by decide), r_cv hg, y1, Option.bind_some, r_a hg, Option.bind_some, a2 hg ha1, Option.bind_some, Option.bind_some]
        rw [show sI (setR (upd (upd v 7 (bI false)) 6 (nI (min (hd + 1) 8))) A1 g) 0 21 (2 : Int32) (nI p) = _ from r_s0 (k := 2) hg (by decide), Option.bind_some]
      · show (if t = 2 then nI p else A1 0 t) = nI (if t = 2 then p else al t)
        by_cases ht2 : t = 2
        · rw [if_pos ht2, if_pos ht2]
        · rw [if_neg ht2, if_neg ht2, ha1 t ht]
  · rw [decide_eq_false hx] at i9'
    refine Agr_thr (t := 1) (x := 0) (e := 1) (cl := 8) I (thH I ?_) (fun h => rfl) (by decide) fun g hg => ?_
    · unfold m_X5_setPasses
      by_cases h0 : x < 0
      · rw [if_pos h0]
      · obtain ⟨j, hj, rfl⟩ := nI_of h0
        rw [nI_toInt hj] at hx
        rw [if_neg h0, if_neg (show ¬ nI j ≤ (9 : Int32) from nI_ge (a := 9) (by omega) hj)]
    · unfold m_X6_setPasses
      simp only [e_jK]
      rw [i9', Option.bind_some, if_neg (by decide), yp7 hg, Option.bind_some, rg7 hg, Option.bind_some]
      show (if (1 : Int32) ≤ 0 then _ else _) = _
      rw [if_neg (by decide)]
      rfl
end PSL
