/-! restore answered alike -/
section RES
variable {k L : Nat} {H : Hp} {v : Nat → Int32} {A : Nat → Nat → Int32} {Gn : Nat → Nat → Nat} {al bn : Nat → Nat} {P : Nat → Int64} {Q : Nat → Int32}
theorem A_restore (I : Kn0 k H v A L Gn al bn P Q) (x : Int32) : Agr k (m_L_restore 0 x 31 H) (m_X6_restore 20 x) := by
  obtain ⟨num, lat, w, V, C, pt, ha⟩ := K_b I
  obtain ⟨W, K, _, _⟩ := K_B I
  obtain ⟨hd, nx, kb, sb, t16, t17, t18, hd8, nx8, h6, ⟨b7, b8⟩, b9, b10⟩ := id I.2.2.2.2.2.2.2.2.1
  have g4 : gR H 5 0 4 = some 18 := at_gR V.2.1 rfl
  have g3 : gR H 5 0 3 = some 16 := at_gR V.2.1 rfl
  have i1' : m_X6_isIn x (0 : Int32) (1 : Int32) = some (decide (0 ≤ x.toInt ∧ x.toInt ≤ (1 : Nat))) := isIn_L x (m := 1) (by decide)
  by_cases hx : 0 ≤ x.toInt ∧ x.toInt ≤ (1 : Nat)
  · rw [decide_eq_true hx] at i1'
    obtain ⟨i, hi, rfl⟩ := i_inL (n := 1) (by decide) hx
    have a5 : ∀ (v : Nat → Int32) (g : Hp), 31 ≤ g.2.1 → aI (setR v A g) 3 26 (nI i) = some (A 5 i) := fun v g hg => r_aI (i := 5) hg (by decide) (show i < 2 by omega)
    have ex0 : m_X5_restore 0 (nI i) H = nz (sb i) (some (.inr 0, hpush H (.inr (7, [])) 6)) fun a5 =>
      (m_X1_keep 16 2 H).bind fun h8 =>
      (gR h8 5 0 0).bind fun a9 =>
      cv h8 0 a9 <| (m_X0_takeFrom a9 a5 h8).bind fun h10 =>
      (gR h10 5 0 0).bind fun a11 =>
      (gI h10 0 a11 5).bind fun x12 =>
      some (.inl x12, h10) := by
      unfold m_X5_restore
      rw [iNeg (by omega), g4, Option.bind_some, at_aN t18, Option.bind_some, iLt (by omega) (by decide), Option.bind_some, at_aQ t18 (by omega) (by decide), Option.bind_some, g3, K_g0 I]
      simp only [Option.bind_some, at_cv t16]
    rcases b10 i (by omega) with ⟨d1, d2⟩ | ⟨a, d1, d2, num', al', b', lat', B', K', C', W', hn', hG', pt', row⟩
    · refine Agr_thr (t := 2) (x := 0) (e := 0) (cl := 7) I (thH I (by rw [ex0, d1, e_nzN])) (fun h => rfl) (by decide) fun g hg => ?_
      unfold m_X6_restore
      simp only [e_jK]
      rw [i1', Option.bind_some, if_pos rfl, r_26 hg, Option.bind_some, a5 _ _ hg, Option.bind_some, d2, if_pos rfl, yp7 hg, Option.bind_some, rg7 hg, Option.bind_some]
      show (if (2 : Int32) ≤ 0 then _ else _) = _
      rw [if_neg (by decide)]
    · have es0 : bdx kb sb (8 + i) = some a := by
        unfold bdx
        rw [if_neg (by omega), show 8 + i - 8 = i by omega]
        exact d1
      have ha32 := (b7 (8 + i) a (by omega) es0).1
      refine Agr_keep (y := nI (al' 3)) (al' := al') (bn' := b') I (fun H1 S num lat k1 F1 oM S15 S2 B C z1 hn hG => ?_) K' W' (Pot_mono pt' (Nat.le_succ k)) fun g hd' hg hd8' h6' => ?_
      · obtain ⟨H1', ak, k1', _, _, _, _, Fk⟩ := x_keep t16 t17 nx8 hd8 V.1.2.2.1 (by decide) (fun a e => by
          have := b7 nx a (by omega) (by unfold bdx; rw [if_pos nx8]; exact e)
          exact ⟨this.2, this.1⟩)
        obtain rfl : H1 = H1' := Option.some.inj (k1.symm.trans k1')
        have dis : ∀ t, t < 5 → ¬ (a + t = 16 ∨ a + t = 17 ∨ (kb nx = some ak ∧ InB ak (a + t))) := fun t ht e => by
          rcases e with e | e | ⟨e0, e⟩
          · omega
          · omega
          · have := b8 (8 + i) nx a ak (by omega) (by omega) (by omega) es0 (by unfold bdx; rw [if_pos nx8]; exact e0)
            unfold InB at e
            omega
        have Ba : BdH H1 a num' al' b' lat' := Fr_bd Fk B' dis
        obtain ⟨H2, e2, B2, _, F2⟩ := x_takeFrom Ba (BdH_S B) (Or.inl (by omega))
        have o0 : ¬ S 0 := fun e => by have := oM 0 e; omega
        have g1 := Fr_g0 I F1 o0
        have g2 := Fr_g0 I (Fr_trans (Fr_mono F1 (fun a e => .inl e) (Nat.le_refl _) (Nat.le_refl _)) (Fr_mono F2 (fun a e => .inr e) (Nat.le_refl _) (Nat.le_refl _))) (S := fun x => S x ∨ InB 2 x) (fun e => e.elim o0 (by unfold InB; omega))
        refine ⟨H2, 0, 0, num', lat', ?_, F2, by decide, by decide, B2, ?_, hn', hG'⟩
        · rw [ex0, d1, e_nzS, k1, Option.bind_some, g1, Option.bind_some, bd_cv B, e2, Option.bind_some, g2, Option.bind_some, bd_mk B2, Option.bind_some]
        · exact Chn_fr F2 (fun x fs hx _ e => by unfold InB at e; omega) _ _ (Chn_fr F1 S2 _ _ C')
      · obtain ⟨A1, y1, y2, y3⟩ := y_keeps (v := upd v 7 0) (A := A) hg hd8' h6'
        have es := y_sets (v := upd (upd v 7 0) 6 (nI (min (hd' + 1) 8))) (A := A1) (i := 0) (j := 4) (p := 0) (q := 4136 * i) hg (by decide) (by decide) (by decide) (by decide) (by show 4136 * i + 4136 ≤ 8272; omega)
        have hal : AlF (cpA A1 0 0 4 (4136 * i) 4136) al' := fun t ht => by
          show (if 0 ≤ t ∧ t < 0 + 4136 then A1 4 (4136 * i + (t - 0)) else A1 0 t) = _
          rw [if_pos ⟨by omega, by omega⟩, y2 4 (by decide)]
          exact row t ht
        refine ⟨upd (upd v 7 0) 6 (nI (min (hd' + 1) 8)), cpA A1 0 0 4 (4136 * i) 4136, ?_, rfl, rfl, rfl, rfl, rfl, fun j j0 j3 _ _ => (if_neg j0).trans (y2 j j3), hal, fun i t hi ht => y3 i t hi ht⟩
        unfold m_X6_restore
        simp only [e_jK]
        rw [i1', Option.bind_some, if_pos rfl, r_26 hg, Option.bind_some, a5 _ _ hg, Option.bind_some, d2, if_neg (by decide), yp7 hg, Option.bind_some, rg7 hg, Option.bind_some]
        show (if (0 : Int32) ≤ 0 then _ else _) = _
        rw [if_pos (by decide), r_cv hg, y1, Option.bind_some, r_a hg, Option.bind_some, r_25 hg, Option.bind_some, show (4136 : Int32) * nI i = nI (4136 * i) from pk_mul 4136 i]
        rw [show m_X6_sets 21 (0 : Int32) 25 (nI (4136 * i)) (setR (upd (upd v 7 0) 6 (nI (min (hd' + 1) 8))) A1 g) = _ from es, Option.bind_some, r_a hg, Option.bind_some, show aI (setR (upd (upd v 7 0) 6 (nI (min (hd' + 1) 8))) (cpA A1 0 0 4 (4136 * i) 4136) g) 0 21 (3 : Int32) = some (nI (al' 3)) from (r_a0 (k := 3) hg (by decide)).trans (congrArg some (hal 3 (by decide))), Option.bind_some]
  · rw [decide_eq_false hx] at i1'
    refine Agr_thr (t := 1) (x := 0) (e := 2) (cl := 9) I (thH I ?_) (fun h => rfl) (by decide) fun g hg => ?_
    · unfold m_X5_restore
      by_cases h0 : x < 0
      · rw [if_pos h0]
      · obtain ⟨j, hj, rfl⟩ := nI_of h0
        rw [nI_toInt hj] at hx
        rw [if_neg h0, g4, Option.bind_some, at_aN t18, Option.bind_some, iNlt (by omega) (by omega)]
    · unfold m_X6_restore
      simp only [e_jK]
      rw [i1', Option.bind_some, if_neg (by decide), yp7 hg, Option.bind_some, rg7 hg, Option.bind_some]
      show (if (1 : Int32) ≤ 0 then _ else _) = _
      rw [if_neg (by decide)]
end RES
