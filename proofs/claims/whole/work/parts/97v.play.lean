/-! playOut answered alike -/
section PLO
variable {k L : Nat} {H : Hp} {v : Nat → Int32} {A : Nat → Nat → Int32} {Gn : Nat → Nat → Nat} {al bn : Nat → Nat} {P : Nat → Int64} {Q : Nat → Int32}
theorem A_playOut (hk5 : k ≤ 512) (I : Kn0 k H v A L Gn al bn P Q) (x : Int32) : Agr k (m_L_playOut 0 x 31 H) (m_X6_playOut 20 x) := by
  obtain ⟨W, K0, _, _⟩ := K_B I
  obtain ⟨e1, e2, c1, z, hL, s1, s2, b1, b2, b3, o, ho⟩ := id I
  obtain ⟨num, lat, w, fW, V, C, pt, ha, h19, hw, h21, hf⟩ := b1
  have p1 := pt.1
  have p2 := pt.2
  have t1 : (1 : Int32).toInt = 1 := rfl
  have t20 : (20 : Int32).toInt = 20 := rfl
  by_cases hx : 1 ≤ x.toInt ∧ x.toInt ≤ 20
  · obtain ⟨n, hn, rfl⟩ := i_inL (n := 20) (by decide) (x := x) ⟨by omega, by have := hx.2; omega⟩
    have hn1 : 1 ≤ n := by
      have := hx.1
      rw [nI_toInt (by omega)] at this
      omega
    have q1 : ¬ nI n < (1 : Int32) := nI_nlt (b := 1) hn1 (by omega)
    have q2 : nI n ≤ (20 : Int32) := nI_le (b := 20) hn (by decide)
    have q3 : ¬ (20 : Int32) < nI n := nI_nlt (a := 20) hn (by decide)
    obtain ⟨H1, S, hd, k1, F1, S1, S2, hd8, h6, hh⟩ := X_keep b2 z V.1.2.2.1 V.2.2.2.1 C W V.1.2.2.2.2.1 V.1.2.2.2.2.2.2 pt ha
    have h78 := congrArg (fun q : Hp => (q.1 7, q.1 8)) e2
    have off1 : ∀ x, x < 16 → ¬ S x := fun x hx e => by have := S1 x e; omega
    have S0 : PlS H1 num al bn lat L Gn w L P Q := ⟨wC_self ((F1.2.2.2 7 (by omega) (off1 7 (by omega))).trans (congrArg Prod.fst h78)) ((F1.2.2.2 8 (by omega) (off1 8 (by omega))).trans (congrArg Prod.snd h78)), Vx_fr F1 V (fun i hi => off1 i (by omega)), Chn_fr F1 S2 _ _ C, c1, Nat.le_trans z F1.1⟩
    obtain ⟨m, al', bn', lat', H2, P', Q', S', F2, hM, ec, er⟩ := pl_run n 0 al bn lat H1 P Q S0 (by omega) (by omega)
    obtain ⟨W', K', B', _⟩ := Pl_W S'
    have F : Fr H H2 (fun x => S x ∨ SPl x) (5 + n) (29 + 5 * n) := Fr_trans (Fr_mono F1 (fun a e => .inl e) (Nat.le_refl _) (Nat.le_refl _)) (Fr_mono F2 (fun a e => .inr e) (Nat.le_refl _) (Nat.le_refl _))
    have oF : ∀ x, (S x ∨ SPl x) → (2 ≤ x ∧ x ≤ 6) ∨ x = 7 ∨ x = 8 ∨ x = 16 ∨ x = 17 ∨ 32 ≤ x := fun x e => by
      rcases e with e | e | e | e
      · have := S1 x e
        omega
      · unfold InB at e
        omega
      · omega
      · omega
    have off : ∀ x, ¬ ((2 ≤ x ∧ x ≤ 6) ∨ x = 7 ∨ x = 8 ∨ x = 16 ∨ x = 17 ∨ 32 ≤ x) → ¬ (S x ∨ SPl x) := fun x hx e => hx (oF x e)
    have oP : ∀ x, SPl x → (2 ≤ x ∧ x ≤ 6) ∨ x = 7 ∨ x = 8 := fun x e => by
      rcases e with e | e | e
      · unfold InB at e
        omega
      · omega
      · omega
    have h78' := congrArg (fun q : Hp => (q.1 7, q.1 8)) S'.1
    refine Agr_mk (y := nI m) (al := al') (bn := bn') (P := P') (Q := Q') (H2 := H2) (fun {ρ} {r} => K_cv I) ?_ ⟨o, Fr_at F ho (off _ (by decide))⟩ (Nat.le_trans z F.1) (by have := F.2.1; omega) (by have := F.2.2.1; omega) (by omega) S'.2.2.2.1 (congrArg Prod.fst h78') (congrArg Prod.snd h78') e1 (fun a h1 h2 => F.2.2.2 a (by omega) (off _ (by omega))) fun g hg => ?_
    · unfold m_X5_playOut
      have ec' := ec (fun v7 h8 => some (.inl v7, h8)) LF (by unfold LF; omega)
      rw [Nat.zero_add] at ec'
      rw [if_neg q1, if_pos q2, show gR H 5 0 3 = some 16 from at_gR V.2.1 rfl, Option.bind_some, K_g0 I, Option.bind_some, K_16 I, k1, Option.bind_some]
      exact ec'
    · obtain ⟨A1, y1, y2, y3⟩ := y_keeps (v := upd v 7 (bI false)) (A := A) hg hd8 h6
      have ha1 : AlF A1 al := fun t ht => by rw [y2 0 (by decide)]; exact ha t ht
      obtain ⟨A', r1, r2, er'⟩ := er g (upd (upd v 7 (bI false)) 6 (nI (min (hd + 1) 8))) (wq A1 (fgt (A1 7) 80000) (A1 8)) hg (AlF_wq ha1) (by rw [wq_7]; exact MK_fgt)
      have er2 := er' (fun v11 h12 => some (v11, h12)) LF (by unfold LF; omega)
      rw [Nat.zero_add] at er2
      have hA1 : ∀ j, j ≠ 0 → j ≠ 7 → j ≠ 8 → A' j = A1 j := fun j j0 j7 j8 => (r1 j j0 j7 j8).trans (wq_o j7 j8)
      have hA : ∀ j, j ≠ 0 → j ≠ 3 → j ≠ 7 → j ≠ 8 → A' j = A j := fun j j0 j3 j7 j8 => (hA1 j j0 j7 j8).trans (y2 j j3)
      refine ⟨upd (upd v 7 (bI false)) 6 (nI (min (hd + 1) 8)), A', ?_, rfl, ⟨num, lat', w, fW, S'.2.1, S'.2.2.1, ⟨by omega, by omega⟩, r2, Fr_at F h19 (off _ (by decide)), hw, h21, fun i hi => by rw [hA 9 (by decide) (by decide) (by decide) (by decide)]; exact hf i hi⟩, ?_, Rdr_fr (fun a e => by have := oF a e; omega) F b3 rfl rfl (hA 6 (by decide) (by decide) (by decide) (by decide))⟩
      · unfold m_X6_playOut m_X6_isIn
        simp only [e_jK]
        rw [if_neg q1, if_neg q3, Option.bind_some, if_pos rfl, yp7 hg, Option.bind_some, rg7 hg, Option.bind_some]
        show (if (0 : Int32) ≤ 0 then _ else _) = _
        rw [if_pos (by decide), r_cv hg, y1, Option.bind_some, r_cv hg, y_fg hg, Option.bind_some]
        exact er2
      · refine Hst_fr (S := SPl) (fun a e => by have := oP a e; omega) F2 (hh (upd (upd v 7 (bI false)) 6 (nI (min (hd + 1) 8))) A' rfl (hA 4 (by decide) (by decide) (by decide) (by decide)) (hA 5 (by decide) (by decide) (by decide) (by decide)) fun i t hi ht => ?_) rfl rfl rfl rfl (Nat.le_succ k)
        rw [hA1 3 (by decide) (by decide) (by decide)]
        exact y3 i t hi ht
  · have hc : x < (1 : Int32) ∨ (¬ x < (1 : Int32) ∧ ¬ x ≤ (20 : Int32) ∧ (20 : Int32) < x) := by
      rw [Int32.lt_iff_toInt_lt, Int32.le_iff_toInt_le, Int32.lt_iff_toInt_lt, t1, t20]
      omega
    refine Agr_thr (t := 1) (x := 0) (e := 1) (cl := 8) I (thH I ?_) (fun h => rfl) (by decide) fun g hg => ?_
    · unfold m_X5_playOut
      rcases hc with h | ⟨h1, h2, h3⟩
      · rw [if_pos h]
      · rw [if_neg h1, if_neg h2]
    · unfold m_X6_playOut m_X6_isIn
      simp only [e_jK]
      have hin : (if x < (1 : Int32) then some false else if (20 : Int32) < x then some false else some true) = some false := by
        rcases hc with h | ⟨h1, h2, h3⟩
        · rw [if_pos h]
        · rw [if_neg h1, if_pos h3]
      rw [hin, Option.bind_some, if_neg (by decide), yp7 hg, Option.bind_some, rg7 hg, Option.bind_some]
      show (if (1 : Int32) ≤ 0 then _ else _) = _
      rw [if_neg (by decide)]
      rfl
end PLO
