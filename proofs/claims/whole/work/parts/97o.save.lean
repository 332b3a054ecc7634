/-! save answered alike -/
section SAV
variable {k L : Nat} {H : Hp} {v : Nat → Int32} {A : Nat → Nat → Int32} {Gn : Nat → Nat → Nat} {al bn : Nat → Nat} {P : Nat → Int64} {Q : Nat → Int32}
theorem A_save (I : Kn0 k H v A L Gn al bn P Q) (x : Int32) : Agr k (m_L_save 0 x 31 H) (m_X6_save 20 x) := by
  obtain ⟨num, lat, w, V, C, pt, ha⟩ := K_b I
  obtain ⟨W, K, _, _⟩ := K_B I
  obtain ⟨e1, e2, c1, z, hL, s1, s2, b1, b2, b3, o, ho⟩ := id I
  obtain ⟨hd, nx, kb, sb, t16, t17, t18, hd8, nx8, h6, ⟨b7, b8⟩, b9, b10⟩ := id b2
  have g4 : gR H 5 0 4 = some 18 := at_gR V.2.1 rfl
  have i1' : m_X6_isIn x (0 : Int32) (1 : Int32) = some (decide (0 ≤ x.toInt ∧ x.toInt ≤ (1 : Nat))) := isIn_L x (m := 1) (by decide)
  by_cases hx : 0 ≤ x.toInt ∧ x.toInt ≤ (1 : Nat)
  · rw [decide_eq_true hx] at i1'
    obtain ⟨i, hi, rfl⟩ := i_inL (n := 1) (by decide) hx
    have eb : ∀ a, sb i = some a → bdx kb sb (8 + i) = some a := fun a e => by
      unfold bdx
      rw [if_neg (by omega), show 8 + i - 8 = i by omega]
      exact e
    have hold : ∀ a, sb i = some a → BdS H a ∧ 32 ≤ a := fun a e => by
      have := b7 (8 + i) a (by omega) (eb a e)
      exact ⟨this.2, this.1⟩
    obtain ⟨H2, a, x1, u18, B2, hcase, F⟩ := x_keepCopy (i := i) t18 (by omega) (by decide) V.1.2.2.1 (fun a e => by
      have := hold a e
      exact ⟨this.1, Or.inr (by omega), by unfold InB; omega⟩) (by unfold InB; omega)
    have ha32 : 32 ≤ a := by
      rcases hcase with e | e
      · exact (hold a e).2
      · rw [e.2]; exact z
    have hS1 : ∀ y, (y = 18 ∨ (sb i = some a ∧ InB a y)) → y = 18 ∨ 32 ≤ y := fun y e => by
      rcases e with e | ⟨-, e⟩
      · exact .inl e
      · unfold InB at e
        exact .inr (by omega)
    have hS2 : ∀ y fs, 32 ≤ y → At H y (.inr (2, fs)) → ¬ (y = 18 ∨ (sb i = some a ∧ InB a y)) := fun y fs hy h e => by
      rcases e with e | ⟨e0, e⟩
      · omega
      · exact BdS_2 (hold a e0).1 e h
    have dis : ∀ j a', j < 10 → j ≠ 8 + i → bdx kb sb j = some a' → ∀ t, t < 5 → ¬ (a' + t = 18 ∨ (sb i = some a ∧ InB a (a' + t))) := fun j a' hj hne e t ht h => by
      have h32 := (b7 j a' hj e).1
      rcases h with h | ⟨h0, h⟩
      · omega
      · have := b8 j (8 + i) a' a hj (by omega) hne e (eb a h0)
        unfold InB at h
        omega
    have apart : ∀ j a', j < 10 → j ≠ 8 + i → bdx kb sb j = some a' → a' + 4 < a ∨ a + 4 < a' := fun j a' hj hne e => by
      rcases hcase with e0 | ⟨-, e0⟩
      · exact b8 j (8 + i) a' a hj (by omega) hne e (eb a e0)
      · have := BdS_lt (b7 j a' hj e).2
        exact .inl (by omega)
    have bn' : ∀ j, j ≠ 8 + i → bdx kb (va_up sb i (some a)) j = bdx kb sb j := fun j hj => by
      unfold bdx
      by_cases h8 : j < 8
      · rw [if_pos h8, if_pos h8]
      · rw [if_neg h8, if_neg h8, up_ne (by omega)]
    have bn0 : bdx kb (va_up sb i (some a)) (8 + i) = some a := by
      unfold bdx
      rw [if_neg (by omega), show 8 + i - 8 = i by omega, up_eq]
    have oM : OffM (fun y => y = 18 ∨ (sb i = some a ∧ InB a y)) := fun y e => by have := hS1 y e; omega
    have off : ∀ y, ¬ (y = 18 ∨ 32 ≤ y) → ¬ (y = 18 ∨ (sb i = some a ∧ InB a y)) := fun y hy e => hy (hS1 y e)
    have h78 := congrArg (fun q : Hp => (q.1 7, q.1 8)) e2
    have B12 : BdH H2 2 num al bn lat := Fr_bd F V.1.2.2.1 fun t ht => off _ (by omega)
    have g02 : gR H2 5 0 0 = some 2 := at_gR (Fr_at F V.2.1 (off _ (by decide))) rfl
    refine Agr_mk (y := nI (al 3)) (al := al) (bn := bn) (fun {ρ} {r} => K_cv I) ?_ ⟨o, Fr_at F ho (off _ (by decide))⟩ (Nat.le_trans z F.1) (by have := F.2.1; omega) (by have := F.2.2.1; omega) (by omega) c1 ((F.2.2.2 7 (by omega) (off _ (by decide))).trans (congrArg Prod.fst h78)) ((F.2.2.2 8 (by omega) (off _ (by decide))).trans (congrArg Prod.snd h78)) e1 (fun a h1 h2 => F.2.2.2 a (by omega) (off _ (by omega))) fun g hg => ?_
    · unfold m_X5_save
      rw [iNeg (by omega), g4, Option.bind_some, at_aN t18, Option.bind_some, iLt (by omega) (by decide), Option.bind_some, K_g0 I, Option.bind_some, x1, Option.bind_some, g02, Option.bind_some, bd_mk B12, Option.bind_some]
    · have rs := r_sI (v := upd v 7 (bI false)) (A := A) (h := g) (x := (1 : Int32)) (i := 5) (k := i) hg (by decide) (show i < 2 by omega) rfl
      have es := y_sets (v := upd v 7 (bI false)) (A := updA A 5 i 1) (i := 4) (j := 0) (p := 4136 * i) (q := 0) hg (by decide) (by decide) (by decide) (by show 4136 * i + 4136 ≤ 8272; omega) (by decide)
      generalize hA' : cpA (updA A 5 i 1) 4 (4136 * i) 0 0 4136 = A' at es
      have hA : ∀ j, j ≠ 4 → j ≠ 5 → A' j = A j := fun j h4 h5 => by
        rw [← hA']
        exact (if_neg h4).trans (if_neg h5)
      have hA5 : ∀ t, A' 5 t = if t = i then 1 else A 5 t := fun t => by rw [← hA']; rfl
      have hA4 : ∀ t, A' 4 t = if 4136 * i ≤ t ∧ t < 4136 * i + 4136 then A 0 (0 + (t - 4136 * i)) else A 4 t := fun t => by rw [← hA']; rfl
      have hal : AlF A' al := fun t ht => by rw [hA 0 (by decide) (by decide)]; exact ha t ht
      refine ⟨upd v 7 (bI false), A', ?_, rfl, Brd_mk b1 F oM B12 K (Chn_fr F hS2 _ _ C) W V.1.2.2.2.2.1 V.1.2.2.2.2.2.2 (Pot_mono pt (Nat.le_succ k)) hal rfl (hA _ (by decide) (by decide)), ?_, Rdr_fr (fun a e => by have := oM a e; omega) F b3 rfl rfl (hA _ (by decide) (by decide))⟩
      · unfold m_X6_save
        simp only [e_jK]
        rw [i1', Option.bind_some, if_pos rfl, yp7 hg, Option.bind_some, rg7 hg, Option.bind_some]
        show (if (0 : Int32) ≤ 0 then _ else _) = _
        rw [if_pos (by decide), r_26 hg, Option.bind_some, show sI (setR (upd v 7 (bI false)) A g) 3 26 (nI i) (1 : Int32) = _ from rs, Option.bind_some, r_25 hg, Option.bind_some, r_a hg, Option.bind_some, show (4136 : Int32) * nI i = nI (4136 * i) from pk_mul 4136 i]
        rw [show m_X6_sets 25 (nI (4136 * i)) 21 (0 : Int32) (setR (upd v 7 (bI false)) (updA A 5 i 1) g) = _ from es, Option.bind_some, r_a hg, Option.bind_some, show aI (setR (upd v 7 (bI false)) A' g) 0 21 (3 : Int32) = some (nI (al 3)) from (r_a0 (k := 3) hg (by decide)).trans (congrArg some (hal 3 (by decide))), Option.bind_some]
      · refine ⟨hd, nx, kb, va_up sb i (some a), Fr_at F t16 (off _ (by decide)), Fr_at F t17 (off _ (by decide)), u18, hd8, nx8, h6, ⟨fun j a' hj e => ?_, fun j1 j2 a1 a2 hj1 hj2 hij q1 q2 => ?_⟩, fun t ht => ?_, fun t ht => ?_⟩
        · by_cases hjn : j = 8 + i
          · rw [hjn, bn0] at e
            obtain rfl := Option.some.inj e
            exact ⟨ha32, BdH_S B2⟩
          · rw [bn' j hjn] at e
            have := b7 j a' hj e
            exact ⟨this.1, BdS_fr F this.2 (dis j a' hj hjn e)⟩
        · by_cases hin : j1 = 8 + i
          · rw [hin, bn0] at q1
            obtain rfl := Option.some.inj q1
            rw [bn' j2 (fun e => hij (hin.trans e.symm))] at q2
            exact (apart j2 a2 hj2 (fun e => hij (hin.trans e.symm)) q2).symm
          · rw [bn' j1 hin] at q1
            by_cases hjn : j2 = 8 + i
            · rw [hjn, bn0] at q2
              obtain rfl := Option.some.inj q2
              exact apart j1 a1 hj1 hin q1
            · rw [bn' j2 hjn] at q2
              exact b8 j1 j2 a1 a2 hj1 hj2 hij q1 q2
        · obtain ⟨a', d1, d2⟩ := b9 t ht
          exact ⟨a', d1, Snp_fr F d2 (dis ((nx + 8 - hd + t) % 8) a' (by omega) (by omega) (by unfold bdx; rw [if_pos (by omega)]; exact d1)) hS2 (fun u _ => by rw [hA 3 (by decide) (by decide)]) (Nat.le_succ k)⟩
        · by_cases hti : t = i
          · subst hti
            refine .inr ⟨a, up_eq, by rw [hA5, if_pos rfl], num, al, bn, lat, B2, K, Chn_fr F hS2 _ _ C, W, V.1.2.2.2.2.1, V.1.2.2.2.2.2.2, Pot_mono pt (Nat.le_succ k), fun u hu => ?_⟩
            show A' 4 (4136 * t + u) = nI (al u)
            rw [hA4, if_pos ⟨by omega, by omega⟩, show 0 + (4136 * t + u - 4136 * t) = u by omega]
            exact ha u hu
          · rcases b10 t ht with ⟨d1, d2⟩ | ⟨a', d1, d2, d3⟩
            · exact .inl ⟨by rw [up_ne hti]; exact d1, by rw [hA5, if_neg hti]; exact d2⟩
            · have ej : bdx kb sb (8 + t) = some a' := by
                unfold bdx
                rw [if_neg (by omega), show 8 + t - 8 = t by omega]
                exact d1
              refine .inr ⟨a', by rw [up_ne hti]; exact d1, by rw [hA5, if_neg hti]; exact d2, Snp_fr F d3 (dis (8 + t) a' (by omega) (by omega) ej) hS2 (fun u hu => ?_) (Nat.le_succ k)⟩
              show A' 4 (4136 * t + u) = A 4 (4136 * t + u)
              rw [hA4, if_neg (by omega)]
  · rw [decide_eq_false hx] at i1'
    refine Agr_thr (t := 1) (x := 0) (e := 2) (cl := 9) I (thH I ?_) (fun h => rfl) (by decide) fun g hg => ?_
    · unfold m_X5_save
      by_cases h0 : x < 0
      · rw [if_pos h0]
      · obtain ⟨j, hj, rfl⟩ := nI_of h0
        rw [nI_toInt hj] at hx
        rw [if_neg h0, g4, Option.bind_some, at_aN t18, Option.bind_some, iNlt (by omega) (by omega)]
    · unfold m_X6_save
      simp only [e_jK]
      rw [i1', Option.bind_some, if_neg (by decide), yp7 hg, Option.bind_some, rg7 hg, Option.bind_some]
      show (if (1 : Int32) ≤ 0 then _ else _) = _
      rw [if_neg (by decide)]
      rfl
end SAV
