/-! append answered alike -/
section APA
variable {k L : Nat} {H : Hp} {v : Nat → Int32} {A : Nat → Nat → Int32} {Gn : Nat → Nat → Nat} {al bn : Nat → Nat} {P : Nat → Int64} {Q : Nat → Int32}
def p5w (p1 p2 p3 p4 p5 : Int32) : Nat → Int32 := fun i => match i with
  | 0 => p1
  | 1 => p2
  | 2 => p3
  | 3 => p4
  | _ => p5
theorem A_append (I : Kn0 k H v A L Gn al bn P Q) (x1 x2 x3 x4 x5 : Int32) : Agr k (m_L_append 0 x1 x2 x3 x4 x5 31 H) (m_X6_append 20 x1 x2 x3 x4 x5) := by
  obtain ⟨num, lat, w, fW, V, C, pt, ha, h19, hw, hv21, hfW⟩ := id I.2.2.2.2.2.2.2.1
  obtain ⟨e1, e2, c1, z, hL, s1, s2, b1, b2, b3, o, ho⟩ := id I
  obtain ⟨fl, ea, fB, c, ⟨ln, er, kd, st, en, nu, r9⟩, r15, hfl, hv9, hv17, hb, hS⟩ := id b3
  have g2 : gR H 5 0 2 = some 9 := at_gR V.2.1 rfl
  have g9 : gI H 3 9 1 = some (nI fl) := at_gI r9 rfl
  by_cases hf : fl + 20 ≤ 500
  · have eH : cSr ea ln er kd st en nu H fl fB = H := by
      unfold cSr
      rw [hset_self r15, hset_self r9]
    have a0 : ∀ {fl f}, At (cSr ea ln er kd st en nu H fl f) 0 (cdC w L) := fun {fl f} => at_set_ne (at_set_ne V.2.1 (by decide)) (by decide)
    have g2' : ∀ {fl f}, gR (cSr ea ln er kd st en nu H fl f) 5 0 2 = some 9 := fun {fl f} => at_gR a0 rfl
    have cv9 : ∀ {fl f} {ρ : Type} {r : Option ρ}, cv (cSr ea ln er kd st en nu H fl f) 3 9 r = r := fun {fl f ρ r} => at_cv (cSr_9 z)
    generalize hf5 : fr4 x5 (fr4 x4 (fr4 x3 (fr4 x2 (fr4 x1 fB fl) (fl + 4)) (fl + 4 + 4)) (fl + 4 + 4 + 4)) (fl + 4 + 4 + 4 + 4) = f5
    have ex : m_X5_append 0 x1 x2 x3 x4 x5 H = some (.inl (nI (fl + 20)), cSr ea ln er kd st en nu H (fl + 20) f5) := by
      unfold m_X5_append
      rw [g2, Option.bind_some, g9, Option.bind_some, show nI fl + (20 : Int32) = nI (fl + 20) from nI_add fl 20, if_pos (show nI (fl + 20) ≤ (500 : Int32) from nI_le (b := 500) hf (by decide)), Option.bind_some, at_cv r9]
      have f1 : m_X3_addFour 9 x1 H = some (cSr ea ln er kd st en nu H (fl + 4) (fr4 x1 fB fl)) := (congrArg (m_X3_addFour 9 x1) eH.symm).trans (x_four z (by omega))
      rw [f1, Option.bind_some, g2', Option.bind_some, cv9, x_four z (by omega), Option.bind_some, g2', Option.bind_some, cv9, x_four z (by omega), Option.bind_some, g2', Option.bind_some, cv9, x_four z (by omega), Option.bind_some, g2', Option.bind_some, cv9, x_four z (by omega), Option.bind_some, g2', Option.bind_some, at_gI (cSr_9 z) rfl, Option.bind_some, hf5]
    have hlo : ∀ i, i < fl → f5 i = fB i := fun i hi => by
      rw [← hf5, fr4_o (by omega), fr4_o (by omega), fr4_o (by omega), fr4_o (by omega), fr4_o hi]
    have hhi : ∀ j, j < 20 → f5 (fl + j) &&& (255 : Int32) = apB (p5w x1 x2 x3 x4 x5) j := fun j hj => by
      rw [← hf5]
      unfold apB
      have d : j / 4 = 0 ∨ j / 4 = 1 ∨ j / 4 = 2 ∨ j / 4 = 3 ∨ j / 4 = 4 := by omega
      rcases d with e | e | e | e | e
      · rw [e, fr4_o (by omega), fr4_o (by omega), fr4_o (by omega), fr4_o (by omega), show fl + j = fl + j % 4 by omega, fr4_n (by omega)]
        rfl
      · rw [e, fr4_o (by omega), fr4_o (by omega), fr4_o (by omega), show fl + j = fl + 4 + j % 4 by omega, fr4_n (by omega)]
        rfl
      · rw [e, fr4_o (by omega), fr4_o (by omega), show fl + j = fl + 4 + 4 + j % 4 by omega, fr4_n (by omega)]
        rfl
      · rw [e, fr4_o (by omega), show fl + j = fl + 4 + 4 + 4 + j % 4 by omega, fr4_n (by omega)]
        rfl
      · rw [e, show fl + j = fl + 4 + 4 + 4 + 4 + j % 4 by omega, fr4_n (by omega)]
        rfl
    have F : Fr H (cSr ea ln er kd st en nu H (fl + 20) f5) (fun a => a = 9 ∨ a = 15) 0 0 := Fr_trans (n := 0) (m := 0) (Fr_set (.inr rfl)) (Fr_set (.inl rfl))
    have u9 := cSr_9 (ea := ea) (ln := ln) (er := er) (kd := kd) (st := st) (en := en) (nu := nu) (fl := fl + 20) (f := f5) z
    have u15 := cSr_15 (ea := ea) (ln := ln) (er := er) (kd := kd) (st := st) (en := en) (nu := nu) (fl := fl + 20) (f := f5) z
    generalize cSr ea ln er kd st en nu H (fl + 20) f5 = H2 at ex F u9 u15
    have off : ∀ x, ¬ (x = 9 ∨ x = 15) → ¬ (fun a => a = 9 ∨ a = 15) x := fun x hx e => hx e
    have h78 := congrArg (fun q : Hp => (q.1 7, q.1 8)) e2
    refine Agr_mk (y := nI (fl + 20)) (al := al) (bn := bn) (fun {ρ} {r} => K_cv I) ex ⟨o, Fr_at F ho (off _ (by decide))⟩ (Nat.le_trans z F.1) (by have := F.2.1; omega) (by have := F.2.2.1; omega) (by omega) c1 ((F.2.2.2 7 (by omega) (off _ (by decide))).trans (congrArg Prod.fst h78)) ((F.2.2.2 8 (by omega) (off _ (by decide))).trans (congrArg Prod.snd h78)) e1 (fun a h1 h2 => F.2.2.2 a (by omega) (off _ (by omega))) fun g hg => ?_
    obtain ⟨v', A', y1, y2, y3, y4, y5, y6⟩ := y_app (v := upd v 7 (bI false)) (A := A) (p := p5w x1 x2 x3 x4 x5) hg hv9 hf
    refine ⟨v', A', ?_, y3 7 (by decide), ⟨num, lat, w, fW, Vx_fr F V (fun i hi => off _ (by omega)), Chn_fr F (fun x fs hx _ => off _ (by omega)) _ _ C, Pot_mono pt (Nat.le_succ k), fun t ht => by rw [y4 0 (by decide)]; exact ha t ht, Fr_at F h19 (off _ (by decide)), hw, (y3 21 (by decide)).trans hv21, by rw [y4 9 (by decide)]; exact hfW⟩, Hst_fr (fun a e => by rcases e with e | e <;> omega) F b2 (y3 6 (by decide)) (y4 3 (by decide)) (y4 4 (by decide)) (y4 5 (by decide)) (Nat.le_succ k), fl + 20, ea, f5, (fun i => if i < fl then c i else (apB (p5w x1 x2 x3 x4 x5) (i - fl)).toBitVec.toNat), ⟨ln, er, kd, st, en, nu, u9⟩, u15, hf, y2, (y3 17 (by decide)).trans hv17, fun i hi => ?_, BdS_fr F hS fun i hi => off _ (by omega)⟩
    · unfold m_X6_append
      simp only [e_jK]
      rw [rg9 hg, hv9, Option.bind_some, show nI fl + (20 : Int32) = nI (fl + 20) from nI_add fl 20, if_pos (show nI (fl + 20) ≤ (500 : Int32) from nI_le (b := 500) hf (by decide)), yp7 hg, Option.bind_some, rg7 hg, Option.bind_some]
      show (if (0 : Int32) ≤ 0 then _ else _) = _
      rw [if_pos (by decide)]
      exact y1
    · by_cases hi2 : i < fl
      · show f5 i &&& 255 = nI (if i < fl then _ else _) ∧ (if i < fl then _ else _) < 256 ∧ A' 6 i = nI (if i < fl then _ else _)
        rw [if_pos hi2, hlo i hi2, y5 i hi2]
        exact hb i hi2
      · have hN := byN ((p5w x1 x2 x3 x4 x5 ((i - fl) / 4)) >>> (nI (24 - 8 * ((i - fl) % 4)) &&& 31))
        have hN' : apB (p5w x1 x2 x3 x4 x5) (i - fl) = nI (apB (p5w x1 x2 x3 x4 x5) (i - fl)).toBitVec.toNat ∧ (apB (p5w x1 x2 x3 x4 x5) (i - fl)).toBitVec.toNat < 256 := hN
        show f5 i &&& 255 = nI (if i < fl then _ else _) ∧ (if i < fl then _ else _) < 256 ∧ A' 6 i = nI (if i < fl then _ else _)
        have h1 := hhi (i - fl) (by omega)
        have h2 := y6 (i - fl) (by omega)
        rw [show fl + (i - fl) = i by omega] at h1 h2
        rw [if_neg hi2, h1, h2]
        exact ⟨hN'.1, hN'.2, hN'.1⟩
  · refine Agr_thr (t := 1) (x := 0) (e := 0) (cl := 7) I (thH I ?_) (fun h => rfl) (by decide) fun g hg => ?_
    · unfold m_X5_append
      rw [g2, Option.bind_some, g9, Option.bind_some, show nI fl + (20 : Int32) = nI (fl + 20) from nI_add fl 20, if_neg (show ¬ nI (fl + 20) ≤ (500 : Int32) from nI_ge (a := 500) (by omega) (by omega))]
    · unfold m_X6_append
      simp only [e_jK]
      rw [rg9 hg, hv9, Option.bind_some, show nI fl + (20 : Int32) = nI (fl + 20) from nI_add fl 20, if_neg (show ¬ nI (fl + 20) ≤ (500 : Int32) from nI_ge (a := 500) (by omega) (by omega)), yp7 hg, Option.bind_some, rg7 hg, Option.bind_some]
      show (if (1 : Int32) ≤ 0 then _ else _) = _
      rw [if_neg (by decide)]
      rfl
end APA
