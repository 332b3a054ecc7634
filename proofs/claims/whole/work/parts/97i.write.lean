/-! writeBoard and writtenByte answered alike -/
section WRA
variable {k L : Nat} {H : Hp} {v : Nat → Int32} {A : Nat → Nat → Int32} {Gn : Nat → Nat → Nat} {al bn : Nat → Nat} {P P' : Nat → Int64} {Q Q' : Nat → Int32}
def SW (a : Nat) : Prop := a = 0 ∨ (19 ≤ a ∧ a ≤ 30)
theorem setR_fr {S : Nat → Prop} {h : Hp} (hS : ∀ a, 20 ≤ a → a ≤ 30 → S a) : Fr h (setR v A h) S 0 0 := ⟨Nat.le_refl _, Nat.le_refl _, Nat.le_refl _, fun a _ hs => by
  show (if a = 20 then _ else if 21 ≤ a ∧ a ≤ 30 then _ else h.1 a) = _
  have h1 : ¬ (20 ≤ a ∧ a ≤ 30) := fun e => hs (hS a e.1 e.2)
  rw [if_neg (by omega), if_neg (by omega)]⟩
theorem A_write (I : Kn0 k H v A L Gn al bn P Q) : AgD k (m_X5_writeBoard 0 H) (m_X6_writeBoard 20) := by
  obtain ⟨e1, e2, c1, z, hL, s1, s2, ⟨num, lat, w, fW, V, C, pt, a, h19, hw, hv21, hf⟩, b2, b3, o, ho⟩ := id I
  have h9 := V.1.2.2.2.1.1
  obtain ⟨f', ex, ef⟩ := x_writeB z V.2.1 h19 V.1.2.2.1 V.1.2.2.2.1
  generalize hH1 : wS H (al 0 + 4) L f' = H1 at ex
  have f : Fr H H1 (fun a => a = 0 ∨ a = 19) 0 0 := by rw [← hH1]; exact wS_fr
  have z1 : 31 ≤ H1.2.1 := by have := f.1; omega
  have eR : H1 = setR v A H1 := setR_of e1 fun a h1 h2 => f.2.2.2 a (by omega) (by omega)
  obtain ⟨v', A', ey, h21, hv, hA, hb⟩ := y_writeB (v := v) z1 a V.1.2.2.2.1
  have F : Fr H (setR v' A' H1) SW 0 0 := Fr_trans (n := 0) (m := 0) (Fr_mono f (T := SW) (fun a e => e.elim (fun e => .inl e) (fun e => .inr (by omega))) (Nat.le_refl _) (Nat.le_refl _)) (setR_fr fun a h1 h2 => .inr (by omega))
  have oS : ∀ x, ¬ (x = 0 ∨ (19 ≤ x ∧ x ≤ 30)) → ¬ SW x := fun x h e => h e
  have h0 : At (setR v' A' H1) 0 (cdC (al 0 + 4) L) := by
    have := wS_0 (w := al 0 + 4) (ld := L) (f := f') z
    rw [hH1] at this
    exact ⟨this.1, this.2⟩
  have h19' : At (setR v' A' H1) 19 (.inl (2, 13, .inl f')) := by
    have := wS_19 (w := al 0 + 4) (ld := L) (f := f') z
    rw [hH1] at this
    exact ⟨this.1, this.2⟩
  have h78 := congrArg (fun q : Hp => (q.1 7, q.1 8)) e2
  have g7 : (setR v' A' H1).1 7 = H.1 7 := F.2.2.2 7 (by omega) (oS _ (by decide))
  have g8 : (setR v' A' H1).1 8 = H.1 8 := F.2.2.2 8 (by omega) (oS _ (by decide))
  refine ⟨_, H1, setR v' A' H1, ex, fun {ρ} {r} => by rw [eR]; exact r_cv z1, (congrArg (m_X6_writeBoard 20) eR).trans ey, v', A', L, Gn, al, bn, P, Q, setR_setR.symm, wC_self (g7.trans (congrArg Prod.fst h78)) (g8.trans (congrArg Prod.snd h78)), c1, Nat.le_trans z F.1, by omega, ?_, ?_, ⟨num, lat, al 0 + 4, f', ?_, Chn_fr F (fun x fs hx _ e => by rcases e with e | e <;> omega) _ _ C, Pot_mono pt (Nat.le_succ k), ?_, h19', by omega, h21, ?_⟩, Hst_fr (fun a e => by rcases e with e | e <;> omega) F b2 (hv _ (by decide) (by decide)) (hA _ (by decide)) (hA _ (by decide)) (hA _ (by decide)) (Nat.le_succ k), Rdr_fr (fun a e => by rcases e with e | e <;> omega) F b3 (hv _ (by decide) (by decide)) (hv _ (by decide) (by decide)) (hA _ (by decide)), o, Fr_at F ho (oS _ (by decide))⟩
  · have := F.2.1; omega
  · have := F.2.2.1; omega
  · obtain ⟨⟨q1, q2, q3, q4⟩, q5, q6⟩ := V
    exact ⟨⟨Nat.le_trans q1 F.1, Fr_at F q2 (oS _ (by decide)), Fr_bd F q3 (fun i hi => oS _ (by omega)), q4⟩, h0, q6⟩
  · intro t ht
    rw [hA 0 (by decide)]
    exact a t ht
  · intro i hi
    rw [ef i hi, hb i hi]
theorem A_written (I : Kn0 k H v A L Gn al bn P Q) (x : Int32) : Agr k (m_L_writtenByte 0 x 31 H) (m_X6_writtenByte 20 x) := by
  obtain ⟨e1, e2, c1, z, hL, s1, s2, ⟨num, lat, w, fW, V, C, pt, a, h19, hw, hv21, hf⟩, b2, b3, o, ho⟩ := id I
  have g6 : gI H 5 0 6 = some (nI w) := at_gI V.2.1 rfl
  have g5 : gR H 5 0 5 = some 19 := at_gR V.2.1 rfl
  by_cases hx : 0 ≤ x.toInt ∧ x.toInt < w
  · obtain ⟨i, hi, rfl⟩ := i_inN (by omega) hx
    refine Agr_ok (y := fW i) I (okH I ?_) (rq fun g hg => ?_)
    · unfold m_X5_writtenByte
      rw [iNeg (by omega), g6, Option.bind_some, iNle hi (by omega), g5, Option.bind_some, at_aN h19, Option.bind_some, iLt (by omega) (by decide), Option.bind_some, at_aI h19 (by omega) (by decide), Option.bind_some]
    · have r := r_aI (v := upd v 7 0) (A := A) (h := g) (i := 9) (k := i) hg (by decide) (show i < 14 by omega)
      unfold m_X6_writtenByte
      simp only [e_jK]
      rw [rg21 hg, hv21, Option.bind_some, isIn_R (nI i) (by omega), decide_eq_true hx, Option.bind_some, if_pos rfl, yp7 hg, Option.bind_some, rg7 hg, Option.bind_some]
      show (if (0 : Int32) ≤ 0 then _ else _) = _
      rw [if_pos (by decide), r_30 hg, Option.bind_some]
      show (aI (setR (upd v 7 0) A g) 0 30 (nI i)).bind _ = _
      rw [show aI (setR (upd v 7 0) A g) 0 30 (nI i) = some (A 9 i) from r, Option.bind_some, hf i hi]
      rfl
  · refine Agr_thr (t := 1) (x := 0) (e := 2) (cl := 9) I (thH I ?_) (fun h => rfl) (by decide) fun g hg => ?_
    · unfold m_X5_writtenByte
      by_cases h0 : x < 0
      · rw [if_pos h0]
      · obtain ⟨j, hj, rfl⟩ := nI_of h0
        rw [nI_toInt hj] at hx
        rw [if_neg h0, g6, Option.bind_some, iLe (by omega) hj]
    · unfold m_X6_writtenByte
      simp only [e_jK]
      rw [rg21 hg, hv21, Option.bind_some, isIn_R x (by omega), decide_eq_false hx, Option.bind_some, if_neg (by decide), yp7 hg, Option.bind_some, rg7 hg, Option.bind_some]
      show (if (1 : Int32) ≤ 0 then _ else _) = _
      rw [if_neg (by decide)]
      rfl
end WRA
