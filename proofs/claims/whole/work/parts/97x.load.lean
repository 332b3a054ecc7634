/-! load answered alike -/
section LOA
variable {k L : Nat} {H : Hp} {v : Nat → Int32} {A : Nat → Nat → Int32} {Gn : Nat → Nat → Nat} {al bn : Nat → Nat} {P : Nat → Int64} {Q : Nat → Int32}
theorem aBk_0 {A : Nat → Nat → Int32} {t : Nat} (ht : t < 4136) : aBk A 0 t = A 1 t := by
  unfold aBk
  rw [cpA_i ht, cpA_o (by decide)]
theorem aBk_2 {A : Nat → Nat → Int32} {t : Nat} (ht : t < 4136) : aBk A 2 t = A 0 t := by
  unfold aBk
  rw [cpA_o (by decide), cpA_i ht]
theorem aBk_o {A : Nat → Nat → Int32} {j : Nat} (h0 : j ≠ 0) (h2 : j ≠ 2) : aBk A j = A j := by
  unfold aBk
  rw [cpA_o h0, cpA_o h2]
theorem A_load (hk5 : k ≤ 512) (I : Kn0 k H v A L Gn al bn P Q) (x : Int32) : Agr k (m_L_load 0 x 31 H) (m_X6_load 20 x) := by
  obtain ⟨W, K0, _, _⟩ := K_B I
  obtain ⟨e1, e2, c1, z, hL, s1, s2, b1, b2, b3, o, ho⟩ := id I
  obtain ⟨num, lat, w, fW, V, C, pt, ha, h19, hw, h21, hf⟩ := b1
  obtain ⟨fl, ea, fB, c, ⟨ln, er, kd, st, en, nu, R9⟩, R15, hfl, h9, h17, hb, B10⟩ := id b3
  have g2 : gR H 5 0 2 = some 9 := at_gR V.2.1 rfl
  have g91 : gI H 3 9 1 = some (nI fl) := at_gI R9 rfl
  have hin : m_X6_isIn x (0 : Int32) (nI fl) = some (decide (0 ≤ x.toInt ∧ x.toInt ≤ fl)) := isIn_L x (by omega)
  by_cases hx : 0 ≤ x.toInt ∧ x.toInt ≤ fl
  · rw [decide_eq_true hx] at hin
    obtain ⟨n, hn, rfl⟩ := i_inL (n := fl) (by omega) hx
    have eH : H = setD (nI fl) ea ln er kd st en nu H := (hset_self R9).symm
    have h78 := congrArg (fun q : Hp => (q.1 7, q.1 8)) e2
    have hLx : Lx H fB c n := ⟨by omega, R15, by omega, fun i hi => ⟨(hb i (by omega)).1, (hb i (by omega)).2.1⟩⟩
    have offD : ∀ x, ¬ (9 ≤ x ∧ x ≤ 14) → ¬ InD x := fun x hx e => hx e
    refine Agr_mk2 (fun {ρ} {r} => K_cv I) e1 z fun g hg => ?_
    have hY : Ly (vLd v n) (aLd A) g c n := ⟨hg, rfl, by omega, fun i hi => ⟨by rw [aLd_o (by decide) (by decide)]; exact (hb i (by omega)).2.2, (hb i (by omega)).2.1⟩⟩
    have tk : tkv (vLd v n) (vLd v n 11) (nI 0) (vLd v n 13) (vLd v n 14) 0 (vLd v n 16) = vLd v n := tkv_self rfl rfl
    have hin' : m_X6_isIn (nI n) (0 : Int32) (v 9) = some true := by rw [h9]; exact hin
    have ex0 : ∀ {x4 : Int32} {h5 : Hp}, m_X3_readText 9 (nI n) H = some (x4, h5) → m_X5_load 0 (nI n) H = if x4 = 0 then
        (gR h5 5 0 3).bind fun a6 =>
        (gR h5 5 0 0).bind fun a7 =>
        cv h5 1 a6 <| (m_X1_keep a6 a7 h5).bind fun h8 =>
        (gI h8 5 0 7).bind fun x9 =>
        (pV h8 5 0 7 (.int (x9 + (1 : Int32)))).bind fun h10 =>
        (gR h10 5 0 0).bind fun a11 =>
        (gR h10 5 0 2).bind fun a12 =>
        (gR h10 3 a12 0).bind fun a13 =>
        cv h10 0 a11 <| (m_X0_takeFrom a11 a13 h10).bind fun h14 =>
        (gR h14 5 0 0).bind fun a15 =>
        (gI h14 5 0 7).bind fun x16 =>
        (pV h14 0 a15 0 (.int x16)).bind fun h17 =>
        (gR h17 5 0 0).bind fun a18 =>
        (gI h17 0 a18 2).bind fun x19 =>
        some (.inl x19, h17)
      else
        some (.inl x4, h5) := fun {x4 h5} e => by
      unfold m_X5_load
      rw [iNeg (by omega), g2, Option.bind_some, g91, Option.bind_some, iLe hn (by omega), Option.bind_some, at_cv R9, e, e_b2]
    rcases T_text (fl := nI fl) (ea := ea) (er := er) (nu := nu) (wa := vLd v n 16) (m := vLd v n 14) (ln := ln) (kd := kd) (st := st) (en := en) (k := vLd v n 13) (sr := vLd v n 11) (A0 := aLd A) (g0 := H) hLx hY B10 Fr_refl z (fun _ _ => rfl) (fun t ht => aLd_0 ht) with ⟨kd', st', en', nu', m', g', A', al', b', s', xr, ⟨R1, yn, ycv, yr⟩, PV, -⟩ | ⟨code, kd', st', en', nu', m', g', A', s', xr, ⟨R1, yn, ycv, yr⟩, hc, -, Fd, Sd, hAd⟩
    · -- a board was read
      rw [← eH] at xr
      rw [tk] at yn
      obtain ⟨-, -, ⟨numd, latd, Bd, Cdd⟩, Kd, Ad, Wd, h18, Fd, z', hAd⟩ := PV
      have ex := ex0 xr
      have D9' : At (setD 0 (-1 : Int32) (nI n) er kd' st' en' nu' g') 9 (.inr (3, dO 0 (-1 : Int32) (nI n) er kd' st' en' nu')) := d_at (by omega)
      have F90 : Fr g' (setD 0 (-1 : Int32) (nI n) er kd' st' en' nu' g') (fun a => a = 9) 0 0 := Fr_set rfl
      generalize setD 0 (-1 : Int32) (nI n) er kd' st' en' nu' g' = h5 at D9' F90 ex
      have F5 : Fr H h5 InD (al' 3) (5 * al' 3) := Fr_trans Fd (Fr_mono F90 (fun a e => by show 9 ≤ a ∧ a ≤ 14; omega) (Nat.le_refl _) (Nat.le_refl _))
      have z5 : 32 ≤ h5.2.1 := Nat.le_trans z F5.1
      have Bd5 : BdH h5 10 numd al' b' latd := Fr_bd F90 Bd fun i hi => by omega
      have Cd5 : Chn h5 al' (al' 3) latd := Chn_fr F90 (fun a fs h32 _ => by omega) _ _ Cdd
      have V5 : Vx h5 num al bn lat L Gn w L := Vx_fr F5 V (fun i hi => offD i (by omega))
      have C5 : Chn h5 al (al 3) lat := Chn_fr F5 (fun a fs h32 _ => offD a (by omega)) _ _ C
      have b25 : Hst k L Gn h5 v A := Hst_fr (S := InD) (fun a e => by have : 9 ≤ a ∧ a ≤ 14 := e; omega) F5 b2 rfl rfl rfl rfl (Nat.le_refl k)
      obtain ⟨H6, S, hd, k1, F6, S1, S2, hd8, h6, hh⟩ := X_keep b25 z5 V5.1.2.2.1 K0 C5 W V.1.2.2.2.2.1 V.1.2.2.2.2.2.2 pt ha
      have off6 : ∀ x, x < 16 → ¬ S x := fun x hx e => by have := S1 x e; omega
      have V6 : Vx H6 num al bn lat L Gn w L := Vx_fr F6 V5 (fun i hi => off6 i (by omega))
      have D96 := Fr_at F6 D9' (off6 9 (by decide))
      have Bd6 := Fr_bd F6 Bd5 (fun i hi => off6 _ (by omega))
      have Cd6 := Chn_fr F6 S2 _ _ Cd5
      -- the number of the load
      have ep : pV H6 5 0 7 (.int (nI (L + 1))) = some (hset H6 0 (.inr (5, [.ref 2, .ref 1, .ref 9, .ref 16, .ref 18, .ref 19, .int (nI w), .int (nI (L + 1))]))) := at_pV V6.2.1 (by show 7 < 8; decide)
      have Cd7 : Cd (hset H6 0 (.inr (5, [.ref 2, .ref 1, .ref 9, .ref 16, .ref 18, .ref 19, .int (nI w), .int (nI (L + 1))]))) w (L + 1) := at_set_eq V6.2.1
      have F7 : Fr H6 (hset H6 0 (.inr (5, [.ref 2, .ref 1, .ref 9, .ref 16, .ref 18, .ref 19, .int (nI w), .int (nI (L + 1))]))) (fun a => a = 0) 0 0 := Fr_set rfl
      generalize hset H6 0 (.inr (5, [.ref 2, .ref 1, .ref 9, .ref 16, .ref 18, .ref 19, .int (nI w), .int (nI (L + 1))])) = H7 at ep Cd7 F7
      have B71 : BdH H7 2 num al bn lat := Fr_bd F7 V6.1.2.2.1 fun i hi => by omega
      have Bd7 := Fr_bd F7 Bd6 fun i hi => by omega
      obtain ⟨H8, et, B8, B8d, F8⟩ := x_takeFrom Bd7 (BdH_S B71) (Or.inl (by decide))
      have b80 : At H8 2 (bo 2 (nI numd) (nI (al' 1)) (nI (al' 0)) (nI (al' 2)) (nI (fre al')) (nI (al' 3)) latd) := B8.1
      have ep8 : pV H8 0 2 0 (.int (nI (L + 1))) = some (hset H8 2 (bo 2 (nI (L + 1)) (nI (al' 1)) (nI (al' 0)) (nI (al' 2)) (nI (fre al')) (nI (al' 3)) latd)) := bp_0 b80
      have b90 : At (hset H8 2 (bo 2 (nI (L + 1)) (nI (al' 1)) (nI (al' 0)) (nI (al' 2)) (nI (fre al')) (nI (al' 3)) latd)) 2 (bo 2 (nI (L + 1)) (nI (al' 1)) (nI (al' 0)) (nI (al' 2)) (nI (fre al')) (nI (al' 3)) latd) := at_set_eq b80
      have F9 : Fr H8 (hset H8 2 (bo 2 (nI (L + 1)) (nI (al' 1)) (nI (al' 0)) (nI (al' 2)) (nI (fre al')) (nI (al' 3)) latd)) (fun a => a = 2) 0 0 := Fr_set rfl
      generalize hset H8 2 (bo 2 (nI (L + 1)) (nI (al' 1)) (nI (al' 0)) (nI (al' 2)) (nI (fre al')) (nI (al' 3)) latd) = H9 at ep8 b90 F9
      have B9 : BdH H9 2 (L + 1) al' b' latd := ⟨b90, Fr_ar F9 B8.2.1 (by decide), Fr_ar F9 B8.2.2.1 (by decide), Fr_ar F9 B8.2.2.2.1 (by decide), Fr_ar F9 B8.2.2.2.2 (by decide)⟩
      have F69 : Fr H6 H9 (fun x => x = 0 ∨ InB 2 x) 0 0 := Fr_trans (n := 0) (m := 0) (Fr_trans (n := 0) (m := 0) (Fr_mono F7 (fun a e => .inl e) (Nat.le_refl _) (Nat.le_refl _)) (Fr_mono F8 (fun a e => .inr e) (Nat.le_refl _) (Nat.le_refl _))) (Fr_mono F9 (fun a e => .inr (by unfold InB; omega)) (Nat.le_refl _) (Nat.le_refl _))
      have o69 : ∀ x, (x = 0 ∨ InB 2 x) → x = 0 ∨ (2 ≤ x ∧ x ≤ 6) := fun x e => by
        unfold InB at e
        omega
      have F : Fr H H9 (fun x => InD x ∨ S x ∨ x = 0 ∨ InB 2 x) (al' 3 + 5 + 0) (5 * al' 3 + 29 + 0) := Fr_trans (Fr_trans (Fr_mono F5 (fun a e => .inl e) (Nat.le_refl _) (Nat.le_refl _)) (Fr_mono F6 (fun a e => .inr (.inl e)) (Nat.le_refl _) (Nat.le_refl _))) (Fr_mono F69 (fun a e => .inr (.inr e)) (Nat.le_refl _) (Nat.le_refl _))
      have off : ∀ x, ¬ ((x = 0 ∨ (2 ≤ x ∧ x ≤ 6)) ∨ (9 ≤ x ∧ x ≤ 14) ∨ x = 16 ∨ x = 17 ∨ 32 ≤ x) → ¬ (InD x ∨ S x ∨ x = 0 ∨ InB 2 x) := fun x hx e => by
        rcases e with e | e | e
        · exact hx (.inr (.inl e))
        · have := S1 x e
          omega
        · have := o69 x e
          omega
      have hG : ∀ n, n ≤ L → (fun n => if n = L + 1 then nrf al' else Gn n) n = Gn n := fun n hn => if_neg (by omega)
      have V9 : Vx H9 (L + 1) al' b' latd (L + 1) (fun n => if n = L + 1 then nrf al' else Gn n) w (L + 1) := ⟨⟨by have := F.1; omega, Fr_at F V.1.2.1 (off _ (by decide)), B9, Wd.1, Nat.le_refl _, by omega, if_pos rfl⟩, Fr_at F9 (Fr_at F8 Cd7 (by unfold InB; omega)) (by decide), Wd.2.1, Kd, Wd.2.2⟩
      have C9 : Chn H9 al' (al' 3) latd := Chn_fr F69 (fun a fs h32 _ e => by have := o69 a e; omega) _ _ Cd6
      obtain ⟨hd0, nx0, kb0, sb0, t16, -⟩ := id b25
      have yr' : m_X6_reads 20 R1 = some (setR (tkv (vLd v n) (nI s') (nI (tkE c n s')) (nI (tT c n s')) m' 0 (vLd v n 16)) A' g) := yr
      obtain ⟨A5, er5, u5, f5⟩ := y_loadOk (A := A) (A2 := A') hg hin' yn ycv yr' rfl hd8 h6
      have hA0 : ∀ t, t < 4136 → cpA A5 0 0 2 0 4136 0 t = nI (al' t) := fun t ht => by
        rw [cpA_i ht, u5 2 (by decide), aBk_2 ht]
        exact Ad t ht
      have hA5 : ∀ j, j ≠ 0 → j ≠ 1 → j ≠ 2 → j ≠ 3 → cpA A5 0 0 2 0 4136 j = A j := fun j h0 h1 h2 h3 => by
        rw [cpA_o h0, u5 j h3, aBk_o h0 h2, hAd j h0, aLd_o h0 h1]
      have hA3 : ∀ i t, i < min (hd + 1) 8 → t < 4136 → cpA A5 0 0 2 0 4136 3 (4136 * i + t) = if i + 1 = min (hd + 1) 8 then A 0 t else A 3 (4136 * (i + (if hd = 8 then 1 else 0)) + t) := fun i t hi ht => by
        rw [cpA_o (by decide), f5 i t hi ht, aBk_0 ht, aBk_o (by decide) (by decide), hAd 1 (by decide), hAd 3 (by decide), aLd_1 ht, aLd_o (by decide) (by decide)]
      refine ⟨nI (al' 0), H9, L + 1, fun n => if n = L + 1 then nrf al' else Gn n, al', b', P, Q, upd (upd (tkv (vLd v n) (nI s') (nI (tkE c n s')) (nI (tT c n s')) m' 0 (vLd v n 16)) 17 (-1 : Int32)) 6 (nI (min (hd + 1) 8)), cpA A5 0 0 2 0 4136, ?_, ?_, rfl, ⟨o, Fr_at F ho (off _ (by decide))⟩, Nat.le_trans z F.1, by have := F.2.1; omega, by have := F.2.2.1; omega, by omega, CK_L c1 (Nat.le_succ L) hG, (F.2.2.2 7 (by omega) (off _ (by decide))).trans (congrArg Prod.fst h78), (F.2.2.2 8 (by omega) (off _ (by decide))).trans (congrArg Prod.snd h78), fun a q1 q2 => F.2.2.2 a (by omega) (off _ (by omega)), ⟨L + 1, latd, w, fW, V9, C9, ⟨by omega, by omega⟩, hA0, Fr_at F h19 (off _ (by decide)), hw, h21, fun i hi => by rw [hA5 9 (by decide) (by decide) (by decide) (by decide)]; exact hf i hi⟩, ?_, ?_⟩
      · rw [ex, if_pos rfl, show gR h5 5 0 3 = some 16 from at_gR V5.2.1 rfl, Option.bind_some, show gR h5 5 0 0 = some 2 from at_gR V5.2.1 rfl, Option.bind_some, at_cv t16, k1, Option.bind_some, show gI H6 5 0 7 = some (nI L) from at_gI V6.2.1 rfl, Option.bind_some, nI_1, ep, Option.bind_some, show gR H7 5 0 0 = some 2 from at_gR Cd7 rfl, Option.bind_some, show gR H7 5 0 2 = some 9 from at_gR Cd7 rfl, Option.bind_some, show gR H7 3 9 0 = some 10 from at_gR (Fr_at F7 D96 (by decide)) rfl, Option.bind_some, bd_cv B71, et, Option.bind_some]
        have Cd8 : Cd H8 w (L + 1) := Fr_at F8 Cd7 (by unfold InB; omega)
        have Cd9 : Cd H9 w (L + 1) := Fr_at F9 Cd8 (by decide)
        rw [show gR H8 5 0 0 = some 2 from at_gR Cd8 rfl, Option.bind_some, show gI H8 5 0 7 = some (nI (L + 1)) from at_gI Cd8 rfl, Option.bind_some, ep8, Option.bind_some, show gR H9 5 0 0 = some 2 from at_gR Cd9 rfl, Option.bind_some, bd_N B9, Option.bind_some]
      · rw [er5, Ad 0 (by decide)]
      · exact Hst_fr (S := fun x => x = 0 ∨ InB 2 x) (fun a e => by have := o69 a e; omega) F69 (Hst_L (hh (upd (upd (tkv (vLd v n) (nI s') (nI (tkE c n s')) (nI (tT c n s')) m' 0 (vLd v n 16)) 17 (-1 : Int32)) 6 (nI (min (hd + 1) 8))) (cpA A5 0 0 2 0 4136) rfl (hA5 4 (by decide) (by decide) (by decide) (by decide)) (hA5 5 (by decide) (by decide) (by decide) (by decide)) hA3) (Nat.le_succ L) hG) rfl rfl rfl rfl (Nat.le_succ k)
      · exact ⟨0, (-1 : Int32), fB, c, ⟨_, _, _, _, _, _, Fr_at F69 D96 (fun e => by have := o69 9 e; omega)⟩, Fr_at F R15 (off _ (by decide)), Nat.zero_le _, rfl, rfl, fun i hi => absurd hi (Nat.not_lt_zero i), BdS_fr F69 (BdH_S Bd6) (fun i hi e => by have := o69 _ e; omega)⟩
    · -- an error
      rw [← eH] at xr
      rw [tk] at yn
      have ex := ex0 xr
      have D9' : At (setD 0 (nI s') (nI n) code kd' st' en' nu' g') 9 (.inr (3, dO 0 (nI s') (nI n) code kd' st' en' nu')) := d_at (by have := Fd.1; omega)
      have F90 : Fr g' (setD 0 (nI s') (nI n) code kd' st' en' nu' g') (fun a => a = 9) 0 0 := Fr_set rfl
      generalize setD 0 (nI s') (nI n) code kd' st' en' nu' g' = h5 at D9' F90 ex
      have F : Fr H h5 InD 18 90 := Fr_trans (n := 18) (m := 90) (n' := 0) (m' := 0) Fd (Fr_mono F90 (fun a e => by show 9 ≤ a ∧ a ≤ 14; omega) (Nat.le_refl _) (Nat.le_refl _))
      have yr' : m_X6_reads 20 R1 = some (setR (tkv (vLd v n) (nI s') (nI (tkE c n s')) (nI (tT c n s')) m' code (nI s')) A' g) := yr
      have er5 := y_loadX (A := A) (A2 := A') hg hin' yn ycv yr' hc
      have hA0 : ∀ t, t < 4136 → aBk A' 0 t = nI (al t) := fun t ht => by
        rw [aBk_0 ht, hAd 1 (by decide), aLd_1 ht]
        exact ha t ht
      have hA5 : ∀ j, j ≠ 0 → j ≠ 1 → j ≠ 2 → aBk A' j = A j := fun j h0 h1 h2 => by
        rw [aBk_o h0 h2, hAd j h0, aLd_o h0 h1]
      refine ⟨code, h5, L, Gn, al, bn, P, Q, upd (tkv (vLd v n) (nI s') (nI (tkE c n s')) (nI (tT c n s')) m' code (nI s')) 17 (nI s'), aBk A', ?_, er5, rfl, ⟨o, Fr_at F ho (offD _ (by omega))⟩, Nat.le_trans z F.1, by have := F.2.1; omega, by have := F.2.2.1; omega, by omega, c1, (F.2.2.2 7 (by omega) (offD _ (by omega))).trans (congrArg Prod.fst h78), (F.2.2.2 8 (by omega) (offD _ (by omega))).trans (congrArg Prod.snd h78), fun a q1 q2 => F.2.2.2 a (by omega) (offD _ (by omega)), ⟨num, lat, w, fW, Vx_fr F V (fun i hi => offD i (by omega)), Chn_fr F (fun a fs h32 _ => offD a (by omega)) _ _ C, Pot_mono pt (Nat.le_succ k), hA0, Fr_at F h19 (offD _ (by omega)), hw, h21, fun i hi => by rw [hA5 9 (by decide) (by decide) (by decide)]; exact hf i hi⟩, ?_, ?_⟩
      · rw [ex, if_neg hc]
      · exact Hst_fr (S := InD) (fun a e => by have : 9 ≤ a ∧ a ≤ 14 := e; omega) F b2 rfl (hA5 3 (by decide) (by decide) (by decide)) (hA5 4 (by decide) (by decide) (by decide)) (hA5 5 (by decide) (by decide) (by decide)) (Nat.le_succ k)
      · exact ⟨0, nI s', fB, c, ⟨_, _, _, _, _, _, D9'⟩, Fr_at F R15 (offD _ (by omega)), Nat.zero_le _, rfl, rfl, fun i hi => absurd hi (Nat.not_lt_zero i), BdS_fr F90 Sd (fun i hi e => by omega)⟩
  · rw [decide_eq_false hx] at hin
    refine Agr_thr (t := 1) (x := 0) (e := 1) (cl := 8) I (thH I ?_) (fun h => rfl) (by decide) fun g hg => ?_
    · unfold m_X5_load
      by_cases h0 : x < 0
      · rw [if_pos h0]
      · obtain ⟨j, hj, rfl⟩ := nI_of h0
        rw [nI_toInt hj] at hx
        rw [if_neg h0, g2, Option.bind_some, g91, Option.bind_some, iNle (by omega) hj]
    · unfold m_X6_load
      simp only [e_jK]
      rw [rg9 hg, Option.bind_some, h9, hin, Option.bind_some, if_neg (by decide), yp7 hg, Option.bind_some, rg7 hg, Option.bind_some]
      show (if (1 : Int32) ≤ 0 then _ else _) = _
      rw [if_neg (by decide)]
      rfl
end LOA
