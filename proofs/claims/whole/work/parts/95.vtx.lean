/-! both readers at a vertex -/
section QAZ
variable {v : Nat → Int32} {A : Nat → Nat → Int32} {h : Hp} {c : Nat → Nat} {n s : Nat} {m wr wa x : Int32} {al : Nat → Nat}
theorem q_a00 (hz : 31 ≤ h.2.1) (ha : AlF A al) : aI (RS v m wr wa c n s A h) 0 21 (0 : Int32) = some (nI (al 0)) := (q_a0 (k := 0) hz (by decide)).trans (congrArg some (ha 0 (by decide)))
theorem q_a01 (hz : 31 ≤ h.2.1) (ha : AlF A al) : aI (RS v m wr wa c n s A h) 0 21 (1 : Int32) = some (nI (al 1)) := (q_a0 (k := 1) hz (by decide)).trans (congrArg some (ha 1 (by decide)))
theorem q_a02 (hz : 31 ≤ h.2.1) (ha : AlF A al) : aI (RS v m wr wa c n s A h) 0 21 (2 : Int32) = some (nI (al 2)) := (q_a0 (k := 2) hz (by decide)).trans (congrArg some (ha 2 (by decide)))
theorem q_s00 (hz : 31 ≤ h.2.1) : sI (RS v m wr wa c n s A h) 0 21 (0 : Int32) x = some (RS v m wr wa c n s (updA A 0 0 x) h) := q_s0 (k := 0) hz (by decide)
theorem q_s01 (hz : 31 ≤ h.2.1) : sI (RS v m wr wa c n s A h) 0 21 (1 : Int32) x = some (RS v m wr wa c n s (updA A 0 1 x) h) := q_s0 (k := 1) hz (by decide)
theorem q_s02 (hz : 31 ≤ h.2.1) : sI (RS v m wr wa c n s A h) 0 21 (2 : Int32) x = some (RS v m wr wa c n s (updA A 0 2 x) h) := q_s0 (k := 2) hz (by decide)
end QAZ
def vdC (L : Int32) (H : Hp) : Option (Bool × Hp) := (gR H 3 9 0).bind fun a11 => cv H 0 a11 <| (m_X0_addVertex a11 L H).bind fun h12 => cv h12 3 9 <| b2 (m_X3_readSemicolon 9 h12) fun bb13 h14 => some (bb13, h14)
def vdR (L : Int32) (H : Hp) : Option Hp := cv H 6 20 <| (m_X6_mustEnd 20 H).bind fun h13 =>
      (gI h13 6 20 15).bind fun x14 =>
      if x14 = 0 then
        (gR h13 6 20 0).bind fun a15 =>
        (gR h13 6 20 0).bind fun a16 =>
        (aI h13 0 a16 (0 : Int32)).bind fun x17 =>
        (sI h13 0 a15 ((4 : Int32) + x17) L).bind fun h18 =>
        (gR h18 6 20 0).bind fun a19 =>
        (aI h18 0 a19 (0 : Int32)).bind fun x20 =>
        (sI h18 0 a19 (0 : Int32) (x20 + (1 : Int32))).bind fun h21 =>
        some h21
      else
        some h13
section VTX
variable {fB : Nat → Int32} {c : Nat → Nat} {n s : Nat} {v : Nat → Int32} {h g0 g g' : Hp} {A0 A A' : Nat → Nat → Int32} {al b al' : Nat → Nat} {fl ea er nu wa m : Int32} {num : Nat} {lat : Option Nat}
theorem PIv_raw (P : PIv fB c n v h g0 g A0 A al b) (hR : RawB al b) (F : Fr (CS fl ea er nu c n s g) g' (InB 10) 0 0) (B' : BdH g' 10 num al' b none) (R' : Rg al') (h3 : al' 3 = 0) (hr : ∀ v, v < 9 → al' (22 + v) = 0 ∧ al' (31 + v) = 0) (h1 : 1 ≤ al' 1) (h2 : (al' 1 + 1) ^ al' 0 ≤ 20000) (hA' : ∀ j, j ≠ 0 → A' j = A j) (hal : AlF A' al') : PIv fB c n v h g0 g' A0 A' al' b ∧ RawB al' b := by
  obtain ⟨hL, hY, _, _, _, _, _, F0, h32, hA⟩ := P
  have hR' : RawB al' b := ⟨h3, hr, hR.2.2⟩
  obtain ⟨W, K⟩ := RawB_W hR' R' h1 h2
  have hp := pop_le (s := fre al')
  have hp2 := R'.2.2.1
  refine ⟨⟨Lx_fr hL F, Ly_A hY (hA' 6 (by decide)), ⟨num, none, B', ?_⟩, K, hal, W, by omega, ?_, Nat.le_trans h32 F.1, fun j hj => (hA' j hj).trans (hA j hj)⟩, hR'⟩
  · rw [h3]; rfl
  · rw [h3]
    have F1 := Fr_cs F0 F
    rw [hR.1] at F1
    exact F1
theorem raw_lat (P : PIv fB c n v h g0 g A0 A al b) (hR : RawB al b) : ∃ num, BdH g 10 num al b none := by
  obtain ⟨_, _, ⟨num, lat, B, C⟩, _⟩ := P
  rw [hR.1] at C
  have : lat = none := C
  exact ⟨num, this ▸ B⟩
theorem x_vend {L : Nat} (hL : Lx g fB c n) (hs : s ≤ n) (B : BdH g 10 num al b lat) (R : Rg al) (h9 : al 0 < 9) : ∃ g', BdH g' 10 num (avN al L) b lat ∧ Fr (CS fl ea er nu c n s g) g' (InB 10) 0 0 ∧ vdC (nI L) (CS fl ea er nu c n s g) = some (if tT c n s = 2 ∧ c s = 59 then (true, CS fl ea er (nuC c n (nxk c n s) nu) c n (nxk c n s) g') else (false, CS fl (nI s) (-2 : Int32) nu c n s g')) := by
  have hz := hL.1
  have B' := cs_bd (fl := fl) (ea := ea) (er := er) (nu := nu) (c := c) (n := n) (s := s) B
  obtain ⟨g', e, B2, F⟩ := x_addVertex (L := L) B' R h9
  have hb := cs_back hz F
  have hL' := Lx_fr hL F
  refine ⟨g', B2, F, ?_⟩
  unfold vdC
  rw [show gR (CS fl ea er nu c n s g) 3 9 0 = some 10 from d_0 hz, Option.bind_some, bd_cv B', e, Option.bind_some]
  have ec : ∀ {ρ : Type} {r : Option ρ}, cv g' 3 9 r = r := fun {ρ} {r} => by
    rw [← hb]
    exact d_cv hL'.1
  have es : m_X3_readSemicolon 9 g' = _ := (congrArg (m_X3_readSemicolon 9) hb.symm).trans (x_rSemi hL' hs)
  rw [ec, es]
  by_cases h2 : tT c n s = 2 ∧ c s = 59
  · rw [if_pos h2, e_b2]
  · rw [if_neg h2, e_b2]
theorem y_vend {L : Nat} (hL : Ly v A h c n) (hs : s ≤ n) (ha : AlF A al) (h9 : al 0 < 9) : ∃ A', AlF A' (avN al L) ∧ (∀ j, j ≠ 0 → A' j = A j) ∧ vdR (nI L) (RS v m 0 wa c n s A h) = some (if tT c n s = 2 ∧ c s = 59 then RS v (nuR c n (nxk c n s) m) 0 wa c n (nxk c n s) A' h else RS v m (-2 : Int32) (nI s) c n s A h) := by
  have hz := hL.1
  refine ⟨updA (updA A 0 (4 + al 0) (nI L)) 0 0 (nI (al 0 + 1)), fun k hk => ?_, fun j hj => ?_, ?_⟩
  · show (if k = 0 then _ else if k = 4 + al 0 then _ else A 0 k) = nI (if k = 0 then _ else if k = 4 + al 0 then _ else al k)
    by_cases h1 : k = 0
    · rw [if_pos h1, if_pos h1]
    · rw [if_neg h1, if_neg h1]
      by_cases h2 : k = 4 + al 0
      · rw [if_pos h2, if_pos h2]
      · rw [if_neg h2, if_neg h2, ha k hk]
  · show (if j = 0 then _ else if j = 0 then _ else A j) = A j
    rw [if_neg hj, if_neg hj]
  · unfold vdR
    rw [q_cv hz, y_mEnd hL hs, Option.bind_some]
    by_cases h2 : tT c n s = 2 ∧ c s = 59
    · have a0' : aI (RS v (nuR c n (nxk c n s) m) 0 wa c n (nxk c n s) (updA A 0 (4 + al 0) (nI L)) h) 0 21 (0 : Int32) = some (nI (al 0)) := (q_a0 (k := 0) hz (by decide)).trans (congrArg some (by
        show (if 0 = 4 + al 0 then _ else A 0 0) = _
        rw [if_neg (by omega), ha 0 (by decide)]))
      rw [if_pos h2, if_pos h2, q_15 hz, Option.bind_some, if_pos rfl, q_a hz, Option.bind_some, Option.bind_some, q_a00 hz ha, Option.bind_some, i4, nI_add, q_s0 hz (by omega), Option.bind_some, q_a hz, Option.bind_some, a0', Option.bind_some, nI_1, q_s00 hz, Option.bind_some]
    · rw [if_neg h2, if_neg h2, q_15 hz, Option.bind_some, if_neg (by decide)]
/-- the end of a vertex -/
theorem J_vend {L s0 : Nat} (P : PIv fB c n v h g0 g A0 A al b) (hR : RawB al b) (hs : s ≤ n) (h0 : s0 ≤ s) (h9 : al 0 < 9) (hf : (al 1 + 1) ^ (al 0 + 1) ≤ 20000) (hl : L < 2 ^ al 1) {cls : Option (Bool × Hp)} {ref : Option Hp} (ec : cls = vdC (nI L) (CS fl ea er nu c n s g)) (er' : ref = vdR (nI L) (RS v m 0 wa c n s A h)) : JOk fl ea er wa fB c n v h g0 A0 (fun al' b' s' => RawB al' b' ∧ s0 < s' ∧ al' 0 = al 0 + 1) cls ref := by
  have hL := P.1
  have hY := P.2.1
  have W := P.2.2.2.2.2.1
  have ha := P.2.2.2.2.1
  obtain ⟨num, B⟩ := raw_lat P hR
  have hC := W.1.2.1
  have hp : 2 ^ al 1 ≤ 8 := Nat.le_trans (Nat.pow_le_pow_right (by decide) hC) (by decide)
  obtain ⟨g', B', F, e1⟩ := x_vend (fl := fl) (ea := ea) (er := er) (nu := nu) (L := L) hL hs B W.1 h9
  obtain ⟨A', ha', hA', e2⟩ := y_vend (m := m) (wa := wa) (L := L) hY hs ha h9
  rw [← ec] at e1
  rw [← er'] at e2
  obtain ⟨P', hR'⟩ := PIv_raw P hR F B' (Rg_av W.1 h9 (by omega) (fun k hk => Nat.lt_of_not_le fun e => by rw [tb_ge hl e] at hk; cases hk)) (by rw [avN_e (by omega) (by omega)]; exact hR.1) (fun u hu => by rw [avN_e (by omega) (by omega), avN_e (by omega) (by omega)]; exact hR.2.1 u hu) (by rw [avN_e (by omega) (by omega)]; exact W.2.1.2.1) (by rw [avN_0, avN_e (by omega) (by omega)]; exact hf) hA' ha'
  by_cases h2 : tT c n s = 2 ∧ c s = 59
  · rw [if_pos h2] at e1 e2
    have hx := nxk_lt (c := c) (n := n) (s := s) (by omega)
    exact .inl ⟨_, _, g', A', _, b, _, e1, e2, NuOk_n, (nxk_le hs).2, P', hR', by omega, avN_0⟩
  · rw [if_neg h2] at e1 e2
    refine .inr ⟨_, _, _, g', A, s, e1, e2, by decide, hs, ?_, BdH_S B', P.2.2.2.2.2.2.2.2.2⟩
    have F0 := P'.2.2.2.2.2.2.2.1
    rw [hR'.1] at F0
    exact Fr_mono F0 (fun _ e => e) (by omega) (by omega)
theorem J_vertex (P : PIv fB c n v h g0 g A0 A al b) (hR : RawB al b) (hs : s ≤ n) (hw : wd c n s 2 = true) : JOk fl ea er wa fB c n v h g0 A0 (fun al' b' s' => RawB al' b' ∧ s < s' ∧ al' 0 = al 0 + 1) (m_X3_readVertex 9 (CS fl ea er nu c n s g)) (m_X6_readsVertex 20 (RS v m 0 wa c n s A h)) := by
  have hL := P.1
  have hY := P.2.1
  have W := P.2.2.2.2.2.1
  have ha := P.2.2.2.2.1
  have hz := hL.1
  have hzr := hY.1
  obtain ⟨num, B⟩ := raw_lat P hR
  have hC := W.1.2.1
  have h9 := W.1.1
  have hp4 := pw4 hC (show al 0 + 1 ≤ 10 by omega)
  have ec : ∀ {ρ : Type} {r : Option ρ} {ea er nu : Int32} {s : Nat}, cv (CS fl ea er nu c n s g) 3 9 r = r := fun {ρ} {r} {_ _ _ _} => d_cv hz
  have e0 : ∀ {ea er nu : Int32} {s : Nat}, gR (CS fl ea er nu c n s g) 3 9 0 = some 10 := d_0 hz
  have e6 : ∀ {ea er nu : Int32} {s : Nat}, gI (CS fl ea er nu c n s g) 3 9 6 = some (nI (ckd c n s)) := d_6 hz
  have Bc : ∀ {ea er nu : Int32} {s : Nat}, BdH (CS fl ea er nu c n s g) 10 num al b none := cs_bd B
  have hn := nxk_le (c := c) hs
  have hT : tT c n s = 0 := by
    unfold wd at hw
    rw [Bool.and_eq_true] at hw
    exact of_decide_eq_true hw.1
  have hlt := nxk_lt (c := c) (n := n) (s := s) (by omega)
  by_cases hf : al 0 = 9 ∨ 20000 < (al 1 + 1) ^ (al 0 + 1)
  · have ex : m_X3_readVertex 9 (CS fl ea er nu c n s g) = some (false, CS fl (nI s) (-6 : Int32) nu c n s g) := by
      unfold m_X3_readVertex
      simp only [e_jK]
      rw [ec, x_word hL hs (by decide), hw, Option.bind_some, if_pos rfl, e0, Option.bind_some, bd_cv Bc, x_isFull Bc hC h9, Option.bind_some, decide_eq_true hf, if_pos rfl, ec, x_fail hL, e_b2]
    have ey : m_X6_readsVertex 20 (RS v m 0 wa c n s A h) = some (RS v m (-6 : Int32) (nI s) c n s A h) := by
      unfold m_X6_readsVertex
      simp only [e_jK, e_nm]
      rw [q_a hzr, Option.bind_some, q_a00 hzr ha, Option.bind_some]
      by_cases h99 : al 0 = 9
      · rw [if_pos (show nI (al 0) = (9 : Int32) by rw [h99]; rfl), q_cv hzr, y_fails hzr, Option.bind_some, q_cv hzr, y_mustW hY (by decide), Option.bind_some, q_a hzr, Option.bind_some, q_a01 hzr ha, Option.bind_some, q_15 hzr, Option.bind_some, if_neg (by decide), q_cv hzr, y_mEndW hY hs (by decide), Option.bind_some, q_15 hzr, Option.bind_some, if_neg (by decide)]
      · rw [if_neg (nI_neL (x := (9 : Int32)) (b := 9) (by omega) (by decide) rfl h99), q_cv hzr, show m_X6_colouringsNext 20 (RS v m 0 wa c n s A h) = _ from y_colNext hzr ha hC h9, Option.bind_some, if_neg (show ¬ nI ((al 1 + 1) ^ (al 0 + 1)) ≤ (20000 : Int32) from nI_ge (a := 20000) (hf.resolve_left h99) (by omega)), q_cv hzr, y_fails hzr, Option.bind_some, q_cv hzr, y_mustW hY (by decide), Option.bind_some, q_a hzr, Option.bind_some, q_a01 hzr ha, Option.bind_some, q_15 hzr, Option.bind_some, if_neg (by decide), q_cv hzr, y_mEndW hY hs (by decide), Option.bind_some, q_15 hzr, Option.bind_some, if_neg (by decide)]
    rw [ex, ey]
    exact .inr (JF_mk P hs (by decide))
  · have h99 : ¬ al 0 = 9 := fun e => hf (.inl e)
    have h20 : (al 1 + 1) ^ (al 0 + 1) ≤ 20000 := Nat.le_of_not_lt fun e => hf (.inr e)
    generalize hs1 : nxk c n s = s1 at hn hlt
    generalize hnu : nuC c n s1 nu = nu1
    generalize hm : nuR c n s1 m = m1
    have hk := ckd_T (c := c) (n := n) (s := s1)
    have exA : m_X3_readWord 9 2 (CS fl ea er nu c n s g) = some (true, CS fl ea er nu1 c n s1 g) := by
      rw [x_rWord hL hs (by decide), if_pos hw, hs1, hnu]
    have eyA : m_X6_must 20 true (RS v m 0 wa c n s A h) = some (RS v m1 0 wa c n s1 A h) := by
      rw [y_must hY hs, hs1, hm]
    have hp8 : 2 ^ al 1 ≤ 8 := Nat.le_trans (Nat.pow_le_pow_right (by decide) hC) (by decide)
    have hp1 : 0 < 2 ^ al 1 := Nat.two_pow_pos _
    have hll := lstN_lt (c := c) (C := al 1) (n := n) (s := s1)
    have hn2 := nxk_le (c := c) hn.2
    have ex : m_X3_readVertex 9 (CS fl ea er nu c n s g) = if tT c n s1 = 0 then (if lstN c (al 1) n s1 = 0 then some (false, CS fl (nI s1) (-3 : Int32) nu1 c n s1 g) else vdC (nI (lstN c (al 1) n s1)) (CS fl ea er (nuC c n (nxk c n s1) nu1) c n (nxk c n s1) g)) else vdC (nI (2 ^ al 1 - 1)) (CS fl ea er nu1 c n s1 g) := by
      unfold m_X3_readVertex
      simp only [e_jK]
      rw [ec, x_word hL hs (by decide), hw, Option.bind_some, if_pos rfl, e0, Option.bind_some, bd_cv Bc, x_isFull Bc hC h9, Option.bind_some, decide_eq_false hf, if_neg (by decide), ec, exA, e_b2, if_pos rfl, e0, Option.bind_some, bd_cv Bc, x_everyColour Bc (by omega), Option.bind_some, e6, Option.bind_some]
      by_cases hT1 : tT c n s1 = 0
      · rw [if_pos hT1, if_pos (show nI (ckd c n s1) = (1 : Int32) by rw [hk.1.mpr hT1]; rfl), ec, x_list hL hn.2 hT1 Bc hC, Option.bind_some, iZ (by omega)]
        by_cases hl0 : lstN c (al 1) n s1 = 0
        · rw [if_pos hl0, if_pos hl0, ec, x_fail hL, e_b2]
        · rw [if_neg hl0, if_neg hl0, ec, x_adv hL hn.2, Option.bind_some]
          rfl
      · rw [if_neg hT1, if_neg (nI_neL (x := (1 : Int32)) (b := 1) (by omega) (by decide) rfl (fun e => hT1 (hk.1.mp e)))]
        unfold vdC
        rw [e0]
    have ey : m_X6_readsVertex 20 (RS v m 0 wa c n s A h) = if tT c n s1 = 0 then (if lstN c (al 1) n s1 = 0 then some (RS v m1 (-3 : Int32) (nI s1) c n s1 A h) else vdR (nI (lstN c (al 1) n s1)) (RS v (nuR c n (nxk c n s1) m1) 0 wa c n (nxk c n s1) A h)) else vdR (nI (2 ^ al 1 - 1)) (RS v m1 0 wa c n s1 A h) := by
      unfold m_X6_readsVertex
      simp only [e_jK, e_nm]
      rw [q_a hzr, Option.bind_some, q_a00 hzr ha, Option.bind_some, if_neg (nI_neL (x := (9 : Int32)) (b := 9) (by omega) (by decide) rfl h99), q_cv hzr, show m_X6_colouringsNext 20 (RS v m 0 wa c n s A h) = _ from y_colNext hzr ha hC h9, Option.bind_some, if_pos (show nI ((al 1 + 1) ^ (al 0 + 1)) ≤ (20000 : Int32) from nI_le (b := 20000) h20 (by decide)), q_cv hzr, eyA, Option.bind_some, q_a hzr, Option.bind_some, q_a01 hzr ha, Option.bind_some, i_all (by omega), q_15 hzr, Option.bind_some, if_pos rfl, q_13 hzr, Option.bind_some, iZ (by omega)]
      by_cases hT1 : tT c n s1 = 0
      · rw [if_pos hT1, if_pos hT1, q_cv hzr, y_list hY hn.2 hT1 ha hC, Option.bind_some, iZ (by omega)]
        by_cases hl0 : lstN c (al 1) n s1 = 0
        · rw [if_pos hl0, if_pos hl0, q_cv hzr, y_fails hzr, Option.bind_some, q_15 hzr, Option.bind_some, if_neg (by decide), q_cv hzr, y_mEndW hY hn.2 (by decide), Option.bind_some, q_15 hzr, Option.bind_some, if_neg (by decide)]
        · rw [if_neg hl0, if_neg hl0, Option.bind_some, if_pos rfl, q_cv hzr, y_nxt hY hn.2, Option.bind_some]
          rfl
      · rw [if_neg hT1, if_neg hT1]
        rfl
    by_cases hT1 : tT c n s1 = 0
    · rw [if_pos hT1] at ex ey
      by_cases hl0 : lstN c (al 1) n s1 = 0
      · rw [if_pos hl0] at ex ey
        rw [ex, ey]
        exact .inr (JF_mk P hn.2 (by decide))
      · rw [if_neg hl0] at ex ey
        have hx := J_vend (fl := fl) (ea := ea) (er := er) (wa := wa) (s0 := s) P hR hn2.2 (by omega) (by omega) h20 hll ex ey
        rcases hx with ⟨nu', m', g', A', al', b', s', x1, x2, x3, x4, x5, x6, x7, x8⟩ | hx
        · exact .inl ⟨nu', m', g', A', al', b', s', x1, x2, x3, x4, x5, x6, x7, x8⟩
        · exact .inr hx
    · rw [if_neg hT1] at ex ey
      exact J_vend (fl := fl) (ea := ea) (er := er) (wa := wa) (s0 := s) P hR hn.2 (by omega) (by omega) h20 (by omega) ex ey
end VTX
