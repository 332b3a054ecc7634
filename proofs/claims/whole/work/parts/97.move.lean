/-! both readers at moves -/
def lyT (h20 : Hp) : Option Hp :=
              cv h20 6 20 <| (m_X6_must 20 true h20).bind fun h22 =>
              cv h22 6 20 <| (m_X6_mustEnd 20 h22).bind fun h23 =>
              some h23
def lyR14 (x4 v12 : Int32) (h14 : Hp) : Option Hp :=
          (gI h14 6 20 15).bind fun x16 =>
          if x16 = 0 then
            cv h14 6 20 <| (m_X6_whyNot 20 x4 v12 h14).bind fun x26 =>
            if x26 ≤ 0 then
              ((gI h14 6 20 15).bind fun x19 => if x19 = 0 then cv h14 6 20 <| (m_X6_lays 20 x4 v12 h14).bind fun h24 => lyT h24 else lyT h14)
            else
              cv h14 6 20 <| (m_X6_fails 20 (-5 : Int32) h14).bind fun h27 =>
              ((gI h27 6 20 15).bind fun x19 => if x19 = 0 then cv h27 6 20 <| (m_X6_lays 20 x4 v12 h27).bind fun h24 => lyT h24 else lyT h27)
          else
            ((gI h14 6 20 15).bind fun x19 => if x19 = 0 then cv h14 6 20 <| (m_X6_lays 20 x4 v12 h14).bind fun h24 => lyT h24 else lyT h14)
def lyR12 (x4 v12 : Int32) (h7 : Hp) : Option Hp :=
        if v12 = (-1 : Int32) then
          cv h7 6 20 <| (m_X6_fails 20 (-3 : Int32) h7).bind fun h30 =>
          lyR14 x4 v12 h30
        else
          lyR14 x4 v12 h7
def lyR10 (x4 v10 : Int32) (h7 : Hp) : Option Hp :=
      if v10 = (1 : Int32) then
        lyR12 x4 (0 : Int32) h7
      else
        if v10 = (2 : Int32) then
          lyR12 x4 (1 : Int32) h7
        else
          if v10 = (4 : Int32) then
            lyR12 x4 (2 : Int32) h7
          else
            lyR12 x4 (-1 : Int32) h7
def lyR8 (x4 : Int32) (h7 : Hp) : Option Hp :=
    (gI h7 6 20 15).bind fun x9 =>
    if x9 = 0 then
      cv h7 6 20 <| (m_X6_lettersHere 20 h7).bind fun x35 =>
      lyR10 x4 x35 h7
    else
      lyR10 x4 (0 : Int32) h7
theorem readsLay_e (H : Hp) : m_X6_readsLay 20 H = (cv H 6 20 <| (m_X6_must 20 true H).bind fun h1 =>
  (gR h1 6 20 0).bind fun a2 =>
  (aI h1 0 a2 (0 : Int32)).bind fun x3 =>
  cv h1 6 20 <| b2 (m_X6_takes 20 (0 : Int32) (x3 - (1 : Int32)) h1) fun x4 h5 =>
  (gI h5 6 20 15).bind fun x6 =>
  if x6 = 0 then
    (gI h5 6 20 13).bind fun x37 =>
    if x37 = 0 then
      lyR8 x4 h5
    else
      cv h5 6 20 <| (m_X6_fails 20 (-2 : Int32) h5).bind fun h38 =>
      lyR8 x4 h38
  else
    lyR8 x4 h5) := by
  unfold m_X6_readsLay
  simp only [e_jK]
  rfl
section MOV
variable {fB : Nat → Int32} {c : Nat → Nat} {n s : Nat} {v : Nat → Int32} {h g0 g g' : Hp} {A0 A A' : Nat → Nat → Int32} {al b al' b' : Nat → Nat} {fl ea er nu wa wr m x4 x5 : Int32} {num : Nat} {lat lat' : Option Nat}
theorem lyT_W (hL : Ly v A h c n) (hs : s ≤ n) (hw : wr ≠ 0) : lyT (RS v m wr wa c n s A h) = some (RS v m wr wa c n s A h) := by
  unfold lyT
  rw [q_cv hL.1, y_mustW hL hw, Option.bind_some, q_cv hL.1, y_mEndW hL hs hw, Option.bind_some]
theorem lyR14_W (hL : Ly v A h c n) (hs : s ≤ n) (hw : wr ≠ 0) : lyR14 x4 x5 (RS v m wr wa c n s A h) = some (RS v m wr wa c n s A h) := by
  unfold lyR14
  rw [q_15 hL.1, Option.bind_some, if_neg hw, Option.bind_some, if_neg hw, lyT_W hL hs hw]
theorem lyR12_W (hL : Ly v A h c n) (hs : s ≤ n) (hw : wr ≠ 0) : lyR12 x4 x5 (RS v m wr wa c n s A h) = some (RS v m wr wa c n s A h) := by
  unfold lyR12
  by_cases h1 : x5 = (-1 : Int32)
  · rw [if_pos h1, q_cv hL.1, y_failsW hL.1 hw, Option.bind_some, lyR14_W hL hs hw]
  · rw [if_neg h1, lyR14_W hL hs hw]
theorem lyR8_W (hL : Ly v A h c n) (hs : s ≤ n) (hw : wr ≠ 0) : lyR8 x4 (RS v m wr wa c n s A h) = some (RS v m wr wa c n s A h) := by
  unfold lyR8
  rw [q_15 hL.1, Option.bind_some, if_neg hw]
  unfold lyR10
  rw [if_neg (by decide), if_neg (by decide), if_neg (by decide), lyR12_W hL hs hw]
theorem PIv_step (P : PIv fB c n v h g0 g A0 A al b) (F : Fr (CS fl ea er nu c n s g) g' (InB 10) 1 5) (B' : BdH g' 10 num al' b' lat') (K' : Bk al' b') (C' : Chn g' al' (al 3 + 1) lat') (W' : WfB al') (h3 : al' 3 = al 3 + 1) (h18 : al' 3 + pop (fre al') + al' 2 ≤ 18) (hA' : ∀ j, j ≠ 0 → A' j = A j) (hal : AlF A' al') : PIv fB c n v h g0 g' A0 A' al' b' := by
  obtain ⟨hL, hY, _, _, _, _, _, F0, h32, hA⟩ := P
  refine ⟨Lx_fr hL F, Ly_A hY (hA' 6 (by decide)), ⟨num, lat', B', by rw [h3]; exact C'⟩, K', hal, W', h18, ?_, Nat.le_trans h32 F.1, fun j hj => (hA' j hj).trans (hA j hj)⟩
  have F1 := Fr_cs F0 F
  exact Fr_mono F1 (fun _ e => e) (by omega) (by omega)
theorem bit1 {L : Nat} (hL : L < 8) : (∃ k, k < 3 ∧ L = 2 ^ k) ∨ (pop L ≠ 1 ∧ L ≠ 1 ∧ L ≠ 2 ∧ L ≠ 4) := by
  have d : ∀ L, L < 8 → L = 1 ∨ L = 2 ∨ L = 4 ∨ (pop L ≠ 1 ∧ L ≠ 1 ∧ L ≠ 2 ∧ L ≠ 4) := by decide
  rcases d L hL with e | e | e | e
  · exact .inl ⟨0, by decide, e⟩
  · exact .inl ⟨1, by decide, e⟩
  · exact .inl ⟨2, by decide, e⟩
  · exact .inr e
theorem i_least {k : Nat} (hk : k < 3) : m_X5_least (nI (2 ^ k)) = some (nI k) := (by decide +kernel : ∀ k, k < 3 → m_X5_least (nI (2 ^ k)) = some (nI k)) k hk
theorem lyR10_k {k : Nat} (hk : k < 3) {H : Hp} : lyR10 x4 (nI (2 ^ k)) H = lyR14 x4 (nI k) H := by
  unfold lyR10
  have d : k = 0 ∨ k = 1 ∨ k = 2 := by omega
  rcases d with e | e | e
  · subst e
    rw [if_pos (by decide)]
    unfold lyR12
    rw [if_neg (by decide)]
    rfl
  · subst e
    rw [if_neg (by decide), if_pos (by decide)]
    unfold lyR12
    rw [if_neg (by decide)]
    rfl
  · subst e
    rw [if_neg (by decide), if_neg (by decide), if_pos (by decide)]
    unfold lyR12
    rw [if_neg (by decide)]
    rfl
/-- a lay, but for its semicolon -/
theorem J_lay (P : PIv fB c n v h g0 g A0 A al b) (hs : s ≤ n) (hw : wd c n s 4 = true) (hN0 : 1 ≤ al 0) :
    (∃ (nu' m' : Int32) (g' : Hp) (A' : Nat → Nat → Int32) (al' b' : Nat → Nat) (s' : Nat), m_X3_readLay 9 (CS fl ea er nu c n s g) = some (true, CS fl ea er nu' c n s' g') ∧ m_X6_readsLay 20 (RS v m 0 wa c n s A h) = (cv (RS v m' 0 wa c n s' A' h) 6 20 <| (m_X6_mustEnd 20 (RS v m' 0 wa c n s' A' h)).bind fun h23 => some h23) ∧ s < s' ∧ s' ≤ n ∧ PIv fB c n v h g0 g' A0 A' al' b' ∧ al' 0 = al 0) ∨ JF fl c n v h g0 A0 (m_X3_readLay 9 (CS fl ea er nu c n s g)) (m_X6_readsLay 20 (RS v m 0 wa c n s A h)) := by
  obtain ⟨hL, hY, ⟨num, lat, B, Ch⟩, hk, ha, W, h18, F0, h32, hA⟩ := id P
  have hz := hL.1
  have hzr := hY.1
  have h9 := W.1.1
  have hC := W.1.2.1
  have ec : ∀ {ρ : Type} {r : Option ρ} {ea er nu : Int32} {s : Nat}, cv (CS fl ea er nu c n s g) 3 9 r = r := fun {ρ} {r} {_ _ _ _} => d_cv hz
  have e0 : ∀ {ea er nu : Int32} {s : Nat}, gR (CS fl ea er nu c n s g) 3 9 0 = some 10 := d_0 hz
  have e6 : ∀ {ea er nu : Int32} {s : Nat}, gI (CS fl ea er nu c n s g) 3 9 6 = some (nI (ckd c n s)) := d_6 hz
  have Bc : ∀ {ea er nu : Int32} {s : Nat}, BdH (CS fl ea er nu c n s g) 10 num al b lat := cs_bd B
  have hn := nxk_le (c := c) hs
  have hT : tT c n s = 0 := by
    unfold wd at hw
    rw [Bool.and_eq_true] at hw
    exact of_decide_eq_true hw.1
  have hlt := nxk_lt (c := c) (n := n) (s := s) (by omega)
  have hN1 : NuOk c n (nxk c n s) (nuC c n (nxk c n s) nu) (nuR c n (nxk c n s) m) := NuOk_n
  have exA : m_X3_readWord 9 4 (CS fl ea er nu c n s g) = some (true, CS fl ea er (nuC c n (nxk c n s) nu) c n (nxk c n s) g) := by
    rw [x_rWord hL hs (by decide), if_pos hw]
  have eyA := y_must (m := m) (wa := wa) hY hs
  generalize nxk c n s = s1 at hn hlt hN1 exA eyA
  generalize nuC c n s1 nu = nu1 at hN1 exA
  generalize nuR c n s1 m = m1 at hN1 eyA
  have hn2 := nxk_le (c := c) hn.2
  have exB := x_rNum0 (fl := fl) (ea := ea) (er := er) (hi := al 0 - 1) hL hn.2 hN1 (by omega)
  have eyB := y_takes0 (wa := wa) (hi := al 0 - 1) hY hn.2 hN1 (by omega)
  by_cases hT1 : tT c n s1 = 1 ∧ tR c n s1 ≤ al 0 - 1
  · rw [if_pos hT1.1, if_pos hT1.2] at exB eyB
    generalize hs2 : nxk c n s1 = s2 at hn2 exB eyB
    generalize nuC c n s2 nu1 = nu2 at exB
    generalize nuR c n s2 m1 = m2 at eyB
    have hu := hT1.2
    generalize tR c n s1 = u at hu exB eyB
    have hkd := ckd_T (c := c) (n := n) (s := s2)
    have hp8 : 2 ^ al 1 ≤ 8 := Nat.le_trans (Nat.pow_le_pow_right (by decide) hC) (by decide)
    have hll := lstN_lt (c := c) (C := al 1) (n := n) (s := s2)
    have hn3 := nxk_le (c := c) hn2.2
    have exC : m_X3_readLay 9 (CS fl ea er nu c n s g) = if nI (ckd c n s2) = (1 : Int32) then
        cv (CS fl ea er nu2 c n s2 g) 3 9 <| (m_X3_listHere 9 (CS fl ea er nu2 c n s2 g)).bind fun x8 =>
        (m_J6_bitCount x8).bind fun x9 =>
        if x9 = (1 : Int32) then
          (m_X5_least x8).bind fun x10 =>
          (gR (CS fl ea er nu2 c n s2 g) 3 9 0).bind fun a11 =>
          cv (CS fl ea er nu2 c n s2 g) 0 a11 <| (m_X0_whyNot a11 (nI u) x10 (CS fl ea er nu2 c n s2 g)).bind fun x12 =>
          if x12 = 0 then
            (gR (CS fl ea er nu2 c n s2 g) 3 9 0).bind fun a13 =>
            cv (CS fl ea er nu2 c n s2 g) 0 a13 <| (m_X0_paint a13 (nI u) x10 (CS fl ea er nu2 c n s2 g)).bind fun h14 =>
            cv h14 3 9 <| (m_X3_advance 9 h14).bind fun h15 =>
            some (true, h15)
          else
            cv (CS fl ea er nu2 c n s2 g) 3 9 <| b2 (m_X3_fail 9 (-5 : Int32) (CS fl ea er nu2 c n s2 g)) fun bb16 h17 =>
            some (bb16, h17)
        else
          cv (CS fl ea er nu2 c n s2 g) 3 9 <| b2 (m_X3_fail 9 (-3 : Int32) (CS fl ea er nu2 c n s2 g)) fun bb19 h20 =>
          some (bb19, h20)
      else
        cv (CS fl ea er nu2 c n s2 g) 3 9 <| b2 (m_X3_fail 9 (-2 : Int32) (CS fl ea er nu2 c n s2 g)) fun bb22 h23 =>
        some (bb22, h23) := by
      unfold m_X3_readLay
      rw [ec, exA, e_b2, if_pos rfl, e0, Option.bind_some, bd_N Bc, Option.bind_some, ec, show nI (al 0) - (1 : Int32) = nI (al 0 - 1) from pk_sub (a := al 0) (b := 1) hN0, exB, e_b2, if_neg (nI_nm1 (by omega)), e6, Option.bind_some]
    have eyC : m_X6_readsLay 20 (RS v m 0 wa c n s A h) = if nI (tT c n s2) = (0 : Int32) then lyR8 (nI u) (RS v m2 0 wa c n s2 A h) else cv (RS v m2 0 wa c n s2 A h) 6 20 <| (m_X6_fails 20 (-2 : Int32) (RS v m2 0 wa c n s2 A h)).bind fun h38 => lyR8 (nI u) h38 := by
      rw [readsLay_e, q_cv hzr, eyA, Option.bind_some, q_a hzr, Option.bind_some, q_a00 hzr ha, Option.bind_some, q_cv hzr, show nI (al 0) - (1 : Int32) = nI (al 0 - 1) from pk_sub (a := al 0) (b := 1) hN0, eyB, e_b2, q_15 hzr, Option.bind_some, if_pos rfl, q_13 hzr, Option.bind_some]
    by_cases hT2 : tT c n s2 = 0
    · rw [if_pos (show nI (ckd c n s2) = (1 : Int32) by rw [hkd.1.mpr hT2]; rfl), ec, x_list hL hn2.2 hT2 Bc hC, Option.bind_some, i_bits (by omega), Option.bind_some] at exC
      rw [if_pos (show nI (tT c n s2) = (0 : Int32) by rw [hT2]; rfl)] at eyC
      unfold lyR8 at eyC
      rw [q_15 hzr, Option.bind_some, if_pos rfl, q_cv hzr, y_list hY hn2.2 hT2 ha hC, Option.bind_some] at eyC
      rcases bit1 (L := lstN c (al 1) n s2) (by omega) with ⟨k, hk3, hk2⟩ | hno
      · have hkC : k < al 1 := by
          refine Nat.lt_of_not_le fun e => ?_
          have := Nat.pow_le_pow_right (show 0 < 2 by decide) e
          omega
        rw [hk2, show pop (2 ^ k) = 1 from pop_2w (by omega), if_pos (show nI 1 = (1 : Int32) from rfl), i_least hk3, Option.bind_some, e0, Option.bind_some, bd_cv Bc, x_whyNot Bc W.1 (by omega) hk3, Option.bind_some] at exC
        rw [hk2, lyR10_k hk3] at eyC
        unfold lyR14 at eyC
        rw [q_15 hzr, Option.bind_some, if_pos rfl, q_cv hzr, show m_X6_whyNot 20 (nI u) (nI k) (RS v m2 0 wa c n s2 A h) = _ from y_whyNot hzr (AlF_al ha) W.1 hk (by omega) hkC, Option.bind_some] at eyC
        have hwl := wn_le (al := al) (b := b) (v := u) (c := k)
        by_cases hq : wn al b u k = 0
        · have hfu := (wn_0.mp hq).1
          obtain ⟨h', b', ep, B', K', C', F'⟩ := x_paint (Bc (ea := ea) (er := er) (nu := nu2) (s := s2)) W hk hfu hkC h32 (cs_ch Ch)
          have hb := cs_back hz F'
          have hL' := Lx_fr hL F'
          obtain ⟨A', ey', hA', ha'⟩ := y_lays (v := tkv v (nI s2) (nI (tkE c n s2)) (nI (tT c n s2)) m2 0 wa) hzr ha W.1 hfu hkC (by omega)
          have hY' := Ly_A hY (hA' 6 (by decide))
          have hpv := pop_v hfu (fre_lt W.1)
          have hf' := fre_lyN W.1 hfu (c := k) (by omega)
          have P' := PIv_step P F' B' K' C' (WfB_lyN W hfu hkC (by omega)) lyN_3 (by rw [hf', lyN_3, lyN_2]; omega) hA' ha'
          rw [hq, if_pos (show nI 0 = (0 : Int32) from rfl), Option.bind_some, bd_cv Bc, ep, Option.bind_some] at exC
          have ec' : ∀ {ρ : Type} {r : Option ρ}, cv h' 3 9 r = r := fun {ρ} {r} => by
            rw [← hb]
            exact d_cv hL'.1
          rw [ec', show m_X3_advance 9 h' = _ from (congrArg (m_X3_advance 9) hb.symm).trans (x_adv hL' hn2.2), Option.bind_some] at exC
          rw [hq, if_pos (show nI 0 ≤ (0 : Int32) by decide), Option.bind_some, if_pos rfl, q_cv hzr, show m_X6_lays 20 (nI u) (nI k) (RS v m2 0 wa c n s2 A h) = some (RS v m2 0 wa c n s2 A' h) from ey', Option.bind_some] at eyC
          unfold lyT at eyC
          rw [q_cv hzr, y_must hY' hn2.2, Option.bind_some] at eyC
          exact .inl ⟨_, _, h', A', _, b', _, exC, eyC, by omega, hn3.2, P', (Lq_lyN 0 (by decide) (by decide) (by decide)).trans (ly_low (by decide))⟩
        · rw [if_neg (fun e => hq ((nI_z (by omega)).mp e)), ec, x_fail hL, e_b2] at exC
          rw [if_neg (nI_nle (by omega) (by omega)), q_cv hzr, y_fails hzr, Option.bind_some, q_15 hzr, Option.bind_some, if_neg (by decide), lyT_W hY hn2.2 (by decide)] at eyC
          rw [exC, eyC]
          exact .inr (JF_mk P hn2.2 (by decide))
      · have hpp := pop_le (s := lstN c (al 1) n s2)
        rw [if_neg (nI_neL (x := (1 : Int32)) (b := 1) (by omega) (by decide) rfl hno.1), ec, x_fail hL, e_b2] at exC
        unfold lyR10 at eyC
        rw [if_neg (nI_neL (x := (1 : Int32)) (b := 1) (by omega) (by decide) rfl hno.2.1), if_neg (nI_neL (x := (2 : Int32)) (b := 2) (by omega) (by decide) rfl hno.2.2.1), if_neg (nI_neL (x := (4 : Int32)) (b := 4) (by omega) (by decide) rfl hno.2.2.2)] at eyC
        unfold lyR12 at eyC
        rw [if_pos rfl, q_cv hzr, y_fails hzr, Option.bind_some, lyR14_W hY hn2.2 (by decide)] at eyC
        rw [exC, eyC]
        exact .inr (JF_mk P hn2.2 (by decide))
    · rw [if_neg (nI_neL (x := (1 : Int32)) (b := 1) (by omega) (by decide) rfl (fun e => hT2 (hkd.1.mp e))), ec, x_fail hL, e_b2] at exC
      rw [if_neg (fun e => hT2 ((nI_z (by omega)).mp e)), q_cv hzr, y_fails hzr, Option.bind_some, lyR8_W hY hn2.2 (by decide)] at eyC
      rw [exC, eyC]
      exact .inr (JF_mk P hn2.2 (by decide))
  · obtain ⟨code, hc0, exB', eyB'⟩ : ∃ code : Int32, code ≠ 0 ∧ m_X3_readNumber 9 (0 : Int32) (nI (al 0 - 1)) (CS fl ea er nu1 c n s1 g) = some ((-1 : Int32), CS fl (nI s1) code nu1 c n s1 g) ∧ m_X6_takes 20 (0 : Int32) (nI (al 0 - 1)) (RS v m1 0 wa c n s1 A h) = some (0, RS v m1 code (nI s1) c n s1 A h) := by
      by_cases h1 : tT c n s1 = 1
      · rw [if_pos h1, if_neg (fun e => hT1 ⟨h1, e⟩)] at exB eyB
        exact ⟨_, by decide, exB, eyB⟩
      · rw [if_neg h1] at exB eyB
        exact ⟨_, by decide, exB, eyB⟩
    have ex : m_X3_readLay 9 (CS fl ea er nu c n s g) = some (false, CS fl (nI s1) code nu1 c n s1 g) := by
      unfold m_X3_readLay
      rw [ec, exA, e_b2, if_pos rfl, e0, Option.bind_some, bd_N Bc, Option.bind_some, ec, show nI (al 0) - (1 : Int32) = nI (al 0 - 1) from pk_sub (a := al 0) (b := 1) hN0, exB', e_b2, if_pos rfl]
    have ey : m_X6_readsLay 20 (RS v m 0 wa c n s A h) = lyR8 0 (RS v m1 code (nI s1) c n s1 A h) := by
      rw [readsLay_e, q_cv hzr, eyA, Option.bind_some, q_a hzr, Option.bind_some, q_a00 hzr ha, Option.bind_some, q_cv hzr, show nI (al 0) - (1 : Int32) = nI (al 0 - 1) from pk_sub (a := al 0) (b := 1) hN0, eyB', e_b2, q_15 hzr, Option.bind_some, if_neg hc0]
    rw [ex, ey, lyR8_W hY hn.2 hc0]
    exact .inr (JF_mk P hn.2 hc0)
/-- a pass, but for its semicolon -/
theorem J_pass (P : PIv fB c n v h g0 g A0 A al b) (hs : s ≤ n) (hw : wd c n s 5 = true) :
    (∃ (nu' m' : Int32) (g' : Hp) (A' : Nat → Nat → Int32) (al' b' : Nat → Nat) (s' : Nat), m_X3_readPass 9 (CS fl ea er nu c n s g) = some (true, CS fl ea er nu' c n s' g') ∧ m_X6_readsPass 20 (RS v m 0 wa c n s A h) = (cv (RS v m' 0 wa c n s' A' h) 6 20 <| (m_X6_mustEnd 20 (RS v m' 0 wa c n s' A' h)).bind fun h23 => some h23) ∧ s < s' ∧ s' ≤ n ∧ PIv fB c n v h g0 g' A0 A' al' b' ∧ al' 0 = al 0) ∨ JF fl c n v h g0 A0 (m_X3_readPass 9 (CS fl ea er nu c n s g)) (m_X6_readsPass 20 (RS v m 0 wa c n s A h)) := by
  obtain ⟨hL, hY, ⟨num, lat, B, Ch⟩, hk, ha, W, h18, F0, h32, hA⟩ := id P
  have hz := hL.1
  have hzr := hY.1
  have ec : ∀ {ρ : Type} {r : Option ρ} {ea er nu : Int32} {s : Nat}, cv (CS fl ea er nu c n s g) 3 9 r = r := fun {ρ} {r} {_ _ _ _} => d_cv hz
  have e0 : ∀ {ea er nu : Int32} {s : Nat}, gR (CS fl ea er nu c n s g) 3 9 0 = some 10 := d_0 hz
  have Bc : ∀ {ea er nu : Int32} {s : Nat}, BdH (CS fl ea er nu c n s g) 10 num al b lat := cs_bd B
  have hn := nxk_le (c := c) hs
  have h2 := W.1.2.2.1
  have hT : tT c n s = 0 := by
    unfold wd at hw
    rw [Bool.and_eq_true] at hw
    exact of_decide_eq_true hw.1
  have hlt := nxk_lt (c := c) (n := n) (s := s) (by omega)
  have exC : m_X3_readPass 9 (CS fl ea er nu c n s g) = if al 2 = 0 then some (false, CS fl (nI s) (-5 : Int32) nu c n s g) else (m_X0_spendPass 10 (CS fl ea er nu c n s g)).bind fun h4 => cv h4 3 9 <| b2 (m_X3_readWord 9 5 h4) fun bb5 h6 => some (bb5, h6) := by
    unfold m_X3_readPass
    rw [e0, Option.bind_some, bd_P Bc, Option.bind_some, iZ (by omega), Option.bind_some, bd_cv Bc, ec, x_fail hL, e_b2]
  have eyC : m_X6_readsPass 20 (RS v m 0 wa c n s A h) = if al 2 = 0 then some (RS v m (-5 : Int32) (nI s) c n s A h) else (m_X6_passes 20 (RS v m 0 wa c n s A h)).bind fun h10 => lyT h10 := by
    unfold m_X6_readsPass
    simp only [e_jK]
    rw [q_a hzr, Option.bind_some, q_a02 hzr ha, Option.bind_some, iZ (by omega)]
    by_cases hp : al 2 = 0
    · rw [if_pos hp, if_pos hp, q_cv hzr, y_fails hzr, Option.bind_some, q_15 hzr, Option.bind_some, if_neg (by decide), q_cv hzr, y_mustW hY (by decide), Option.bind_some, q_cv hzr, y_mEndW hY hs (by decide), Option.bind_some]
    · rw [if_neg hp, if_neg hp, q_15 hzr, Option.bind_some, if_pos rfl, q_cv hzr]
      rfl
  by_cases hp : al 2 = 0
  · rw [if_pos hp] at exC eyC
    rw [exC, eyC]
    exact .inr (JF_mk P hs (by decide))
  · rw [if_neg hp] at exC eyC
    obtain ⟨h', ep, B', K', C', F'⟩ := x_spend (Bc (ea := ea) (er := er) (nu := nu) (s := s)) W hk hp h32 (cs_ch Ch)
    have hb := cs_back hz F'
    have hL' := Lx_fr hL F'
    obtain ⟨A', ey', hA', ha'⟩ := y_passes (v := tkv v (nI s) (nI (tkE c n s)) (nI (tT c n s)) m 0 wa) hzr ha W.1 hp (by omega)
    have hY' := Ly_A hY (hA' 6 (by decide))
    have P' := PIv_step P F' B' K' C' (WfB_psN W (by omega)) psN_3 (by rw [fre_q Lq_psN W.1, psN_3, psN_2]; omega) hA' ha'
    have ec' : ∀ {ρ : Type} {r : Option ρ}, cv h' 3 9 r = r := fun {ρ} {r} => by
      rw [← hb]
      exact d_cv hL'.1
    rw [ep, Option.bind_some, ec', show m_X3_readWord 9 5 h' = _ from (congrArg (m_X3_readWord 9 5) hb.symm).trans (x_rWord hL' hs (by decide)), if_pos hw, e_b2] at exC
    rw [show m_X6_passes 20 (RS v m 0 wa c n s A h) = some (RS v m 0 wa c n s A' h) from ey', Option.bind_some] at eyC
    unfold lyT at eyC
    rw [q_cv hzr, y_must hY' hs, Option.bind_some] at eyC
    exact .inl ⟨_, _, h', A', _, b, _, exC, eyC, hlt, hn.2, P', Lq_psN 0 (by decide) (by decide) (by decide)⟩
end MOV
