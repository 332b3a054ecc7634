/-! both readers: the head, and a whole text -/
def rdT12 (h12 : Hp) : Option Hp :=
      m_X6_reads_L67 20
        (fun h15 => (
          m_X6_reads_L83 20
            (fun h20 => (
              m_X6_reads_L99 20
                (fun h25 => (
                  (gI h25 6 20 15).bind fun x35 =>
                  if x35 = 0 then
                    (gI h25 6 20 13).bind fun x36 =>
                    if x36 = (3 : Int32) then
                      some h25
                    else
                      cv h25 6 20 <| (m_X6_fails 20 (-2 : Int32) h25).bind fun h37 =>
                      some h37
                  else
                    some h25
                ))
                LF h20
            ))
            LF h15
        ))
        LF h12
def rdT10 (h10 : Hp) : Option Hp :=
    cv h10 6 20 <| (m_X6_isWord 20 2 h10).bind fun bb11 =>
    if bb11 = true then
      rdT12 h10
    else
      cv h10 6 20 <| (m_X6_fails 20 (-2 : Int32) h10).bind fun h40 =>
      rdT12 h40
def rdT9 (h8 : Hp) : Option Hp := cv h8 6 20 <| (m_X6_mustEnd 20 h8).bind fun h10 => rdT10 h10
def rdT6 (h6 : Hp) : Option Hp :=
  cv h6 6 20 <| (m_X6_isWord 20 1 h6).bind fun bb7 =>
  if bb7 = true then
    cv h6 6 20 <| (m_X6_next 20 h6).bind fun h42 =>
    (gR h42 6 20 0).bind fun a43 =>
    cv h42 6 20 <| b2 (m_X6_takes 20 (0 : Int32) (9 : Int32) h42) fun x44 h45 =>
    (sI h45 0 a43 (2 : Int32) x44).bind fun h46 =>
    rdT9 h46
  else
    rdT9 h6
theorem reads_e (H : Hp) : m_X6_reads 20 H = (cv H 6 20 <| (m_X6_isWord 20 0 H).bind fun bb1 =>
  cv H 6 20 <| (m_X6_must 20 bb1 H).bind fun h2 =>
  (gR h2 6 20 0).bind fun a3 =>
  cv h2 6 20 <| b2 (m_X6_takes 20 (1 : Int32) (3 : Int32) h2) fun x4 h5 =>
  (sI h5 0 a3 (1 : Int32) x4).bind fun h6 =>
  rdT6 h6) := by
  unfold m_X6_reads
  simp only [e_jK]
  rfl
theorem Rg_H {C P : Nat} (hC : C ≤ 3) (hP : P ≤ 9) : Rg (alH C P) := by
  have z : ∀ {k}, k ≠ 1 → k ≠ 2 → alH C P k = 0 := alH_0
  refine ⟨by rw [z (by decide) (by decide)]; decide, hC, hP, by rw [z (by decide) (by decide)]; decide, fun v hv => ?_, fun v w hv hw => ?_, fun v hv hn => ?_, fun v hv c hb => ?_⟩
  · rw [z (by omega) (by omega), z (by omega) (by omega), z (by omega) (by omega), z (by omega) (by omega)]
    decide
  · rw [z (by omega) (by omega), Nat.zero_testBit] at hw
    cases hw
  · rw [z (by omega) (by omega), z (by omega) (by omega)]
    exact ⟨rfl, rfl⟩
  · rw [z (by omega) (by omega), Nat.zero_testBit] at hb
    cases hb
section TXT
variable {fB : Nat → Int32} {c : Nat → Nat} {n s : Nat} {v : Nat → Int32} {h g0 g g' : Hp} {A0 A A' : Nat → Nat → Int32} {al b al' b' : Nat → Nat} {fl ea er nu wa wr m : Int32} {num : Nat}
theorem rdT12_W (hL : Ly v A h c n) (hw : wr ≠ 0) : rdT12 (RS v m wr wa c n s A h) = some (RS v m wr wa c n s A h) := by
  unfold rdT12
  rw [W67 hL hw (by unfold LF; omega), W83 hL hw (by unfold LF; omega), W99 hL hw (by unfold LF; omega), q_15 hL.1, Option.bind_some, if_neg hw]
theorem rdT10_W (hL : Ly v A h c n) (hw : wr ≠ 0) : rdT10 (RS v m wr wa c n s A h) = some (RS v m wr wa c n s A h) := by
  unfold rdT10
  rw [q_cv hL.1, y_wordW hL hw, Option.bind_some, if_neg (by decide), q_cv hL.1, y_failsW hL.1 hw, Option.bind_some, rdT12_W hL hw]
theorem rdT9_W (hL : Ly v A h c n) (hs : s ≤ n) (hw : wr ≠ 0) : rdT9 (RS v m wr wa c n s A h) = some (RS v m wr wa c n s A h) := by
  unfold rdT9
  rw [q_cv hL.1, y_mEndW hL hs hw, Option.bind_some, rdT10_W hL hw]
theorem rdT6_W (hL : Ly v A h c n) (hs : s ≤ n) (hw : wr ≠ 0) : rdT6 (RS v m wr wa c n s A h) = some (RS v m wr wa c n s A h) := by
  unfold rdT6
  rw [q_cv hL.1, y_wordW hL hw, Option.bind_some, if_neg (by decide), rdT9_W hL hs hw]
theorem updA_o {i k j : Nat} {x : Int32} (hj : j ≠ i) : updA A i k x j = A j := if_neg hj
/-- the head's semicolon -/
theorem J_hend {C P : Nat} (hL : Lx g fB c n) (hY : Ly v A h c n) (B : BdH g 10 num (alH C P) (fun _ => 0) none) (ha : AlF A (alH C P)) (hC : C ≤ 3) (hC1 : 1 ≤ C) (hP : P ≤ 9) (F : Fr g0 g InD 0 0) (h32 : 32 ≤ g.2.1) (hA : ∀ j, j ≠ 0 → A j = A0 j) (hs : s ≤ n) {cls : Option (Bool × Hp)} {ref : Option Hp} (ec : cls = m_X3_readSemicolon 9 (CS fl ea er nu c n s g)) (ey : ref = rdT9 (RS v m 0 wa c n s A h)) :
    (∃ (nu' m' : Int32) (g' : Hp) (A' : Nat → Nat → Int32) (al b : Nat → Nat) (s' : Nat), cls = some (true, CS fl ea er nu' c n s' g') ∧ ref = rdT10 (RS v m' 0 wa c n s' A' h) ∧ NuOk c n s' nu' m' ∧ s' ≤ n ∧ PIv fB c n v h g0 g' A0 A' al b ∧ RawB al b ∧ al 0 = 0) ∨ JF fl c n v h g0 A0 cls ref := by
  have z : ∀ {k}, k ≠ 1 → k ≠ 2 → alH C P k = 0 := alH_0
  have hR : RawB (alH C P) (fun _ => 0) := ⟨z (by decide) (by decide), fun v hv => ⟨z (by omega) (by omega), z (by omega) (by omega)⟩, fun _ _ => rfl⟩
  have hz0 : alH C P 0 = 0 := z (by decide) (by decide)
  have hz3 : alH C P 3 = 0 := z (by decide) (by decide)
  obtain ⟨W, K⟩ := RawB_W hR (Rg_H hC hP) hC1 (by rw [hz0, Nat.pow_zero]; decide)
  have hp := pop_le (s := fre (alH C P))
  have P' : PIv fB c n v h g0 g A0 A (alH C P) (fun _ => 0) := by
    refine ⟨hL, hY, ⟨num, none, B, by rw [hz3]; rfl⟩, K, ha, W, ?_, by rw [hz3]; exact F, h32, hA⟩
    have : alH C P 2 = P := rfl
    omega
  rw [x_rSemi hL hs] at ec
  unfold rdT9 at ey
  rw [q_cv hY.1, y_mEnd hY hs, Option.bind_some] at ey
  by_cases h2 : tT c n s = 2 ∧ c s = 59
  · rw [if_pos h2] at ec ey
    exact .inl ⟨_, _, g, A, _, _, _, ec, ey, NuOk_n, (nxk_le hs).2, P', hR, hz0⟩
  · rw [if_neg h2] at ec ey
    rw [rdT10_W hY (by decide)] at ey
    rw [ec, ey]
    exact .inr (JF_mk P' hs (by decide))
theorem J_head (hL : Lx g fB c n) (hY : Ly v A h c n) (S : BdS g 10) (F : Fr g0 g InD 0 0) (h32 : 32 ≤ g.2.1) (hA : ∀ j, j ≠ 0 → A j = A0 j) (hA0 : ∀ k, k < 4136 → A 0 k = 0) (hs : s ≤ n) :
    (∃ (nu' m' : Int32) (g' : Hp) (A' : Nat → Nat → Int32) (al b : Nat → Nat) (s' : Nat), m_X3_readHead 9 (CS fl ea er nu c n s g) = some (true, CS fl ea er nu' c n s' g') ∧ m_X6_reads 20 (RS v m 0 wa c n s A h) = rdT10 (RS v m' 0 wa c n s' A' h) ∧ NuOk c n s' nu' m' ∧ s' ≤ n ∧ PIv fB c n v h g0 g' A0 A' al b ∧ RawB al b ∧ al 0 = 0) ∨ JF fl c n v h g0 A0 (m_X3_readHead 9 (CS fl ea er nu c n s g)) (m_X6_reads 20 (RS v m 0 wa c n s A h)) := by
  have hz := hL.1
  have hzr := hY.1
  have hF18 : ∀ {g' : Hp}, Fr g0 g' InD 0 0 → Fr g0 g' InD 18 90 := fun f => Fr_mono f (fun _ e => e) (by omega) (by omega)
  have ex0 := x_rWord (fl := fl) (ea := ea) (er := er) (nu := nu) hL hs (show 0 < 6 by decide)
  by_cases hw : wd c n s 0 = true
  · rw [if_pos hw] at ex0
    have eyA := y_must (m := m) (wa := wa) hY hs
    have hn := nxk_le (c := c) hs
    have hN1 : NuOk c n (nxk c n s) (nuC c n (nxk c n s) nu) (nuR c n (nxk c n s) m) := NuOk_n
    generalize nxk c n s = s1 at hn hN1 ex0 eyA
    generalize nuC c n s1 nu = nu1 at hN1 ex0
    generalize nuR c n s1 m = m1 at hN1 eyA
    have hn2 := nxk_le (c := c) hn.2
    have exB : m_X3_readNumber 9 (1 : Int32) (3 : Int32) (CS fl ea er nu1 c n s1 g) = _ := x_rNum (lo := 1) (hi := 3) hL hn.2 hN1 (by decide) (by decide)
    have eyB : m_X6_takes 20 (1 : Int32) (3 : Int32) (RS v m1 0 wa c n s1 A h) = _ := y_takes (lo := 1) (hi := 3) hY hn.2 hN1 (by decide) (by decide)
    have ex1 : m_X3_readHead 9 (CS fl ea er nu c n s g) = b2 (m_X3_readNumber 9 (1 : Int32) (3 : Int32) (CS fl ea er nu1 c n s1 g)) fun x3 h4 =>
    if x3 = (-1 : Int32) then
      some (false, h4)
    else
      (gR h4 3 9 0).bind fun a5 =>
      cv h4 0 a5 <| (m_X0_startEmpty a5 x3 h4).bind fun h6 =>
      cv h6 3 9 <| (m_X3_atWord 9 1 h6).bind fun bb7 =>
      if bb7 = true then
        cv h6 3 9 <| (m_X3_advance 9 h6).bind fun h12 =>
        cv h12 3 9 <| b2 (m_X3_readNumber 9 (0 : Int32) (9 : Int32) h12) fun x13 h14 =>
        if x13 = (-1 : Int32) then
          some (false, h14)
        else
          (gR h14 3 9 0).bind fun a15 =>
          (pV h14 0 a15 3 (.int x13)).bind fun h16 =>
          cv h16 3 9 <| b2 (m_X3_readSemicolon 9 h16) fun bb10 h11 =>
          some (bb10, h11)
      else
        cv h6 3 9 <| b2 (m_X3_readSemicolon 9 h6) fun bb10 h11 =>
        some (bb10, h11) := by
      unfold m_X3_readHead
      simp only [e_jK]
      rw [cvd hz, ex0, e_b2, if_pos rfl, cvd hz]
    have ey1 : m_X6_reads 20 (RS v m 0 wa c n s A h) = b2 (m_X6_takes 20 (1 : Int32) (3 : Int32) (RS v m1 0 wa c n s1 A h)) fun x4 h5 => (sI h5 0 21 (1 : Int32) x4).bind fun h6 => rdT6 h6 := by
      rw [reads_e, q_cv hzr, y_word hY hs (by decide), hw, Option.bind_some, q_cv hzr, eyA, Option.bind_some, q_a hzr, Option.bind_some, q_cv hzr]
    by_cases hT1 : tT c n s1 = 1 ∧ 1 ≤ tR c n s1 ∧ tR c n s1 ≤ 3
    · rw [if_pos hT1.1, if_pos hT1.2] at exB eyB
      generalize nxk c n s1 = s2 at hn2 exB eyB
      generalize nuC c n s2 nu1 = nu2 at exB
      generalize nuR c n s2 m1 = m2 at eyB
      have hC := hT1.2
      generalize tR c n s1 = C at hC exB eyB
      have S2 : BdS (CS fl ea er nu2 c n s2 g) 10 := by
        obtain ⟨⟨_, _, _, _, _, _, _, t0⟩, ⟨_, t1⟩, ⟨_, t2⟩, ⟨_, t3⟩, ⟨_, t4⟩⟩ := S
        exact ⟨⟨_, _, _, _, _, _, _, at_set_ne t0 (by decide)⟩, ⟨_, at_set_ne t1 (by decide)⟩, ⟨_, at_set_ne t2 (by decide)⟩, ⟨_, at_set_ne t3 (by decide)⟩, ⟨_, at_set_ne t4 (by decide)⟩⟩
      obtain ⟨g1, num, ep, B1, F1⟩ := x_startEmpty (C := C) S2
      have hb := cs_back hz F1
      have hL1 := Lx_fr hL F1
      have Fg := Fr_cs F F1
      have h321 := Nat.le_trans h32 F1.1
      have ep' : m_X0_startEmpty 10 (nI C) (CS fl ea er nu2 c n s2 g) = some (CS fl ea er nu2 c n s2 g1) := ep.trans (congrArg some hb.symm)
      have hcv0 : ∀ {ρ : Type} {r : Option ρ}, cv (CS fl ea er nu2 c n s2 g) 0 10 r = r := fun {ρ} {r} => by
        obtain ⟨_, _, _, _, _, _, _, t0⟩ := S2.1
        exact at_cv t0
      have hA1 : AlF (updA A 0 1 (nI C)) (alH C 0) := fun k hk => by
        show (if k = 1 then nI C else A 0 k) = nI (if k = 1 then C else if k = 2 then 0 else 0)
        by_cases h1 : k = 1
        · rw [if_pos h1, if_pos h1]
        · rw [if_neg h1, if_neg h1, hA0 k hk]
          by_cases h2 : k = 2
          · rw [if_pos h2]; rfl
          · rw [if_neg h2]; rfl
      have hY1 : Ly v (updA A 0 1 (nI C)) h c n := Ly_A hY (updA_o (by decide))
      have hA1' : ∀ j, j ≠ 0 → updA A 0 1 (nI C) j = A0 j := fun j hj => (updA_o hj).trans (hA j hj)
      rw [exB, e_b2, if_neg (nI_nm1 (by omega)), show gR (CS fl ea er nu2 c n s2 g) 3 9 0 = some 10 from d_0 hz, Option.bind_some, hcv0, ep', Option.bind_some, cvd hL1.1, x_word hL1 hn2.2 (by decide), Option.bind_some] at ex1
      rw [eyB, e_b2, q_s01 hzr, Option.bind_some] at ey1
      unfold rdT6 at ey1
      rw [q_cv hzr, y_word hY1 hn2.2 (by decide), Option.bind_some] at ey1
      by_cases hw1 : wd c n s2 1 = true
      · have hn3 := nxk_le (c := c) hn2.2
        have hN3 : NuOk c n (nxk c n s2) (nuC c n (nxk c n s2) nu2) (nuR c n (nxk c n s2) m2) := NuOk_n
        rw [if_pos hw1, cvd hL1.1, x_adv hL1 hn2.2, Option.bind_some, cvd hL1.1] at ex1
        rw [if_pos hw1, q_cv hzr, y_nxt hY1 hn2.2, Option.bind_some, q_a hzr, Option.bind_some, q_cv hzr] at ey1
        generalize nxk c n s2 = s3 at hn3 hN3 ex1 ey1
        generalize nuC c n s3 nu2 = nu3 at hN3 ex1
        generalize nuR c n s3 m2 = m3 at hN3 ey1
        have hn4 := nxk_le (c := c) hn3.2
        have exD : m_X3_readNumber 9 (0 : Int32) (9 : Int32) (CS fl ea er nu3 c n s3 g1) = _ := x_rNum0 (hi := 9) hL1 hn3.2 hN3 (by decide)
        have eyD : m_X6_takes 20 (0 : Int32) (9 : Int32) (RS v m3 0 wa c n s3 (updA A 0 1 (nI C)) h) = _ := y_takes0 (hi := 9) hY1 hn3.2 hN3 (by decide)
        by_cases hT3 : tT c n s3 = 1 ∧ tR c n s3 ≤ 9
        · rw [if_pos hT3.1, if_pos hT3.2] at exD eyD
          generalize nxk c n s3 = s4 at hn4 exD eyD
          generalize nuC c n s4 nu3 = nu4 at exD
          generalize nuR c n s4 m3 = m4 at eyD
          have hP := hT3.2
          generalize tR c n s3 = P at hP exD eyD
          obtain ⟨g2, eq, B2, F2⟩ := x_setP (P := P) (cs_bd (fl := fl) (ea := ea) (er := er) (nu := nu4) (c := c) (n := n) (s := s4) B1)
          have hb2 := cs_back hL1.1 F2
          have hL2 := Lx_fr hL1 F2
          have eq' : pV (CS fl ea er nu4 c n s4 g1) 0 10 3 (.int (nI P)) = some (CS fl ea er nu4 c n s4 g2) := eq.trans (congrArg some hb2.symm)
          rw [exD, e_b2, if_neg (nI_nm1 (by omega)), show gR (CS fl ea er nu4 c n s4 g1) 3 9 0 = some 10 from d_0 hL1.1, Option.bind_some, eq', Option.bind_some, cvd hL2.1, x_rSemi hL2 hn4.2, e_b2] at ex1
          rw [eyD, e_b2, q_s02 hzr, Option.bind_some] at ey1
          have hA2 : AlF (updA (updA A 0 1 (nI C)) 0 2 (nI P)) (alH C P) := fun k hk => by
            have e1 := hA1 k hk
            show (if k = 2 then nI P else updA A 0 1 (nI C) 0 k) = nI (if k = 1 then C else if k = 2 then P else 0)
            by_cases h2 : k = 2
            · rw [if_pos h2, if_neg (by omega), if_pos h2]
            · rw [if_neg h2, if_neg h2, e1]
              show nI (if k = 1 then C else if k = 2 then 0 else 0) = _
              rw [if_neg h2]
          exact J_hend (fl := fl) (ea := ea) (er := er) (wa := wa) (nu := nu4) (m := m4) hL2 (Ly_A hY1 (updA_o (by decide))) B2 hA2 hC.2 hC.1 hP (Fr_cs Fg F2) (Nat.le_trans h321 F2.1) (fun j hj => (updA_o hj).trans (hA1' j hj)) hn4.2 (ex1.trans (x_rSemi hL2 hn4.2).symm) ey1
        · obtain ⟨code, hc0, exB', eyB'⟩ : ∃ code : Int32, code ≠ 0 ∧ m_X3_readNumber 9 (0 : Int32) (9 : Int32) (CS fl ea er nu3 c n s3 g1) = some ((-1 : Int32), CS fl (nI s3) code nu3 c n s3 g1) ∧ m_X6_takes 20 (0 : Int32) (9 : Int32) (RS v m3 0 wa c n s3 (updA A 0 1 (nI C)) h) = some (0, RS v m3 code (nI s3) c n s3 (updA A 0 1 (nI C)) h) := by
            by_cases h1 : tT c n s3 = 1
            · rw [if_pos h1, if_neg (fun e => hT3 ⟨h1, e⟩)] at exD eyD
              exact ⟨_, by decide, exD, eyD⟩
            · rw [if_neg h1] at exD eyD
              exact ⟨_, by decide, exD, eyD⟩
          rw [exB', e_b2, if_pos rfl] at ex1
          rw [eyB', e_b2, q_s02 hzr, Option.bind_some, rdT9_W (Ly_A hY1 (updA_o (by decide))) hn3.2 hc0] at ey1
          rw [ex1, ey1]
          exact .inr ⟨code, nu3, m3, g1, _, s3, rfl, rfl, hc0, hn3.2, hF18 Fg, BdH_S B1, fun j hj => (updA_o hj).trans (hA1' j hj)⟩
      · rw [if_neg hw1, cvd hL1.1, x_rSemi hL1 hn2.2, e_b2] at ex1
        rw [if_neg hw1] at ey1
        exact J_hend (fl := fl) (ea := ea) (er := er) (wa := wa) (nu := nu2) (m := m2) hL1 hY1 B1 hA1 hC.2 hC.1 (by decide) Fg h321 hA1' hn2.2 (ex1.trans (x_rSemi hL1 hn2.2).symm) ey1
    · obtain ⟨code, hc0, exB', eyB'⟩ : ∃ code : Int32, code ≠ 0 ∧ m_X3_readNumber 9 (1 : Int32) (3 : Int32) (CS fl ea er nu1 c n s1 g) = some ((-1 : Int32), CS fl (nI s1) code nu1 c n s1 g) ∧ m_X6_takes 20 (1 : Int32) (3 : Int32) (RS v m1 0 wa c n s1 A h) = some (0, RS v m1 code (nI s1) c n s1 A h) := by
        by_cases h1 : tT c n s1 = 1
        · rw [if_pos h1, if_neg (fun e => hT1 ⟨h1, e⟩)] at exB eyB
          exact ⟨_, by decide, exB, eyB⟩
        · rw [if_neg h1] at exB eyB
          exact ⟨_, by decide, exB, eyB⟩
      rw [exB', e_b2, if_pos rfl] at ex1
      rw [eyB', e_b2, q_s01 hzr, Option.bind_some, rdT6_W (Ly_A hY (updA_o (by decide))) hn.2 hc0] at ey1
      rw [ex1, ey1]
      exact .inr ⟨code, nu1, m1, g, _, s1, rfl, rfl, hc0, hn.2, hF18 F, S, fun j hj => (updA_o hj).trans (hA j hj)⟩
  · rw [if_neg hw] at ex0
    have ex1 : m_X3_readHead 9 (CS fl ea er nu c n s g) = some (false, CS fl (nI s) (-2 : Int32) nu c n s g) := by
      unfold m_X3_readHead
      rw [cvd hz, ex0, e_b2, if_neg (by decide)]
    have ey1 : m_X6_reads 20 (RS v m 0 wa c n s A h) = some (RS v m (-2 : Int32) (nI s) c n s (updA A 0 1 0) h) := by
      rw [reads_e, q_cv hzr, y_word hY hs (by decide), Bool.eq_false_iff.mpr hw, Option.bind_some, q_cv hzr, y_mustF hY, Option.bind_some, q_a hzr, Option.bind_some, q_cv hzr, y_takesW hY (by decide), e_b2, q_s01 hzr, Option.bind_some, rdT6_W (Ly_A hY (updA_o (by decide))) hs (by decide)]
    rw [ex1, ey1]
    exact .inr ⟨_, nu, m, g, _, s, rfl, rfl, by decide, hs, hF18 F, S, fun j hj => (updA_o hj).trans (hA j hj)⟩
end TXT
