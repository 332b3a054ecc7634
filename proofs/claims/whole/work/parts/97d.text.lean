/-! both readers: a whole text -/
def txR {γ : Type} (K : Bool → Hp → Option γ) (H : Hp) : Option γ :=
  cv H 3 9 <| b2 (m_X3_readHead 9 H) fun bb5 h6 =>
  if bb5 = true then
    cv h6 3 9 <| b2 (m_X3_readVertices 9 h6) fun bb13 h14 =>
    if bb13 = true then
      cv h14 3 9 <| b2 (m_X3_readEdges 9 h14) fun bb15 h16 =>
      if bb15 = true then
        cv h16 3 9 <| b2 (m_X3_readMoves 9 h16) fun bb17 h18 =>
        if bb17 = true then
          cv h18 3 9 <| b2 (m_X3_readEnd 9 h18) fun bb19 h20 =>
          if bb19 = true then
            K true h20
          else
            K false h20
        else
          K false h18
      else
        K false h16
    else
      K false h14
  else
    K false h6
def txK (v7 : Bool) (h8 : Hp) : Option (Int32 × Hp) :=
    (pV h8 3 9 1 (.int 0)).bind fun h10 =>
    if v7 = true then
      some ((0 : Int32), h10)
    else
      (gI h10 3 9 5).bind fun x11 =>
      some (x11, h10)
theorem readText_e (p1 : Int32) (h : Hp) : m_X3_readText 9 p1 h = (pV h 3 9 4 (.int p1)).bind fun h1 =>
  (pV h1 3 9 2 (.int (-1))).bind fun h2 =>
  (pV h2 3 9 8 (.int 0)).bind fun h3 =>
  cv h3 3 9 <| (m_X3_advance 9 h3).bind fun h4 => txR txK h4 := by
  unfold m_X3_readText
  simp only [e_jK]
  rfl
section TXA
variable {fB : Nat → Int32} {c : Nat → Nat} {n s : Nat} {v : Nat → Int32} {h g0 g g' : Hp} {A0 A A' : Nat → Nat → Int32} {al b al' b' : Nat → Nat} {fl ea er nu wa wr m : Int32} {num : Nat}
theorem J_text {γ : Type} (K : Bool → Hp → Option γ) (hL : Lx g fB c n) (hY : Ly v A h c n) (S : BdS g 10) (F : Fr g0 g InD 0 0) (h32 : 32 ≤ g.2.1) (hA : ∀ j, j ≠ 0 → A j = A0 j) (hA0 : ∀ k, k < 4136 → A 0 k = 0) (hs : s ≤ n) :
    (∃ (nu' m' : Int32) (g' : Hp) (A' : Nat → Nat → Int32) (al b : Nat → Nat) (s' : Nat), txR K (CS fl ea er nu c n s g) = K true (CS fl ea er nu' c n s' g') ∧ m_X6_reads 20 (RS v m 0 wa c n s A h) = some (RS v m' 0 wa c n s' A' h) ∧ s' ≤ n ∧ PIv fB c n v h g0 g' A0 A' al b ∧ 1 ≤ al 0) ∨
    (∃ (code nu' m' : Int32) (g' : Hp) (A' : Nat → Nat → Int32) (s' : Nat), txR K (CS fl ea er nu c n s g) = K false (CS fl (nI s') code nu' c n s' g') ∧ m_X6_reads 20 (RS v m 0 wa c n s A h) = some (RS v m' code (nI s') c n s' A' h) ∧ code ≠ 0 ∧ s' ≤ n ∧ Fr g0 g' InD 18 90 ∧ BdS g' 10 ∧ ∀ j, j ≠ 0 → A' j = A0 j) := by
  have hn := hL.2.2.1
  have e0 : txR K (CS fl ea er nu c n s g) = b2 (m_X3_readHead 9 (CS fl ea er nu c n s g)) _ := cvd hL.1
  have hYA : ∀ {A' : Nat → Nat → Int32}, (∀ j, j ≠ 0 → A' j = A0 j) → Ly v A' h c n := fun {A'} h' => Ly_A hY ((h' 6 (by decide)).trans (hA 6 (by decide)).symm)
  rcases J_head (fl := fl) (ea := ea) (er := er) (wa := wa) (nu := nu) (m := m) hL hY S F h32 hA hA0 hs with ⟨nu1, m1, g1, A1, al1, b1, s1, x1, y1, hN1, hs1, P1, hR1, h01⟩ | ⟨code, nu1, m1, g1, A1, s1, x1, y1, hc, hs1, F1, S1, hA1⟩
  · rw [x1, e_b2, if_pos rfl, cvd P1.1.1] at e0
    by_cases hw : wd c n s1 2 = true
    · obtain ⟨R2, r2, j2⟩ := J_vs0 (fl := fl) (ea := ea) (er := er) (wa := wa) (nu := nu1) (m := m1) P1 hR1 hs1 hw h01
      have y2 : m_X6_reads 20 (RS v m 0 wa c n s A h) = m_X6_reads_L83 20
            (fun h20 => (
              m_X6_reads_L99 20
                (fun h25 => (
                  (gI h25 6 20 15).bind fun x35 =>
                  if x35 = 0 then
                    (gI h25 6 20 13).bind fun x36 =>
                    if x36 = (3 : Int32) then
                      some h25
                    else
                      cv h25 6 20 <| (m_X6_fails 20 (-2 : Int32) h25).bind fun h37 =>
                      some h37
                  else
                    some h25
                ))
                LF h20
            ))
            LF R2 := by
        rw [y1]
        unfold rdT10
        rw [q_cv hY.1, y_word P1.2.1 hs1 (by decide), hw, Option.bind_some, if_pos rfl]
        unfold rdT12
        rw [r2]
      rcases j2 with ⟨nu2, m2, g2, A2, al2, b2', s2, x2, e2, hN2, hs2, P2, hR2, h12, -⟩ | ⟨code, nu2, m2, g2, A2, s2, x2, e2, hc, hs2, F2, S2, hA2⟩
      · obtain rfl := Option.some.inj e2
        rw [x2, e_b2, if_pos rfl, cvd P2.1.1] at e0
        obtain ⟨R3, r3, j3⟩ := J_es (fl := fl) (ea := ea) (er := er) (wa := wa) n LF LF 0 s2 nu2 m2 g2 A2 al2 b2' P2 hR2 hs2 hN2 (by omega) (by unfold LF; omega) (by unfold LF; omega) (Nat.zero_le _) h12
        rw [r3] at y2
        unfold m_X3_readEdges at e0
        rcases j3 with ⟨nu3, m3, g3, A3, al3, b3, s3, x3, e3, hN3, hs3, P3, h13⟩ | ⟨code, nu3, m3, g3, A3, s3, x3, e3, hc, hs3, F3, S3, hA3⟩
        · obtain rfl := Option.some.inj e3
          rw [show m_X3_readEdges_L4 9 (fun v4 h5 => some (v4, h5)) LF true (0 : Int32) (CS fl ea er nu2 c n s2 g2) = _ from x3, e_b2, if_pos rfl, cvd P3.1.1] at e0
          obtain ⟨R4, r4, j4⟩ := J_ms (fl := fl) (ea := ea) (er := er) (wa := wa) n LF LF 0 s3 nu3 m3 g3 A3 al3 b3 P3 hs3 hN3 (by omega) (by unfold LF; omega) (by unfold LF; omega) (Nat.zero_le _) h13
          rw [r4] at y2
          unfold m_X3_readMoves at e0
          rcases j4 with ⟨nu4, m4, g4, A4, al4, b4, s4, x4, e4, hN4, hs4, P4, h14⟩ | ⟨code, nu4, m4, g4, A4, s4, x4, e4, hc, hs4, F4, S4, hA4⟩
          · obtain rfl := Option.some.inj e4
            have hk4 := ckd_T (c := c) (n := n) (s := s4)
            rw [show m_X3_readMoves_L4 9 (fun v4 h5 => some (v4, h5)) LF true (0 : Int32) (CS fl ea er nu3 c n s3 g3) = _ from x4, e_b2, if_pos rfl, cvd P4.1.1, x_rEnd P4.1] at e0
            rw [q_15 hY.1, Option.bind_some, if_pos rfl, q_13 hY.1, Option.bind_some] at y2
            by_cases hT : tT c n s4 = 3
            · rw [if_pos hT, e_b2, if_pos rfl] at e0
              rw [if_pos (show nI (tT c n s4) = (3 : Int32) by rw [hT]; rfl)] at y2
              exact .inl ⟨_, _, g4, A4, al4, b4, s4, e0, y2, hs4, P4, h14⟩
            · rw [if_neg hT, e_b2, if_neg (by decide)] at e0
              rw [if_neg (nI_neL (x := (3 : Int32)) (b := 3) (by omega) (by decide) rfl hT), q_cv hY.1, y_fails hY.1, Option.bind_some] at y2
              obtain ⟨_, _, ⟨num, lat, B, _⟩, _, _, _, h18, F4, _, hA4⟩ := P4
              exact .inr ⟨_, _, _, g4, A4, s4, e0, y2, by decide, hs4, Fr_mono F4 (fun _ e => e) (by omega) (by omega), BdH_S B, hA4⟩
          · obtain rfl := Option.some.inj e4
            rw [show m_X3_readMoves_L4 9 (fun v4 h5 => some (v4, h5)) LF true (0 : Int32) (CS fl ea er nu3 c n s3 g3) = _ from x4, e_b2, if_neg (by decide)] at e0
            rw [q_15 hY.1, Option.bind_some, if_neg hc] at y2
            exact .inr ⟨code, _, _, g4, A4, s4, e0, y2, hc, hs4, F4, S4, hA4⟩
        · obtain rfl := Option.some.inj e3
          rw [show m_X3_readEdges_L4 9 (fun v4 h5 => some (v4, h5)) LF true (0 : Int32) (CS fl ea er nu2 c n s2 g2) = _ from x3, e_b2, if_neg (by decide)] at e0
          rw [W99 (hYA hA3) hc (by unfold LF; omega), q_15 hY.1, Option.bind_some, if_neg hc] at y2
          exact .inr ⟨code, _, _, g3, A3, s3, e0, y2, hc, hs3, F3, S3, hA3⟩
      · obtain rfl := Option.some.inj e2
        rw [x2, e_b2, if_neg (by decide)] at e0
        rw [W83 (hYA hA2) hc (by unfold LF; omega), W99 (hYA hA2) hc (by unfold LF; omega), q_15 hY.1, Option.bind_some, if_neg hc] at y2
        exact .inr ⟨code, _, _, g2, A2, s2, e0, y2, hc, hs2, F2, S2, hA2⟩
    · have hw' := Bool.eq_false_iff.mpr hw
      have xv : m_X3_readVertices 9 (CS fl ea er nu1 c n s1 g1) = some (false, CS fl (nI s1) (-2 : Int32) nu1 c n s1 g1) := by
        have xw : m_X3_readVertex 9 (CS fl ea er nu1 c n s1 g1) = some (false, CS fl (nI s1) (-2 : Int32) nu1 c n s1 g1) := by
          unfold m_X3_readVertex
          simp only [e_jK]
          rw [cvd P1.1.1, x_word P1.1 hs1 (by decide), hw', Option.bind_some, if_neg (by decide), cvd P1.1.1, x_rWord P1.1 hs1 (by decide), if_neg hw, e_b2, if_neg (by decide)]
        unfold m_X3_readVertices
        rw [cvd P1.1.1, xw, e_b2, C7F (by unfold LF; omega)]
      rw [xv, e_b2, if_neg (by decide)] at e0
      have y2 : m_X6_reads 20 (RS v m 0 wa c n s A h) = some (RS v m1 (-2 : Int32) (nI s1) c n s1 A1 h) := by
        rw [y1]
        unfold rdT10
        rw [q_cv hY.1, y_word P1.2.1 hs1 (by decide), hw', Option.bind_some, if_neg (by decide), q_cv hY.1, y_fails hY.1, Option.bind_some, rdT12_W P1.2.1 (by decide)]
      obtain ⟨_, _, ⟨num, lat, B, _⟩, _, _, _, h18, F4, _, hA4⟩ := P1
      exact .inr ⟨_, _, _, g1, A1, s1, e0, y2, by decide, hs1, Fr_mono F4 (fun _ e => e) (by omega) (by omega), BdH_S B, hA4⟩
  · rw [x1, e_b2, if_neg (by decide)] at e0
    exact .inr ⟨code, nu1, m1, g1, A1, s1, e0, y1, hc, hs1, F1, S1, hA1⟩
/-- the class's reading of a text and the reference's -/
theorem T_text {ln kd st en k sr : Int32} (hL : Lx g fB c n) (hY : Ly v A h c n) (S : BdS g 10) (F : Fr g0 g InD 0 0) (h32 : 32 ≤ g.2.1) (hA : ∀ j, j ≠ 0 → A j = A0 j) (hA0 : ∀ k, k < 4136 → A 0 k = 0) :
    (∃ (kd' st' en' nu' m' : Int32) (g' : Hp) (A' : Nat → Nat → Int32) (al b : Nat → Nat) (s' : Nat), m_X3_readText 9 (nI n) (setD fl ea ln er kd st en nu g) = some (0, setD 0 (-1 : Int32) (nI n) er kd' st' en' nu' g') ∧ (∃ R1, m_X6_next 20 (setR (tkv v sr (nI 0) k m 0 wa) A h) = some R1 ∧ (∀ {ρ : Type} {r : Option ρ}, cv R1 6 20 r = r) ∧ m_X6_reads 20 R1 = some (RS v m' 0 wa c n s' A' h)) ∧ PIv fB c n v h g0 g' A0 A' al b ∧ 1 ≤ al 0) ∨
    (∃ (code kd' st' en' nu' m' : Int32) (g' : Hp) (A' : Nat → Nat → Int32) (s' : Nat), m_X3_readText 9 (nI n) (setD fl ea ln er kd st en nu g) = some (code, setD 0 (nI s') (nI n) code kd' st' en' nu' g') ∧ (∃ R1, m_X6_next 20 (setR (tkv v sr (nI 0) k m 0 wa) A h) = some R1 ∧ (∀ {ρ : Type} {r : Option ρ}, cv R1 6 20 r = r) ∧ m_X6_reads 20 R1 = some (RS v m' code (nI s') c n s' A' h)) ∧ code ≠ 0 ∧ s' ≤ n ∧ Fr g0 g' InD 18 90 ∧ BdS g' 10 ∧ ∀ j, j ≠ 0 → A' j = A0 j) := by
  have hz := hL.1
  have hs : tS c n 0 ≤ n := (tS_le (Nat.zero_le n)).2
  have ey : m_X6_next 20 (setR (tkv v sr (nI 0) k m 0 wa) A h) = some (RS v (nuR c n (tS c n 0) m) 0 wa c n (tS c n 0) A h) := y_next hY (Nat.zero_le n) rfl
  have ex : m_X3_readText 9 (nI n) (setD fl ea ln er kd st en nu g) = txR txK (CS fl (-1 : Int32) er (nuC c n (tS c n 0) nu) c n (tS c n 0) g) := by
    have ea : m_X3_advance 9 (setD fl (-1 : Int32) (nI n) er kd st (nI 0) nu g) = some (CS fl (-1 : Int32) er (nuC c n (tS c n 0) nu) c n (tS c n 0) g) := x_advance hL (Nat.zero_le n) rfl
    rw [readText_e, d_p4 hz, Option.bind_some, d_p2 hz, Option.bind_some, d_p8 hz, Option.bind_some, d_cv hz, i0, ea, Option.bind_some]
  rcases J_text (fl := fl) (ea := (-1 : Int32)) (er := er) (wa := wa) (nu := nuC c n (tS c n 0) nu) (m := nuR c n (tS c n 0) m) txK hL hY S F h32 hA hA0 hs with ⟨nu', m', g', A', al, b, s', x1, y1, h1, P, h2⟩ | ⟨code, nu', m', g', A', s', x1, y1, hc, h1, F1, S1, hA1⟩
  · refine .inl ⟨nI (ckd c n s'), nI s', nI (tkE c n s'), nu', m', g', A', al, b, s', ?_, ⟨_, ey, fun {ρ} {r} => q_cv hY.1, y1⟩, P, h2⟩
    rw [ex, x1]
    unfold txK CS
    rw [d_p1 P.1.1, Option.bind_some, if_pos rfl]
  · have hg9 : 9 < g'.2.1 := by
      obtain ⟨_, hx⟩ := S1.2.1
      have := hx.1
      omega
    refine .inr ⟨code, nI (ckd c n s'), nI s', nI (tkE c n s'), nu', m', g', A', s', ?_, ⟨_, ey, fun {ρ} {r} => q_cv hY.1, y1⟩, hc, h1, F1, S1, hA1⟩
    rw [ex, x1]
    unfold txK CS
    rw [d_p1 hg9, Option.bind_some, if_neg (by decide), d_5 hg9, Option.bind_some]
end TXA
