/-! both readers: the runs of vertices, edges, moves -/
section RUN
variable {fB : Nat → Int32} {c : Nat → Nat} {n s : Nat} {v : Nat → Int32} {h g0 g g' : Hp} {A0 A A' : Nat → Nat → Int32} {al b al' b' : Nat → Nat} {fl ea er nu wa wr m : Int32}
theorem cvd (hz : 9 < g.2.1) {ρ : Type} {r : Option ρ} : cv (CS fl ea er nu c n s g) 3 9 r = r := d_cv hz
theorem Fr_lt {k k' : Nat} (F : Fr g0 g InD k k') (hz : 9 < g0.2.1) : 9 < g.2.1 := Nat.lt_of_lt_of_le hz F.1
theorem W67 (hL : Ly v A h c n) (hw : wr ≠ 0) {F : Nat} (hF : 0 < F) {kk : Hp → Option Hp} : m_X6_reads_L67 20 kk F (RS v m wr wa c n s A h) = kk (RS v m wr wa c n s A h) := by
  obtain ⟨F, rfl⟩ : ∃ k, F = k + 1 := ⟨F - 1, by omega⟩
  rw [m_X6_reads_L67, q_cv hL.1, y_wordW hL hw, Option.bind_some, if_neg (by decide)]
theorem W83 (hL : Ly v A h c n) (hw : wr ≠ 0) {F : Nat} (hF : 0 < F) {kk : Hp → Option Hp} : m_X6_reads_L83 20 kk F (RS v m wr wa c n s A h) = kk (RS v m wr wa c n s A h) := by
  obtain ⟨F, rfl⟩ : ∃ k, F = k + 1 := ⟨F - 1, by omega⟩
  rw [m_X6_reads_L83, q_cv hL.1, y_wordW hL hw, Option.bind_some, if_neg (by decide)]
theorem W99 (hL : Ly v A h c n) (hw : wr ≠ 0) {F : Nat} (hF : 0 < F) {kk : Hp → Option Hp} : m_X6_reads_L99 20 kk F (RS v m wr wa c n s A h) = kk (RS v m wr wa c n s A h) := by
  obtain ⟨F, rfl⟩ : ∃ k, F = k + 1 := ⟨F - 1, by omega⟩
  rw [m_X6_reads_L99]
  simp only [e_jK]
  rw [q_cv hL.1, y_wordW hL hw, Option.bind_some, if_neg (by decide), q_cv hL.1, y_wordW hL hw, Option.bind_some, if_neg (by decide)]
theorem C7F {F : Nat} (hF : 0 < F) {x : Int32} {H : Hp} : m_X3_readVertices_L7 9 (fun v6 h7 => some (v6, h7)) F false x H = some (false, H) := by
  obtain ⟨F, rfl⟩ : ∃ k, F = k + 1 := ⟨F - 1, by omega⟩
  rw [m_X3_readVertices_L7]
  by_cases h1 : (9 : Int32) ≤ x
  · rw [if_pos h1]
  · rw [if_neg h1, if_neg (by decide)]
theorem J_vs : ∀ k F F' i s nu m g A al b, PIv fB c n v h g0 g A0 A al b → RawB al b → s ≤ n → NuOk c n s nu m → n - s ≤ k → k + 1 < F → k + 1 < F' → al 0 = i + 1 →
    ∃ R', (∀ kk, m_X6_reads_L67 20 kk F' (RS v m 0 wa c n s A h) = kk R') ∧ JOk fl ea er wa fB c n v h g0 A0 (fun al' b' s' => RawB al' b' ∧ 1 ≤ al' 0 ∧ wd c n s' 2 = false) (m_X3_readVertices_L7 9 (fun v6 h7 => some (v6, h7)) F true (nI i) (CS fl ea er nu c n s g)) (some R') := by
  intro k
  induction k with
  | zero =>
    intro F F' i s nu m g A al b P hR hs hN hk hF hF' hi
    obtain ⟨F, rfl⟩ : ∃ k, F = k + 1 := ⟨F - 1, by omega⟩
    obtain ⟨F', rfl⟩ : ∃ k, F' = k + 1 := ⟨F' - 1, by omega⟩
    have h9 := P.2.2.2.2.2.1.1.1
    have hw : wd c n s 2 = false := by
      unfold wd
      have : tT c n s = 3 := by unfold tT; rw [if_pos (by omega)]
      rw [this]; rfl
    refine ⟨RS v m 0 wa c n s A h, fun kk => ?_, .inl ⟨nu, m, g, A, al, b, s, ?_, rfl, hN, hs, P, hR, by omega, hw⟩⟩
    · rw [m_X6_reads_L67, q_cv P.2.1.1, y_word P.2.1 hs (by decide), hw, Option.bind_some, if_neg (by decide)]
    · rw [m_X3_readVertices_L7, if_neg (show ¬ (9 : Int32) ≤ nI i from nI_ge (b := 9) (by omega) (by decide)), if_pos rfl, cvd P.1.1, x_word P.1 hs (by decide), hw, Option.bind_some, if_neg (by decide)]
  | succ k ih =>
    intro F F' i s nu m g A al b P hR hs hN hk hF hF' hi
    obtain ⟨F, rfl⟩ : ∃ k, F = k + 1 := ⟨F - 1, by omega⟩
    obtain ⟨F', rfl⟩ : ∃ k, F' = k + 1 := ⟨F' - 1, by omega⟩
    have h9 := P.2.2.2.2.2.1.1.1
    by_cases hw : wd c n s 2 = true
    · have ex : m_X3_readVertices_L7 9 (fun v6 h7 => some (v6, h7)) (F + 1) true (nI i) (CS fl ea er nu c n s g) = b2 (m_X3_readVertex 9 (CS fl ea er nu c n s g)) fun bb9 h10 => m_X3_readVertices_L7 9 (fun v6 h7 => some (v6, h7)) F bb9 (nI (i + 1)) h10 := by
        rw [m_X3_readVertices_L7, if_neg (show ¬ (9 : Int32) ≤ nI i from nI_ge (b := 9) (by omega) (by decide)), if_pos rfl, cvd P.1.1, x_word P.1 hs (by decide), hw, Option.bind_some, if_pos rfl, cvd P.1.1]
        simp only [e_nm]
        rw [nI_1]
      have ey : ∀ kk, m_X6_reads_L67 20 kk (F' + 1) (RS v m 0 wa c n s A h) = (m_X6_readsVertex 20 (RS v m 0 wa c n s A h)).bind fun h17 => m_X6_reads_L67 20 kk F' h17 := fun kk => by
        rw [m_X6_reads_L67, q_cv P.2.1.1, y_word P.2.1 hs (by decide), hw, Option.bind_some, if_pos rfl, q_cv P.2.1.1]
      rw [ex]
      rcases J_vertex (fl := fl) (ea := ea) (er := er) (wa := wa) (nu := nu) (m := m) P hR hs hw with ⟨nu', m', g', A', al', b', s', x1, x2, x3, x4, x5, x6, x7, x8⟩ | ⟨code, nu', m', g', A', s', x1, x2, x3, x4, x5, x6, x7⟩
      · obtain ⟨R', e1, e2⟩ := ih F F' (i + 1) s' nu' m' g' A' al' b' x5 x6 x4 x3 (by omega) (by omega) (by omega) (by omega)
        rw [x1, e_b2]
        exact ⟨R', fun kk => by rw [ey, x2, Option.bind_some, e1], e2⟩
      · rw [x1, e_b2, C7F (by omega)]
        refine ⟨RS v m' code (nI s') c n s' A' h, fun kk => ?_, .inr ⟨code, nu', m', g', A', s', rfl, rfl, x3, x4, x5, x6, x7⟩⟩
        have hA6 : A' 6 = A 6 := (x7 6 (by decide)).trans (P.2.2.2.2.2.2.2.2.2 6 (by decide)).symm
        rw [ey, x2, Option.bind_some, W67 (Ly_A P.2.1 hA6) x3 (by omega)]
    · have hw' := Bool.eq_false_iff.mpr hw
      refine ⟨RS v m 0 wa c n s A h, fun kk => ?_, .inl ⟨nu, m, g, A, al, b, s, ?_, rfl, hN, hs, P, hR, by omega, hw'⟩⟩
      · rw [m_X6_reads_L67, q_cv P.2.1.1, y_word P.2.1 hs (by decide), hw', Option.bind_some, if_neg (by decide)]
      · rw [m_X3_readVertices_L7, if_neg (show ¬ (9 : Int32) ≤ nI i from nI_ge (b := 9) (by omega) (by decide)), if_pos rfl, cvd P.1.1, x_word P.1 hs (by decide), hw', Option.bind_some, if_neg (by decide)]
theorem J_vs0 (P : PIv fB c n v h g0 g A0 A al b) (hR : RawB al b) (hs : s ≤ n) (hw : wd c n s 2 = true) (h0 : al 0 = 0) :
    ∃ R', (∀ kk, m_X6_reads_L67 20 kk LF (RS v m 0 wa c n s A h) = kk R') ∧ JOk fl ea er wa fB c n v h g0 A0 (fun al' b' s' => RawB al' b' ∧ 1 ≤ al' 0 ∧ wd c n s' 2 = false) (m_X3_readVertices 9 (CS fl ea er nu c n s g)) (some R') := by
  have hn := P.1.2.2.1
  have ey : ∀ kk, m_X6_reads_L67 20 kk LF (RS v m 0 wa c n s A h) = (m_X6_readsVertex 20 (RS v m 0 wa c n s A h)).bind fun h17 => m_X6_reads_L67 20 kk 999999 h17 := fun kk => by
    show m_X6_reads_L67 20 kk (999999 + 1) _ = _
    rw [m_X6_reads_L67, q_cv P.2.1.1, y_word P.2.1 hs (by decide), hw, Option.bind_some, if_pos rfl, q_cv P.2.1.1]
  unfold m_X3_readVertices
  rw [cvd P.1.1]
  rcases J_vertex (fl := fl) (ea := ea) (er := er) (wa := wa) (nu := nu) (m := m) P hR hs hw with ⟨nu', m', g', A', al', b', s', x1, x2, x3, x4, x5, x6, x7, x8⟩ | ⟨code, nu', m', g', A', s', x1, x2, x3, x4, x5, x6, x7⟩
  · obtain ⟨R', e1, e2⟩ := J_vs (fl := fl) (ea := ea) (er := er) (wa := wa) n LF 999999 0 s' nu' m' g' A' al' b' x5 x6 x4 x3 (by omega) (by unfold LF; omega) (by omega) (by omega)
    rw [x1, e_b2]
    exact ⟨R', fun kk => by rw [ey, x2, Option.bind_some, e1], e2⟩
  · rw [x1, e_b2, C7F (by unfold LF; omega)]
    refine ⟨RS v m' code (nI s') c n s' A' h, fun kk => ?_, .inr ⟨code, nu', m', g', A', s', rfl, rfl, x3, x4, x5, x6, x7⟩⟩
    have hA6 : A' 6 = A 6 := (x7 6 (by decide)).trans (P.2.2.2.2.2.2.2.2.2 6 (by decide)).symm
    rw [ey, x2, Option.bind_some, W67 (Ly_A P.2.1 hA6) x3 (by omega)]
theorem cs_4 (hz : 9 < g.2.1) : gI (CS fl ea er nu c n s g) 3 9 4 = some (nI n) := d_4 hz
theorem C4F (hz : 9 < g.2.1) {F : Nat} (hF : 0 < F) {x : Int32} : m_X3_readEdges_L4 9 (fun v6 h7 => some (v6, h7)) F false x (CS fl ea er nu c n s g) = some (false, CS fl ea er nu c n s g) := by
  obtain ⟨F, rfl⟩ : ∃ k, F = k + 1 := ⟨F - 1, by omega⟩
  rw [m_X3_readEdges_L4, cs_4 hz, Option.bind_some]
  by_cases h1 : nI n ≤ x
  · rw [if_pos h1]
  · rw [if_neg h1, if_neg (by decide)]
theorem C4M (hz : 9 < g.2.1) {F : Nat} (hF : 0 < F) {x : Int32} : m_X3_readMoves_L4 9 (fun v6 h7 => some (v6, h7)) F false x (CS fl ea er nu c n s g) = some (false, CS fl ea er nu c n s g) := by
  obtain ⟨F, rfl⟩ : ∃ k, F = k + 1 := ⟨F - 1, by omega⟩
  rw [m_X3_readMoves_L4, cs_4 hz, Option.bind_some]
  by_cases h1 : nI n ≤ x
  · rw [if_pos h1]
  · rw [if_neg h1, if_neg (by decide)]
theorem wd_n {j : Nat} (h : wd c n s j = true) : s < n := by
  unfold wd at h
  rw [Bool.and_eq_true] at h
  have h0 : tT c n s = 0 := of_decide_eq_true h.1
  exact tT_lt (c := c) (by omega)
theorem J_es : ∀ k F F' i s nu m g A al b, PIv fB c n v h g0 g A0 A al b → RawB al b → s ≤ n → NuOk c n s nu m → n - s ≤ k → k + 1 < F → k + 1 < F' → i ≤ s → 1 ≤ al 0 →
    ∃ R', (∀ kk, m_X6_reads_L83 20 kk F' (RS v m 0 wa c n s A h) = kk R') ∧ JOk fl ea er wa fB c n v h g0 A0 (fun al' b' s' => 1 ≤ al' 0) (m_X3_readEdges_L4 9 (fun v6 h7 => some (v6, h7)) F true (nI i) (CS fl ea er nu c n s g)) (some R') := by
  intro k
  induction k with
  | zero =>
    intro F F' i s nu m g A al b P hR hs hN hk hF hF' hi h1
    obtain ⟨F, rfl⟩ : ∃ k, F = k + 1 := ⟨F - 1, by omega⟩
    obtain ⟨F', rfl⟩ : ∃ k, F' = k + 1 := ⟨F' - 1, by omega⟩
    have hn := P.1.2.2.1
    have hw : wd c n s 3 = false := Bool.eq_false_iff.mpr fun e => absurd (wd_n e) (by omega)
    refine ⟨RS v m 0 wa c n s A h, fun kk => ?_, .inl ⟨nu, m, g, A, al, b, s, ?_, rfl, hN, hs, P, h1⟩⟩
    · rw [m_X6_reads_L83, q_cv P.2.1.1, y_word P.2.1 hs (by decide), hw, Option.bind_some, if_neg (by decide)]
    · rw [m_X3_readEdges_L4, cs_4 P.1.1, Option.bind_some]
      by_cases h2 : n ≤ i
      · rw [iLe h2 (by omega)]
      · rw [iNle (by omega) (by omega), if_pos rfl, cvd P.1.1, x_word P.1 hs (by decide), hw, Option.bind_some, if_neg (by decide)]
  | succ k ih =>
    intro F F' i s nu m g A al b P hR hs hN hk hF hF' hi h1
    obtain ⟨F, rfl⟩ : ∃ k, F = k + 1 := ⟨F - 1, by omega⟩
    obtain ⟨F', rfl⟩ : ∃ k, F' = k + 1 := ⟨F' - 1, by omega⟩
    have hn := P.1.2.2.1
    by_cases hw : wd c n s 3 = true
    · have hsn := wd_n hw
      have ex : m_X3_readEdges_L4 9 (fun v6 h7 => some (v6, h7)) (F + 1) true (nI i) (CS fl ea er nu c n s g) = b2 (m_X3_readEdge 9 (CS fl ea er nu c n s g)) fun bb9 h10 => m_X3_readEdges_L4 9 (fun v6 h7 => some (v6, h7)) F bb9 (nI (i + 1)) h10 := by
        rw [m_X3_readEdges_L4, cs_4 P.1.1, Option.bind_some, iNle (by omega) (by omega), if_pos rfl, cvd P.1.1, x_word P.1 hs (by decide), hw, Option.bind_some, if_pos rfl, cvd P.1.1]
        simp only [e_nm]
        rw [nI_1]
      have ey : ∀ kk, m_X6_reads_L83 20 kk (F' + 1) (RS v m 0 wa c n s A h) = (m_X6_readsEdge 20 (RS v m 0 wa c n s A h)).bind fun h17 => m_X6_reads_L83 20 kk F' h17 := fun kk => by
        rw [m_X6_reads_L83, q_cv P.2.1.1, y_word P.2.1 hs (by decide), hw, Option.bind_some, if_pos rfl, q_cv P.2.1.1]
      rw [ex]
      rcases J_edge (fl := fl) (ea := ea) (er := er) (wa := wa) (nu := nu) (m := m) P hR hs hw h1 with ⟨nu', m', g', A', al', b', s', x1, x2, x3, x4, x5, x6, x7, x8⟩ | ⟨code, nu', m', g', A', s', x1, x2, x3, x4, x5, x6, x7⟩
      · obtain ⟨R', e1, e2⟩ := ih F F' (i + 1) s' nu' m' g' A' al' b' x5 x6 x4 x3 (by omega) (by omega) (by omega) (by omega) (by omega)
        rw [x1, e_b2]
        exact ⟨R', fun kk => by rw [ey, x2, Option.bind_some, e1], e2⟩
      · have hg9 : 9 < g'.2.1 := by
          have := x6.2.1
          obtain ⟨_, hx⟩ := this
          have := hx.1
          omega
        rw [x1, e_b2, C4F hg9 (by omega)]
        refine ⟨RS v m' code (nI s') c n s' A' h, fun kk => ?_, .inr ⟨code, nu', m', g', A', s', rfl, rfl, x3, x4, x5, x6, x7⟩⟩
        have hA6 : A' 6 = A 6 := (x7 6 (by decide)).trans (P.2.2.2.2.2.2.2.2.2 6 (by decide)).symm
        rw [ey, x2, Option.bind_some, W83 (Ly_A P.2.1 hA6) x3 (by omega)]
    · have hw' := Bool.eq_false_iff.mpr hw
      refine ⟨RS v m 0 wa c n s A h, fun kk => ?_, .inl ⟨nu, m, g, A, al, b, s, ?_, rfl, hN, hs, P, h1⟩⟩
      · rw [m_X6_reads_L83, q_cv P.2.1.1, y_word P.2.1 hs (by decide), hw', Option.bind_some, if_neg (by decide)]
      · rw [m_X3_readEdges_L4, cs_4 P.1.1, Option.bind_some]
        by_cases h2 : n ≤ i
        · rw [iLe h2 (by omega)]
        · rw [iNle (by omega) (by omega), if_pos rfl, cvd P.1.1, x_word P.1 hs (by decide), hw', Option.bind_some, if_neg (by decide)]
/-- the semicolon after a move -/
theorem J_semi (P : PIv fB c n v h g0 g A0 A al b) (hs : s ≤ n) : JOk fl ea er wa fB c n v h g0 A0 (fun al' b' s' => al' = al ∧ s < s') (m_X3_readSemicolon 9 (CS fl ea er nu c n s g)) (cv (RS v m 0 wa c n s A h) 6 20 <| (m_X6_mustEnd 20 (RS v m 0 wa c n s A h)).bind fun h23 => some h23) := by
  rw [x_rSemi P.1 hs, q_cv P.2.1.1, y_mEnd P.2.1 hs, Option.bind_some]
  by_cases h2 : tT c n s = 2 ∧ c s = 59
  · rw [if_pos h2, if_pos h2]
    exact .inl ⟨_, _, g, A, al, b, _, rfl, rfl, NuOk_n, (nxk_le hs).2, P, rfl, nxk_lt (by omega)⟩
  · rw [if_neg h2, if_neg h2]
    exact .inr (JF_mk P hs (by decide))
theorem J_ms : ∀ k F F' i s nu m g A al b, PIv fB c n v h g0 g A0 A al b → s ≤ n → NuOk c n s nu m → n - s ≤ k → k + 1 < F → k + 1 < F' → i ≤ s → 1 ≤ al 0 →
    ∃ R', (∀ kk, m_X6_reads_L99 20 kk F' (RS v m 0 wa c n s A h) = kk R') ∧ JOk fl ea er wa fB c n v h g0 A0 (fun al' b' s' => 1 ≤ al' 0) (m_X3_readMoves_L4 9 (fun v6 h7 => some (v6, h7)) F true (nI i) (CS fl ea er nu c n s g)) (some R') := by
  intro k
  induction k with
  | zero =>
    intro F F' i s nu m g A al b P hs hN hk hF hF' hi h1
    obtain ⟨F, rfl⟩ : ∃ k, F = k + 1 := ⟨F - 1, by omega⟩
    obtain ⟨F', rfl⟩ : ∃ k, F' = k + 1 := ⟨F' - 1, by omega⟩
    have hn := P.1.2.2.1
    have hw : ∀ j, wd c n s j = false := fun j => Bool.eq_false_iff.mpr fun e => absurd (wd_n e) (by omega)
    refine ⟨RS v m 0 wa c n s A h, fun kk => ?_, .inl ⟨nu, m, g, A, al, b, s, ?_, rfl, hN, hs, P, h1⟩⟩
    · rw [m_X6_reads_L99]
      simp only [e_jK]
      rw [q_cv P.2.1.1, y_word P.2.1 hs (by decide), hw, Option.bind_some, if_neg (by decide), q_cv P.2.1.1, y_word P.2.1 hs (by decide), hw, Option.bind_some, if_neg (by decide)]
    · rw [m_X3_readMoves_L4, cs_4 P.1.1, Option.bind_some]
      simp only [e_jK]
      by_cases h2 : n ≤ i
      · rw [iLe h2 (by omega)]
      · rw [iNle (by omega) (by omega), if_pos trivial, cvd P.1.1, x_word P.1 hs (by decide), hw, Option.bind_some, if_neg (by decide), cvd P.1.1, x_word P.1 hs (by decide), hw, Option.bind_some, if_neg (by decide)]
  | succ k ih =>
    intro F F' i s nu m g A al b P hs hN hk hF hF' hi h1
    obtain ⟨F, rfl⟩ : ∃ k, F = k + 1 := ⟨F - 1, by omega⟩
    obtain ⟨F', rfl⟩ : ∃ k, F' = k + 1 := ⟨F' - 1, by omega⟩
    have hn := P.1.2.2.1
    have go : ∀ {cm : Option (Bool × Hp)} {rm : Option Hp}, s < n →
        (m_X3_readMoves_L4 9 (fun v6 h7 => some (v6, h7)) (F + 1) true (nI i) (CS fl ea er nu c n s g) = b2 cm fun bb22 h23 => if bb22 = true then (cv h23 3 9 <| b2 (m_X3_readSemicolon 9 h23) fun bb16 h17 => if bb16 = true then m_X3_readMoves_L4 9 (fun v6 h7 => some (v6, h7)) F true (nI (i + 1)) h17 else m_X3_readMoves_L4 9 (fun v6 h7 => some (v6, h7)) F false (nI (i + 1)) h17) else m_X3_readMoves_L4 9 (fun v6 h7 => some (v6, h7)) F false (nI (i + 1)) h23) →
        (∀ kk, m_X6_reads_L99 20 kk (F' + 1) (RS v m 0 wa c n s A h) = rm.bind fun h30 => m_X6_reads_L99 20 kk F' h30) →
        ((∃ (nu' m' : Int32) (g' : Hp) (A' : Nat → Nat → Int32) (al' b' : Nat → Nat) (s' : Nat), cm = some (true, CS fl ea er nu' c n s' g') ∧ rm = (cv (RS v m' 0 wa c n s' A' h) 6 20 <| (m_X6_mustEnd 20 (RS v m' 0 wa c n s' A' h)).bind fun h23 => some h23) ∧ s < s' ∧ s' ≤ n ∧ PIv fB c n v h g0 g' A0 A' al' b' ∧ al' 0 = al 0) ∨ JF fl c n v h g0 A0 cm rm) →
        ∃ R', (∀ kk, m_X6_reads_L99 20 kk (F' + 1) (RS v m 0 wa c n s A h) = kk R') ∧ JOk fl ea er wa fB c n v h g0 A0 (fun al' b' s' => 1 ≤ al' 0) (m_X3_readMoves_L4 9 (fun v6 h7 => some (v6, h7)) (F + 1) true (nI i) (CS fl ea er nu c n s g)) (some R') := by
      intro cm rm hsn ex ey hj
      rw [ex]
      have bad : ∀ {code nu' m' : Int32} {g' : Hp} {A' : Nat → Nat → Int32} {s' : Nat}, rm = some (RS v m' code (nI s') c n s' A' h) → code ≠ 0 → s' ≤ n → Fr g0 g' InD 18 90 → BdS g' 10 → (∀ j, j ≠ 0 → A' j = A0 j) → ∃ R', (∀ kk, m_X6_reads_L99 20 kk (F' + 1) (RS v m 0 wa c n s A h) = kk R') ∧ JOk fl ea er wa fB c n v h g0 A0 (fun al' b' s' => 1 ≤ al' 0) (m_X3_readMoves_L4 9 (fun v6 h7 => some (v6, h7)) F false (nI (i + 1)) (CS fl (nI s') code nu' c n s' g')) (some R') := by
        intro code nu' m' g' A' s' x2 x3 x4 x5 x6 x7
        have hg9 : 9 < g'.2.1 := by
          obtain ⟨_, hx⟩ := x6.2.1
          have := hx.1
          omega
        rw [C4M hg9 (by omega)]
        refine ⟨RS v m' code (nI s') c n s' A' h, fun kk => ?_, .inr ⟨code, nu', m', g', A', s', rfl, rfl, x3, x4, x5, x6, x7⟩⟩
        have hA6 : A' 6 = A 6 := (x7 6 (by decide)).trans (P.2.2.2.2.2.2.2.2.2 6 (by decide)).symm
        rw [ey, x2, Option.bind_some, W99 (Ly_A P.2.1 hA6) x3 (by omega)]
      rcases hj with ⟨nu', m', g', A', al', b', s', x1, x2, x3, x4, x5, x6⟩ | ⟨code, nu', m', g', A', s', x1, x2, x3, x4, x5, x6, x7⟩
      · rw [x1, e_b2, if_pos rfl, cvd x5.1.1]
        rcases J_semi (fl := fl) (ea := ea) (er := er) (wa := wa) (nu := nu') (m := m') x5 x4 with ⟨nu2, m2, g2, A2, al2, b2', s2, y1, y2, y3, y4, y5, y6, y7⟩ | ⟨code, nu2, m2, g2, A2, s2, y1, y2, y3, y4, y5, y6, y7⟩
        · obtain ⟨R', e1, e2⟩ := ih F F' (i + 1) s2 nu2 m2 g2 A2 al2 b2' y5 y4 y3 (by omega) (by omega) (by omega) (by omega) (by rw [y6, x6]; exact h1)
          rw [y1, e_b2, if_pos rfl]
          exact ⟨R', fun kk => by rw [ey, x2, y2, Option.bind_some, e1], e2⟩
        · rw [y1, e_b2, if_neg (by decide)]
          exact bad (x2.trans y2) y3 y4 y5 y6 y7
      · rw [x1, e_b2, if_neg (by decide)]
        exact bad x2 x3 x4 x5 x6 x7
    by_cases hw4 : wd c n s 4 = true
    · have hsn := wd_n hw4
      refine go hsn ?_ ?_ (J_lay (fl := fl) (ea := ea) (er := er) (wa := wa) (nu := nu) (m := m) P hs hw4 h1)
      · rw [m_X3_readMoves_L4, cs_4 P.1.1, Option.bind_some]
        simp only [e_jK, e_nm]
        rw [iNle (by omega) (by omega), if_pos trivial, cvd P.1.1, x_word P.1 hs (by decide), hw4, Option.bind_some, if_pos rfl, cvd P.1.1, Option.bind_some, if_pos rfl, cvd P.1.1, nI_1]
      · intro kk
        rw [m_X6_reads_L99]
        simp only [e_jK]
        rw [q_cv P.2.1.1, y_word P.2.1 hs (by decide), hw4, Option.bind_some, if_pos rfl, q_cv P.2.1.1, Option.bind_some, if_pos rfl, q_cv P.2.1.1]
    · have hw4' := Bool.eq_false_iff.mpr hw4
      by_cases hw5 : wd c n s 5 = true
      · have hsn := wd_n hw5
        refine go hsn ?_ ?_ (J_pass (fl := fl) (ea := ea) (er := er) (wa := wa) (nu := nu) (m := m) P hs hw5)
        · rw [m_X3_readMoves_L4, cs_4 P.1.1, Option.bind_some]
          simp only [e_jK, e_nm]
          rw [iNle (by omega) (by omega), if_pos trivial, cvd P.1.1, x_word P.1 hs (by decide), hw4', Option.bind_some, if_neg (by decide), cvd P.1.1, x_word P.1 hs (by decide), hw5, Option.bind_some, if_pos rfl, cvd P.1.1, Option.bind_some, if_neg (by decide), cvd P.1.1, nI_1]
        · intro kk
          rw [m_X6_reads_L99]
          simp only [e_jK]
          rw [q_cv P.2.1.1, y_word P.2.1 hs (by decide), hw4', Option.bind_some, if_neg (by decide), q_cv P.2.1.1, y_word P.2.1 hs (by decide), hw5, Option.bind_some, if_pos rfl, q_cv P.2.1.1, Option.bind_some, if_neg (by decide), q_cv P.2.1.1]
      · have hw5' := Bool.eq_false_iff.mpr hw5
        refine ⟨RS v m 0 wa c n s A h, fun kk => ?_, .inl ⟨nu, m, g, A, al, b, s, ?_, rfl, hN, hs, P, h1⟩⟩
        · rw [m_X6_reads_L99]
          simp only [e_jK]
          rw [q_cv P.2.1.1, y_word P.2.1 hs (by decide), hw4', Option.bind_some, if_neg (by decide), q_cv P.2.1.1, y_word P.2.1 hs (by decide), hw5', Option.bind_some, if_neg (by decide)]
        · rw [m_X3_readMoves_L4, cs_4 P.1.1, Option.bind_some]
          simp only [e_jK]
          by_cases h2 : n ≤ i
          · rw [iLe h2 (by omega)]
          · rw [iNle (by omega) (by omega), if_pos trivial, cvd P.1.1, x_word P.1 hs (by decide), hw4', Option.bind_some, if_neg (by decide), cvd P.1.1, x_word P.1 hs (by decide), hw5', Option.bind_some, if_neg (by decide)]
end RUN
