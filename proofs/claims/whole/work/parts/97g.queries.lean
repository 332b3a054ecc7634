/-! the queries, one by one -/
theorem i_inN {x : Int32} {n : Nat} (hn : n < 2 ^ 31) (h : 0 ≤ x.toInt ∧ x.toInt < n) : ∃ j, j < n ∧ x = nI j := by
  have hx : ¬ x < 0 := by
    rw [Int32.lt_iff_toInt_lt]
    have : (0 : Int32).toInt = 0 := rfl
    omega
  obtain ⟨j, hj, rfl⟩ := nI_of hx
  rw [nI_toInt hj] at h
  exact ⟨j, by omega, rfl⟩
theorem i_inL {x : Int32} {n : Nat} (hn : n < 2 ^ 31) (h : 0 ≤ x.toInt ∧ x.toInt ≤ n) : ∃ j, j ≤ n ∧ x = nI j := by
  have hx : ¬ x < 0 := by
    rw [Int32.lt_iff_toInt_lt]
    have : (0 : Int32).toInt = 0 := rfl
    omega
  obtain ⟨j, hj, rfl⟩ := nI_of hx
  rw [nI_toInt hj] at h
  exact ⟨j, by omega, rfl⟩
/-- two answers without a throw -/
def AgD {α : Type} (k : Nat) (cls : Option (α × Hp)) (refm : Hp → Option (α × Hp)) : Prop := ∃ x H1 H2, cls = some (x, H1) ∧ (∀ {ρ : Type} {r : Option ρ}, cv H1 6 20 r = r) ∧ refm H1 = some (x, H2) ∧ InvP (k + 1) H2
section QYS
variable {k L : Nat} {H : Hp} {v : Nat → Int32} {A : Nat → Nat → Int32} {Gn : Nat → Nat → Nat} {al bn : Nat → Nat} {P P' : Nat → Int64} {Q Q' : Nat → Int32}
theorem AgD_ok {α : Type} {y : α} {call : Option (α × Hp)} {refm : Hp → Option (α × Hp)} (I : Kn0 k H v A L Gn al bn P Q) (hc : ∃ P' Q', CKs P' Q' L Gn ∧ call = some (y, wC H P' Q')) (hr : ∀ g : Hp, 31 ≤ g.2.1 → ∃ M B, refm (setR v A g) = some (y, setR (upd v 7 0) (wq A M B) g)) : AgD k call refm := by
  obtain ⟨P', Q', c1, rfl⟩ := hc
  have z : 32 ≤ H.2.1 := I.2.2.2.1
  have f : Fr H (wC H P' Q') (fun a => a = 7 ∨ a = 8 ∨ a = 31) 0 0 := w_fr
  have z1 : 31 ≤ (wC H P' Q').2.1 := by have := f.1; omega
  have eR : wC H P' Q' = setR v A (wC H P' Q') := setR_of I.1 fun a h1 h2 => f.2.2.2 a (by omega) (by omega)
  obtain ⟨M, B, er⟩ := hr _ z1
  exact ⟨y, _, setR (upd v 7 0) (wq A M B) (wC H P' Q'), rfl, fun {ρ} {r} => by rw [eR]; exact r_cv z1, (congrArg refm eR).trans er, InvP_q I c1 (Fr_mono f (fun _ e => e) (by decide) (by decide)) rfl rfl (K_31 I)⟩
theorem K_b (I : Kn0 k H v A L Gn al bn P Q) : ∃ num lat w, Vx H num al bn lat L Gn w L ∧ Chn H al (al 3) lat ∧ Pot k al ∧ AlF A al := by
  obtain ⟨num, lat, w, _, V, C, p, a, _⟩ := I.2.2.2.2.2.2.2.1
  exact ⟨num, lat, w, V, C, p, a⟩
theorem K_Rb (I : Kn0 k H v A L Gn al bn P Q) : Rb A al bn ∧ Ub al := by
  obtain ⟨num, lat, w, V, C, p, a⟩ := K_b I
  exact ⟨⟨AlF_al a, V.1.2.2.2.1, V.2.2.1, V.2.2.2.1⟩, V.2.2.2.2⟩
theorem K_g0 (I : Kn0 k H v A L Gn al bn P Q) : gR H 5 0 0 = some 2 := by
  obtain ⟨num, lat, w, V, C, p, a⟩ := K_b I
  exact at_gR V.2.1 rfl
/-- the class's answer left the heap as it was -/
theorem okH {γ : Type} {y : γ} {call : Option (γ × Hp)} (I : Kn0 k H v A L Gn al bn P Q) (e : call = some (y, H)) : ∃ P' Q', CKs P' Q' L Gn ∧ call = some (y, wC H P' Q') := ⟨P, Q, I.2.2.1, e.trans (congrArg (fun q => some (y, q)) I.2.1)⟩
theorem ok_W {γ : Type} {y : γ} {m : Hp → Option (γ × Hp)} (I : Kn0 k H v A L Gn al bn P Q) (e : ∃ P' Q', CKs P' Q' L Gn ∧ m (wC H P Q) = some (y, wC H P' Q')) : ∃ P' Q', CKs P' Q' L Gn ∧ m H = some (y, wC H P' Q') := by
  obtain ⟨P', Q', c, e⟩ := e
  exact ⟨P', Q', c, (congrArg m I.2.1).trans e⟩
theorem thH {e cl : Nat} {call : Option ((Int32 ⊕ Nat) × Hp)} (I : Kn0 k H v A L Gn al bn P Q) (h : call = some (.inr e, hpush H (.inr (cl, [])) 6)) : call = some (.inr e, hpush (wC H P Q) (.inr (cl, [])) 6) := h.trans (congrArg (fun q => some ((.inr e : Int32 ⊕ Nat), hpush q (.inr (cl, [])) 6)) I.2.1)
theorem thW {e cl : Nat} {m : Hp → Option ((Int32 ⊕ Nat) × Hp)} (I : Kn0 k H v A L Gn al bn P Q) (h : m (wC H P Q) = some (.inr e, hpush (wC H P Q) (.inr (cl, [])) 6)) : m H = some (.inr e, hpush (wC H P Q) (.inr (cl, [])) 6) := (congrArg m I.2.1).trans h
theorem rq {refm : Hp → Option (Int32 × Hp)} {y : Int32} (h : ∀ g : Hp, 31 ≤ g.2.1 → refm (setR v A g) = some (y, setR (upd v 7 0) A g)) : ∀ g : Hp, 31 ≤ g.2.1 → ∃ M B, refm (setR v A g) = some (y, setR (upd v 7 0) (wq A M B) g) := fun g hg => ⟨A 7, A 8, by rw [wq_self]; exact h g hg⟩
theorem A_count (I : Kn0 k H v A L Gn al bn P Q) (x : Int32) : Agr k (m_L_count 0 x 31 H) (m_X6_count 20 x) := by
  obtain ⟨num, lat, w, V, C, p, a⟩ := K_b I
  obtain ⟨X, U⟩ := K_Rb I
  by_cases hx : 0 ≤ x.toInt ∧ x.toInt ≤ 12
  · obtain ⟨j, hj, rfl⟩ := i_inL (n := 12) (by decide) hx
    exact Agr_ok I (okH I (c_count (K_g0 I) V.1.2.2.1 X.2.1 hj)) (rq fun g hg => d_count hg X.1 X.2.1 X.2.2.2 hj)
  · exact Agr_thr (t := 1) I (thH I (c_countX hx)) (fun h => rfl) (by decide) fun g hg => d_countX hg hx
theorem A_vertex (I : Kn0 k H v A L Gn al bn P Q) (x y : Int32) : Agr k (m_L_vertex 0 x y 31 H) (m_X6_vertex 20 x y) := by
  obtain ⟨num, lat, w, V, C, p, a⟩ := K_b I
  obtain ⟨X, U⟩ := K_Rb I
  have h9 := X.2.1.1
  by_cases hx : 0 ≤ x.toInt ∧ x.toInt < al 0
  · obtain ⟨u, hu, rfl⟩ := i_inN (by omega) hx
    by_cases hy : 0 ≤ y.toInt ∧ y.toInt ≤ 5
    · obtain ⟨j, hj, rfl⟩ := i_inL (n := 5) (by decide) hy
      exact Agr_ok I (okH I (c_vertex (K_g0 I) V.1.2.2.1 X.2.1 hu hj)) (rq fun g hg => d_vertex hg X.1 X.2.1 X.2.2.2 hu hj)
    · exact Agr_thr (t := 2) I (thH I (c_vertexX2 (K_g0 I) V.1.2.2.1 X.2.1 hu hy)) (fun h => rfl) (by decide) fun g hg => d_vertexX2 hg X.1 X.2.1 hu hy
  · exact Agr_thr (t := 1) I (thH I (c_vertexX1 (K_g0 I) V.1.2.2.1 X.2.1 hx)) (fun h => rfl) (by decide) fun g hg => d_vertexX1 hg X.1 X.2.1 hx
theorem A_reason (I : Kn0 k H v A L Gn al bn P Q) (x y : Int32) : Agr k (m_L_reason 0 x y 31 H) (m_X6_reason 20 x y) := by
  obtain ⟨num, lat, w, V, C, p, a⟩ := K_b I
  obtain ⟨X, U⟩ := K_Rb I
  have h9 := X.2.1.1
  have hC := X.2.1.2.1
  by_cases hx : (0 ≤ x.toInt ∧ x.toInt < al 0) ∧ (0 ≤ y.toInt ∧ y.toInt < al 1)
  · obtain ⟨u, hu, rfl⟩ := i_inN (by omega) hx.1
    obtain ⟨c, hc, rfl⟩ := i_inN (by omega) hx.2
    exact Agr_ok I (okH I (c_reason (K_g0 I) V.1.2.2.1 X.2.1 hu hc)) (rq fun g hg => d_reason hg X.1 X.2.1 X.2.2.2 hu hc)
  · exact Agr_thr (t := 1) I (thH I (c_reasonX (K_g0 I) V.1.2.2.1 X.2.1 hx)) (fun h => rfl) (by decide) fun g hg => d_reasonX hg X.1 X.2.1 hx
theorem A_falls (I : Kn0 k H v A L Gn al bn P Q) (x : Int32) : Agr k (m_L_falls 0 x 31 H) (m_X6_falls 20 x) := by
  obtain ⟨num, lat, w, V, C, p, a⟩ := K_b I
  obtain ⟨X, U⟩ := K_Rb I
  have h9 := X.2.1.1
  by_cases hx : 0 ≤ x.toInt ∧ x.toInt < al 0
  · obtain ⟨u, hu, rfl⟩ := i_inN (by omega) hx
    by_cases hf : (fre al).testBit u = true
    · exact Agr_ok I (okH I (c_falls (K_g0 I) V.1.2.2.1 X.2.1 hf)) (rq fun g hg => d_falls hg X.1 X.2.1 hf)
    · have hf' := Bool.eq_false_iff.mpr hf
      exact Agr_thr (t := 2) I (thH I (c_fallsX2 (K_g0 I) V.1.2.2.1 X.2.1 hu hf')) (fun h => rfl) (by decide) fun g hg => d_fallsX2 hg X.1 X.2.1 hu hf'
  · exact Agr_thr (t := 1) I (thH I (c_fallsX1 (K_g0 I) V.1.2.2.1 X.2.1 hx)) (fun h => rfl) (by decide) fun g hg => d_fallsX1 hg X.1 X.2.1 hx
theorem A_part (I : Kn0 k H v A L Gn al bn P Q) (x y : Int32) : Agr k (m_L_part 0 x y 31 H) (m_X6_part 20 x y) := by
  obtain ⟨num, lat, w, V, C, p, a⟩ := K_b I
  obtain ⟨X, U⟩ := K_Rb I
  by_cases hx : x < 0
  · exact Agr_thr (t := 1) I (thW (m := m_X5_part 0 x y) I (c_partX1 V (.inl hx))) (fun h => rfl) (by decide) fun g hg => d_partX1 hg X (.inl hx)
  · obtain ⟨q, hq, rfl⟩ := nI_of hx
    by_cases h0 : prt (nrf al) (fre al) q = 0
    · exact Agr_thr (t := 1) I (thW (m := m_X5_part 0 (nI q) y) I (c_partX1 V (.inr ⟨q, hq, rfl, h0⟩))) (fun h => rfl) (by decide) fun g hg => d_partX1 hg X (.inr ⟨q, hq, rfl, h0⟩)
    · by_cases hy : 0 ≤ y.toInt ∧ y.toInt ≤ 7
      · obtain ⟨j, hj, rfl⟩ := i_inL (n := 7) (by decide) hy
        exact Agr_ok I (ok_W (m := m_X5_part 0 (nI q) (nI j)) I (c_part V hq hj h0 I.2.2.1)) fun g hg => d_part0 hg X U hq hj h0
      · exact Agr_thr (t := 2) I (thW (m := m_X5_part 0 (nI q) y) I (c_partX2 V hq h0 hy)) (fun h => rfl) (by decide) fun g hg => d_partX2 hg X hq h0 hy
theorem A_valueIf (I : Kn0 k H v A L Gn al bn P Q) (x y : Int32) : Agr k (m_L_valueIf 0 x y 31 H) (m_X6_valueIf 20 x y) := by
  obtain ⟨num, lat, w, V, C, p, a⟩ := K_b I
  obtain ⟨X, U⟩ := K_Rb I
  have h9 := X.2.1.1
  have hC := X.2.1.2.1
  by_cases hx : (0 ≤ x.toInt ∧ x.toInt < al 0) ∧ (0 ≤ y.toInt ∧ y.toInt < al 1)
  · obtain ⟨u, hu, rfl⟩ := i_inN (by omega) hx.1
    obtain ⟨c, hc, rfl⟩ := i_inN (by omega) hx.2
    by_cases hw : wn al bn u c = 0
    · have ht : (chs al bn u).testBit c = true := chs_tb.mpr ⟨hc, hw⟩
      exact Agr_ok I (ok_W (m := m_X5_valueIf 0 (nI u) (nI c)) I (c_valueIf V ht I.2.2.1)) fun g hg => d_valueIf hg X ht
    · exact Agr_thr (t := 2) I (thW (m := m_X5_valueIf 0 (nI u) (nI c)) I (c_valueIfX2 V hu hc hw)) (fun h => rfl) (by decide) fun g hg => d_valueIfX2 hg X hu hc hw
  · exact Agr_thr (t := 1) I (thW (m := m_X5_valueIf 0 x y) I (c_valueIfX1 V hx)) (fun h => rfl) (by decide) fun g hg => d_valueIfX1 hg X hx
theorem A_winCol (I : Kn0 k H v A L Gn al bn P Q) (x : Int32) : Agr k (m_L_winningColours 0 x 31 H) (m_X6_winningColours 20 x) := by
  obtain ⟨num, lat, w, V, C, p, a⟩ := K_b I
  obtain ⟨X, U⟩ := K_Rb I
  have h9 := X.2.1.1
  by_cases hx : 0 ≤ x.toInt ∧ x.toInt < al 0
  · obtain ⟨u, hu, rfl⟩ := i_inN (by omega) hx
    exact Agr_ok I (ok_W (m := m_X5_winningColours 0 (nI u)) I (c_winCol V hu I.2.2.1)) fun g hg => d_winCol hg X hu
  · exact Agr_thr (t := 1) I (thW (m := m_X5_winningColours 0 x) I (c_winColX V hx)) (fun h => rfl) (by decide) fun g hg => d_winColX hg X hx
theorem A_best (I : Kn0 k H v A L Gn al bn P Q) : Agr k (m_L_bestMove 0 31 H) (m_X6_bestMove 20) := by
  obtain ⟨num, lat, w, V, C, p, a⟩ := K_b I
  obtain ⟨X, U⟩ := K_Rb I
  by_cases hn : Nov al bn
  · exact Agr_ok I (ok_W (m := m_X5_bestMove 0) I (c_best V hn I.2.2.1)) fun g hg => d_best hg X hn
  · have er : ∀ g : Hp, 31 ≤ g.2.1 → m_X6_bestMove 20 (setR v A g) = some ((0 : Int32), setR (upd v 7 (nI 1)) A g) := fun g hg => d_bestX hg X hn
    exact Agr_thr (t := 1) I (thW (m := m_X5_bestMove 0) I (c_bestX V hn)) (fun h => rfl) (by decide) er
theorem A_wo (I : Kn0 k H v A L Gn al bn P Q) (x : Int32) : Agr k (m_L_valueWithout 0 x 31 H) (m_X6_valueWithout 20 x) := by
  obtain ⟨num, lat, w, V, C, p, a⟩ := K_b I
  obtain ⟨X, U⟩ := K_Rb I
  have h9 := X.2.1.1
  by_cases hx : 0 ≤ x.toInt ∧ x.toInt < al 0
  · obtain ⟨u, hu, rfl⟩ := i_inN (by omega) hx
    by_cases hf : (fre al).testBit u = true
    · exact Agr_ok I (ok_W (m := m_X5_valueWithout 0 (nI u)) I (c_wo V hf I.2.2.1)) fun g hg => d_woM hg X U hf
    · have hf' := Bool.eq_false_iff.mpr hf
      exact Agr_thr (t := 2) I (thW (m := m_X5_valueWithout 0 (nI u)) I (c_woX2 V hu hf')) (fun h => rfl) (by decide) fun g hg => d_wo hg X U hu hf'
  · exact Agr_thr (t := 1) I (thW (m := m_X5_valueWithout 0 x) I (c_woX1 V hx)) (fun h => rfl) (by decide) fun g hg => d_woX hg X hx
theorem A_move (I : Kn0 k H v A L Gn al bn P Q) (x y : Int32) : Agr k (m_L_move 0 x y 31 H) (m_X6_move 20 x y) := by
  obtain ⟨num, lat, w, V, C, p, a⟩ := K_b I
  obtain ⟨X, U⟩ := K_Rb I
  have h3 := X.2.1.2.2.2.1
  have hM := Mw_of _ _ C
  by_cases hx : 0 ≤ x.toInt ∧ x.toInt < al 3
  · obtain ⟨i, hi, rfl⟩ := i_inN (by omega) hx
    by_cases hy : 0 ≤ y.toInt ∧ y.toInt ≤ 3
    · obtain ⟨j, hj, rfl⟩ := i_inL (n := 3) (by decide) hy
      exact Agr_ok I (okH I (c_move (K_g0 I) V.1.2.2.1 C h3 hi hj)) (rq fun g hg => d_move hg a hM h3 hi hj)
    · exact Agr_thr (t := 2) I (thH I (c_moveX2 (K_g0 I) V.1.2.2.1 C h3 hi hy)) (fun h => rfl) (by decide) fun g hg => d_moveX2 hg a h3 hi hy
  · exact Agr_thr (t := 1) I (thH I (c_moveX1 (K_g0 I) V.1.2.2.1 h3 hx)) (fun h => rfl) (by decide) fun g hg => d_moveX1 hg a h3 hx
theorem A_account (I : Kn0 k H v A L Gn al bn P Q) (x y : Int32) : Agr k (m_L_account 0 x y 31 H) (m_X6_account 20 x y) := by
  obtain ⟨num, lat, w, V, C, p, a⟩ := K_b I
  obtain ⟨X, U⟩ := K_Rb I
  have h3 := X.2.1.2.2.2.1
  have hM := Mw_of _ _ C
  by_cases hx : 0 ≤ x.toInt ∧ x.toInt ≤ 1
  · obtain ⟨i, hi, rfl⟩ := i_inL (n := 1) (by decide) hx
    by_cases hy : 0 ≤ y.toInt ∧ y.toInt ≤ 4
    · obtain ⟨j, hj, rfl⟩ := i_inL (n := 4) (by decide) hy
      exact Agr_ok I (okH I (c_account (K_g0 I) V.1.2.2.1 C h3 hi hj)) (rq fun g hg => d_account hg a hM h3 hi hj)
    · exact Agr_thr (t := 2) I (thH I (c_accountX2 hi hy)) (fun h => rfl) (by decide) fun g hg => d_accountX2 hg hi hy
  · exact Agr_thr (t := 1) I (thH I (c_accountX1 hx)) (fun h => rfl) (by decide) fun g hg => d_accountX1 hg hx
theorem A_value (I : Kn0 k H v A L Gn al bn P Q) : AgD k (m_X5_value 0 H) (m_X6_value 20) := by
  obtain ⟨num, lat, w, V, C, p, a⟩ := K_b I
  obtain ⟨X, U⟩ := K_Rb I
  exact AgD_ok I (ok_W (m := m_X5_value 0) I (x_value V I.2.2.1)) fun g hg => d_value hg X
theorem A_longest (I : Kn0 k H v A L Gn al bn P Q) : AgD k (m_X5_longest 0 H) (m_X6_longest 20) := by
  obtain ⟨num, lat, w, V, C, p, a⟩ := K_b I
  obtain ⟨X, U⟩ := K_Rb I
  exact AgD_ok I (ok_W (m := m_X5_longest 0) I (x_longest V I.2.2.1)) fun g hg => d_longest hg X
theorem A_shortest (I : Kn0 k H v A L Gn al bn P Q) : AgD k (m_X5_shortest 0 H) (m_X6_shortest 20) := by
  obtain ⟨num, lat, w, V, C, p, a⟩ := K_b I
  obtain ⟨X, U⟩ := K_Rb I
  exact AgD_ok I (ok_W (m := m_X5_shortest 0) I (x_shortest V I.2.2.1)) fun g hg => d_shortest hg X
theorem A_winMoves (I : Kn0 k H v A L Gn al bn P Q) : AgD k (m_X5_winningMoves 0 H) (m_X6_winningMoves 20) := by
  obtain ⟨num, lat, w, V, C, p, a⟩ := K_b I
  obtain ⟨X, U⟩ := K_Rb I
  exact AgD_ok I (ok_W (m := m_X5_winningMoves 0) I (c_winMoves V I.2.2.1)) fun g hg => d_winMoves hg X
theorem A_mean (I : Kn0 k H v A L Gn al bn P Q) : AgD k (m_X5_meanValue 0 H) (m_X6_meanValue 20) := by
  obtain ⟨num, lat, w, V, C, p, a⟩ := K_b I
  obtain ⟨X, U⟩ := K_Rb I
  exact AgD_ok I (ok_W (m := m_X5_meanValue 0) I (c_mean V I.2.2.1)) fun g hg => d_mean hg X
theorem A_errPos (I : Kn0 k H v A L Gn al bn P Q) : ∃ x H2, m_X5_errorPosition 0 H = some x ∧ (∀ {ρ : Type} {r : Option ρ}, cv H 6 20 r = r) ∧ m_X6_errorPosition 20 H = some (x, H2) ∧ InvP (k + 1) H2 := by
  obtain ⟨num, lat, w, V, C, p, a⟩ := K_b I
  obtain ⟨fl, ea, fB, c, ⟨ln, er, kd, st, en, nu, R9⟩, _, _, _, h17, _⟩ := I.2.2.2.2.2.2.2.2.2.1
  have z : 31 ≤ H.2.1 := by have := I.2.2.2.1; omega
  have g2 : gR H 5 0 2 = some 9 := at_gR V.2.1 rfl
  have g9 : gI H 3 9 2 = some ea := at_gI R9 rfl
  have hq : ∃ P' Q', CKs P' Q' L Gn ∧ (some (ea, H) : Option (Int32 × Hp)) = some (ea, wC H P' Q') := okH I rfl
  have er : m_X6_errorPosition 20 (setR v A H) = some (ea, setR (upd v 7 0) (wq A (A 7) (A 8)) H) := by
    unfold m_X6_errorPosition
    rw [yp7 z, Option.bind_some, rg17 z, Option.bind_some, wq_self]
    exact congrArg (fun q => some (q, setR (upd v 7 0) A H)) h17
  refine ⟨ea, setR (upd v 7 0) (wq A (A 7) (A 8)) H, ?_, fun {ρ} {r} => by rw [I.1]; exact r_cv z, (congrArg (m_X6_errorPosition 20) I.1).trans er, ?_⟩
  · unfold m_X5_errorPosition
    rw [g2, Option.bind_some, g9, Option.bind_some]
  · have h78 := congrArg (fun q : Hp => (q.1 7, q.1 8)) I.2.1
    exact InvP_q I I.2.2.1 (Fr_mono Fr_refl (fun _ e => e) (by decide) (by decide)) (congrArg Prod.fst h78) (congrArg Prod.snd h78) I.2.2.2.2.2.2.2.2.2.2
end QYS
