/-! queries answered alike: count, vertex, reason, falls -/
theorem sw_0 {ρ : Type} {r : Option ρ} {rs : List (Option ρ)} {d : Option ρ} : sw (nI 0) (0 : Int) (r :: rs) d = r := by
  unfold sw
  rw [nI_toInt (by decide), if_neg (by omega)]
  rfl
theorem sw_s {ρ : Type} {r : Option ρ} {rs : List (Option ρ)} {d : Option ρ} {j : Nat} (hj : j + 1 < 2 ^ 31) : sw (nI (j + 1)) (0 : Int) (r :: rs) d = sw (nI j) (0 : Int) rs d := by
  unfold sw
  rw [nI_toInt hj, nI_toInt (by omega), if_neg (by omega), if_neg (by omega), show (((j + 1 : Nat) : Int) - 0).toNat = j + 1 by omega, show (((j : Nat) : Int) - 0).toNat = j by omega]
  rfl
theorem sw_n {ρ : Type} {d : Option ρ} {x : Int32} : sw x (0 : Int) [] d = d := by
  unfold sw
  split <;> rfl
theorem sw_out {ρ : Type} {rs : List (Option ρ)} {d : Option ρ} {x : Int32} {n : Nat} (hn : rs.length = n + 1) (hx : ¬ (0 ≤ x.toInt ∧ x.toInt ≤ n)) : sw x (0 : Int) rs d = d := by
  unfold sw
  by_cases h0 : x.toInt < 0
  · rw [if_pos h0]
  · rw [if_neg h0]
    have : rs.length ≤ (x.toInt - 0).toNat := by omega
    rw [List.getD_eq_getElem?_getD, List.getElem?_eq_none this]
    rfl
def edg (al : Nat → Nat) (set : Nat) : Nat := sumN 9 (fun v => if set.testBit v then pop (nrf al v &&& set) else 0) / 2
theorem edg_lt {al : Nat → Nat} {set : Nat} : sumN 9 (fun v => if set.testBit v then pop (nrf al v &&& set) else 0) ≤ 81 := by
  refine Nat.le_trans (sumN_le (b := 9) fun i _ => ?_) (by decide)
  split
  · exact pop_le
  · decide
section BD
variable {h : Hp} {o num : Nat} {al b : Nat → Nat} {lat : Option Nat}
theorem x_edges (B : BdH h o num al b lat) (R : Rg al) {set : Nat} (hset : set < 512) : m_X0_edgesIn o (nI set) h = some (nI (edg al set)) := by
  unfold m_X0_edgesIn
  refine forN (fun f i s => m_X0_edgesIn_L4 o (nI set) h (fun v5 => some (jdiv v5 (2 : Int32))) f (nI s) (nI i)) 9 (fun i => sumN i (fun v => if set.testBit v then pop (nrf al v &&& set) else 0)) _ (fun f i hi e => ?_) (fun f => ?_) LF 0 (by decide) (by decide)
  · have e' : m_X0_edgesIn_L4 o (nI set) h (fun v5 => some (jdiv v5 (2 : Int32))) f (nI (sumN i (fun v => if set.testBit v then pop (nrf al v &&& set) else 0) + (if set.testBit i then pop (nrf al i &&& set) else 0))) (nI (i + 1)) = _ := e
    show m_X0_edgesIn_L4 o (nI set) h (fun v5 => some (jdiv v5 (2 : Int32))) (f + 1) (nI (sumN i _)) (nI i) = _
    rw [m_X0_edgesIn_L4, bd_7 B, Option.bind_some, bd_n7 B, Option.bind_some, iNle hi (by decide), m_has (by omega), Option.bind_some]
    simp only [e_jK, e_nm]
    by_cases hb : set.testBit i = true
    · rw [if_pos hb] at e'
      rw [if_pos hb, Option.bind_some, bd_nr B hi, Option.bind_some, nI_and, i_bits (and_l9 (nrf_lt R hi)), Option.bind_some, nI_add, nI_1]
      exact e'
    · rw [if_neg hb, Nat.add_zero] at e'
      rw [if_neg hb, nI_1]
      exact e'
  · show m_X0_edgesIn_L4 o (nI set) h (fun v5 => some (jdiv v5 (2 : Int32))) (f + 1) (nI (sumN 9 _)) (nI 9) = _
    rw [m_X0_edgesIn_L4, bd_7 B, Option.bind_some, bd_n7 B, Option.bind_some, iLe (Nat.le_refl _) (by decide)]
    have := edg_lt (al := al) (set := set)
    rw [i_div2 (by omega)]
    rfl
theorem x_colourOf (B : BdH h o num al b lat) (R : Rg al) {u : Nat} (hu : u < 9) : m_X0_colourOf o (nI u) h = some (nI (al (22 + u)) - 1) := by
  have h3 := (R.2.2.2.2.1 u hu).2.2.1
  unfold m_X0_colourOf
  rw [bd_9 B, Option.bind_some, bd_cv B, x_coloursAt B.2.2.2.1 hu, Option.bind_some]
  have e : mks 3 (fun c => (pnf al c).testBit u) = mks 3 (fun c => al (22 + u) == c + 1) := mks_congr fun c _ => pnf_tb hu
  rw [e]
  generalize al (22 + u) = t at h3 ⊢
  have d : ∀ t, t < 4 → (if nI (mks 3 (fun c => t == c + 1)) = 0 then some (-1 : Int32) else (m_X5_least (nI (mks 3 (fun c => t == c + 1)))).bind fun x3 => some x3) = some (nI t - 1) := by decide +kernel
  exact d t (by omega)
theorem x_listOf (B : BdH h o num al b lat) (R : Rg al) {u : Nat} (hu : u < 9) : m_X0_listOf o (nI u) h = some (nI (al (4 + u))) := by
  have h8 := (R.2.2.2.2.1 u hu).1
  unfold m_X0_listOf
  rw [bd_8 B, Option.bind_some, bd_cv B, x_coloursAt B.2.2.1 hu, Option.bind_some]
  have e : mks 3 (fun c => (lsf al c).testBit u) = al (4 + u) := Nat.eq_of_testBit_eq fun i => by
    rw [tb_mks, lsf_tb hu]
    by_cases hi : i < 3
    · rw [decide_eq_true hi, Bool.true_and]
    · rw [decide_eq_false hi, Bool.false_and, tb_ge (n := 3) h8 (by omega)]
  rw [e]
theorem x_turn (B : BdH h o num al b lat) : m_X0_turn o h = some (nI (al 3 % 2)) := by
  unfold m_X0_turn
  rw [bd_mk B, Option.bind_some, show (1 : Int32) = nI 1 from rfl, nI_and, Nat.and_one_is_mod]
theorem x_pass (B : BdH h o num al b lat) : m_X0_passValue o h = some (nI (al 2 % 2)) := by
  unfold m_X0_passValue
  rw [bd_P B, Option.bind_some, show (1 : Int32) = nI 1 from rfl, nI_and, Nat.and_one_is_mod]
theorem x_hasPair (B : BdH h o num al b lat) (R : Rg al) (x y : Int32) : m_X0_hasPair o x y h = some (decide (0 ≤ x.toInt ∧ x.toInt < al 0) && decide (0 ≤ y.toInt ∧ y.toInt < al 1)) := by
  have h3 := R.2.1
  unfold m_X0_hasPair
  rw [bd_cv B, x_hasVertex B R, Option.bind_some]
  by_cases h1 : 0 ≤ x.toInt ∧ x.toInt < al 0
  · rw [decide_eq_true h1, if_pos rfl, Bool.true_and]
    by_cases h0 : y < 0
    · rw [if_pos h0, decide_eq_false]
      intro h1
      have := Int32.lt_iff_toInt_lt.mp h0
      have e : (0 : Int32).toInt = 0 := rfl
      omega
    · rw [if_neg h0, bd_C B, Option.bind_some]
      obtain ⟨j, hj, rfl⟩ := nI_of h0
      rw [nI_toInt hj]
      by_cases h1 : al 1 ≤ j
      · rw [iLe h1 hj, decide_eq_false (by omega)]
      · rw [iNle (by omega) (by omega), decide_eq_true (by omega)]
  · rw [decide_eq_false h1, if_neg (by decide), Bool.false_and]
theorem i_all {n : Nat} (hn : n ≤ 9) : (1 : Int32) <<< (nI n &&& 31) - (1 : Int32) = nI (2 ^ n - 1) := (by decide +kernel : ∀ n, n < 10 → (1 : Int32) <<< (nI n &&& 31) - (1 : Int32) = nI (2 ^ n - 1)) n (by omega)
end BD
section RR
variable {v : Nat → Int32} {A : Nat → Nat → Int32} {h : Hp} {al b : Nat → Nat}
theorem y_edges (hz : 31 ≤ h.2.1) (ha : Al A al) (R : Rg al) {set : Nat} (hset : set < 512) : m_X6_edgesIn 20 (nI set) (setR v A h) = some (nI (edg al set)) := by
  have hN := R.1
  unfold m_X6_edgesIn
  have hS : sumN (al 0) (fun v => if set.testBit v then pop (nrf al v &&& set) else 0) = sumN 9 (fun v => if set.testBit v then pop (nrf al v &&& set) else 0) := sumN_ext hN (fun _ _ => rfl) fun i h1 h2 => by
    have : nrf al i = 0 := bit_eq fun w => by
      rw [Nat.zero_testBit]
      exact ⟨fun e => by have := (nr_in R e).2.1; omega, fun e => by cases e⟩
    rw [this, Nat.zero_and]
    split <;> rfl
  refine forN (fun f i s => m_X6_edgesIn_L4 20 (nI set) (setR v A h) (fun v5 => some (jdiv v5 (2 : Int32))) f (nI s) (nI i)) (al 0) (fun i => sumN i (fun v => if set.testBit v then pop (nrf al v &&& set) else 0)) _ (fun f i hi e => ?_) (fun f => ?_) LF 0 (Nat.zero_le _) (by unfold LF; omega)
  · have e' : m_X6_edgesIn_L4 20 (nI set) (setR v A h) (fun v5 => some (jdiv v5 (2 : Int32))) f (nI (sumN i (fun v => if set.testBit v then pop (nrf al v &&& set) else 0) + (if set.testBit i then pop (nrf al i &&& set) else 0))) (nI (i + 1)) = _ := e
    show m_X6_edgesIn_L4 20 (nI set) (setR v A h) (fun v5 => some (jdiv v5 (2 : Int32))) (f + 1) (nI (sumN i _)) (nI i) = _
    rw [m_X6_edgesIn_L4, r_a hz, Option.bind_some, r_al0 hz ha, Option.bind_some, iNle hi (by omega), nI_bit (by omega) (by omega)]
    simp only [e_jK, e_nm]
    by_cases hb : set.testBit i = true
    · rw [if_pos hb] at e'
      rw [hb, if_pos (by decide), Option.bind_some, i13, nI_add, r_nr hz ha (by omega), Option.bind_some, nI_and, y_bits (and_l9 (nrf_lt R (by omega))), Option.bind_some, nI_add, nI_1]
      exact e'
    · rw [if_neg hb, Nat.add_zero] at e'
      rw [Bool.eq_false_iff.mpr hb, if_neg (by decide), Int32.add_zero, nI_1]
      exact e'
  · show m_X6_edgesIn_L4 20 (nI set) (setR v A h) (fun v5 => some (jdiv v5 (2 : Int32))) (f + 1) (nI (sumN (al 0) _)) (nI (al 0)) = _
    rw [m_X6_edgesIn_L4, r_a hz, Option.bind_some, r_al0 hz ha, Option.bind_some, iLe (Nat.le_refl _) (by omega)]
    have := edg_lt (al := al) (set := set)
    rw [hS, i_div2 (by omega)]
    rfl
theorem y_turn (hz : 31 ≤ h.2.1) (ha : Al A al) (R : Rg al) : m_X6_turn 20 (setR v A h) = some (nI (al 3 % 2)) := by
  have h3 := R.2.2.2.1
  unfold m_X6_turn
  rw [r_a hz, Option.bind_some, r_al3 hz ha, Option.bind_some, i_rem2 (by omega)]
theorem y_isVertex (hz : 31 ≤ h.2.1) (ha : Al A al) (R : Rg al) (x : Int32) : m_X6_isVertex 20 x (setR v A h) = some (decide (0 ≤ x.toInt ∧ x.toInt < al 0)) := by
  unfold m_X6_isVertex
  rw [r_a hz, Option.bind_some, r_al0 hz ha, Option.bind_some, isIn_R x (by have := R.1; omega), Option.bind_some]
theorem y_isColour (hz : 31 ≤ h.2.1) (ha : Al A al) (R : Rg al) (x : Int32) : m_X6_isColour 20 x (setR v A h) = some (decide (0 ≤ x.toInt ∧ x.toInt < al 1)) := by
  unfold m_X6_isColour
  rw [r_a hz, Option.bind_some, r_al1 hz ha, Option.bind_some, isIn_R x (by have := R.2.1; omega), Option.bind_some]
theorem pz0 {K : Hp → Option (Int32 × Hp)} (hz : 31 ≤ h.2.1) : ((pV (setR v A h) 6 20 7 (.int 0)).bind fun h4 => (gI h4 6 20 7).bind fun x5 => if x5 ≤ 0 then K h4 else some ((0 : Int32), h4)) = K (setR (upd v 7 0) A h) := by
  rw [yp7 hz, Option.bind_some, rg7 hz, Option.bind_some, pk_us, if_pos (by decide)]
theorem pzT {K : Hp → Option (Int32 × Hp)} (hz : 31 ≤ h.2.1) {t : Nat} (ht : 0 < t) (ht2 : t < 5) : ((pV (setR v A h) 6 20 7 (.int (nI t))).bind fun h4 => (gI h4 6 20 7).bind fun x5 => if x5 ≤ 0 then K h4 else some ((0 : Int32), h4)) = some ((0 : Int32), setR (upd v 7 (nI t)) A h) := by
  rw [yp7 hz, Option.bind_some, rg7 hz, Option.bind_some, pk_us, if_neg (nI_nle ht (by omega))]
end RR
/-- what count answers -/
def cnt (al b : Nat → Nat) : Nat → Int32
  | 0 => nI (al 0)
  | 1 => nI (edg al (2 ^ al 0 - 1))
  | 2 => nI (al 1)
  | 3 => nI (al 2)
  | 4 => nI (pop (fre al))
  | 5 => nI (np (nrf al) (fre al))
  | 6 => nI (al 3 % 2)
  | 7 => nI (al 3)
  | 8 => if (al 2 == 0 && prs al b (fre al) == 0) = true then 1 else 0
  | 9 => if (al 2 == 0 && prs al b (fre al) == 0) = true then 1 - nI (al 3 % 2) else -1
  | 10 => nI (prs al b (fre al))
  | 11 => nI (stk al b)
  | _ => nI (al 2 % 2)
section Q1
variable {h : Hp} {num : Nat} {al b : Nat → Nat} {lat : Option Nat}
theorem all_lt {n : Nat} (h : n ≤ 9) : 2 ^ n - 1 < 512 := (by decide : ∀ n, n < 10 → 2 ^ n - 1 < 512) n (by omega)
theorem c_count (g0 : gR h 5 0 0 = some 2) (B : BdH h 2 num al b lat) (R : Rg al) {j : Nat} (hj : j ≤ 12) : m_X5_count 0 (nI j) h = some (.inl (cnt al b j), h) := by
  have hN := R.1
  have hev : m_X0_everyVertex 2 h = some (nI (2 ^ al 0 - 1)) := by
    unfold m_X0_everyVertex
    rw [bd_N B, Option.bind_some, i_all hN]
  have hj' : j = 0 ∨ j = 1 ∨ j = 2 ∨ j = 3 ∨ j = 4 ∨ j = 5 ∨ j = 6 ∨ j = 7 ∨ j = 8 ∨ j = 9 ∨ j = 10 ∨ j = 11 ∨ j = 12 := by omega
  unfold m_X5_count
  rcases hj' with rfl | rfl | rfl | rfl | rfl | rfl | rfl | rfl | rfl | rfl | rfl | rfl | rfl
  · rw [sw_0, g0, Option.bind_some, bd_N B, Option.bind_some]; rfl
  · rw [sw_s (by decide), sw_0, g0, Option.bind_some, Option.bind_some, bd_cv B, hev, Option.bind_some, bd_cv B, x_edges B R (all_lt hN), Option.bind_some]; rfl
  · iterate 2 rw [sw_s (by decide)]
    rw [sw_0, g0, Option.bind_some, bd_C B, Option.bind_some]; rfl
  · iterate 3 rw [sw_s (by decide)]
    rw [sw_0, g0, Option.bind_some, bd_P B, Option.bind_some]; rfl
  · iterate 4 rw [sw_s (by decide)]
    rw [sw_0, g0, Option.bind_some, bd_f B, Option.bind_some, i_bits (fre_lt R), Option.bind_some]; rfl
  · iterate 5 rw [sw_s (by decide)]
    rw [sw_0, g0, Option.bind_some, Option.bind_some, bd_f B, Option.bind_some, bd_cv B, x_partsIn B R (sy_Rg R) (fre_lt R), Option.bind_some]; rfl
  · iterate 6 rw [sw_s (by decide)]
    rw [sw_0, g0, Option.bind_some, bd_cv B, x_turn B, Option.bind_some]; rfl
  · iterate 7 rw [sw_s (by decide)]
    rw [sw_0, g0, Option.bind_some, bd_mk B, Option.bind_some]; rfl
  · iterate 8 rw [sw_s (by decide)]
    rw [sw_0, g0, Option.bind_some, bd_cv B, x_isOver B R, Option.bind_some]
    show (if (al 2 == 0 && prs al b (fre al) == 0) = true then _ else _) = some ((Sum.inl (if (al 2 == 0 && prs al b (fre al) == 0) = true then (1 : Int32) else 0) : Int32 ⊕ Nat), h)
    by_cases hq : (al 2 == 0 && prs al b (fre al) == 0) = true
    · rw [if_pos hq, if_pos hq]
    · rw [if_neg hq, if_neg hq]
  · iterate 9 rw [sw_s (by decide)]
    rw [sw_0, g0, Option.bind_some, bd_cv B, x_isOver B R, Option.bind_some]
    show (if (al 2 == 0 && prs al b (fre al) == 0) = true then _ else _) = some ((Sum.inl (if (al 2 == 0 && prs al b (fre al) == 0) = true then (1 : Int32) - nI (al 3 % 2) else -1) : Int32 ⊕ Nat), h)
    by_cases hq : (al 2 == 0 && prs al b (fre al) == 0) = true
    · rw [if_pos hq, if_pos hq, Option.bind_some, bd_cv B, x_turn B, Option.bind_some]
    · rw [if_neg hq, if_neg hq]
  · iterate 10 rw [sw_s (by decide)]
    rw [sw_0, g0, Option.bind_some, Option.bind_some, bd_f B, Option.bind_some, bd_cv B, x_choicesIn B R, Option.bind_some]; rfl
  · iterate 11 rw [sw_s (by decide)]
    rw [sw_0, g0, Option.bind_some, bd_cv B, x_stuck B R, Option.bind_some]; rfl
  · iterate 12 rw [sw_s (by decide)]
    rw [sw_0, g0, Option.bind_some, bd_cv B, x_pass B, Option.bind_some]; rfl
theorem c_countX {x : Int32} (hx : ¬ (0 ≤ x.toInt ∧ x.toInt ≤ 12)) : m_X5_count 0 x h = some (.inr 1, hpush h (.inr (8, [])) 6) := by
  unfold m_X5_count
  exact sw_out (n := 12) rfl hx
variable {v : Nat → Int32} {A : Nat → Nat → Int32} {g : Hp}
theorem d_count (hz : 31 ≤ g.2.1) (ha : Al A al) (R : Rg al) (hk : Bk al b) {j : Nat} (hj : j ≤ 12) : m_X6_count 20 (nI j) (setR v A g) = some (cnt al b j, setR (upd v 7 0) A g) := by
  have hN := R.1
  have hj' : j = 0 ∨ j = 1 ∨ j = 2 ∨ j = 3 ∨ j = 4 ∨ j = 5 ∨ j = 6 ∨ j = 7 ∨ j = 8 ∨ j = 9 ∨ j = 10 ∨ j = 11 ∨ j = 12 := by omega
  unfold m_X6_count
  rw [show (12 : Int32) = nI 12 from rfl, isIn_L _ (by decide), nI_toInt (by omega), decide_eq_true (by omega), Option.bind_some]
  simp only [e_jK]
  rw [if_pos trivial]
  refine (pz0 hz).trans ?_
  rcases hj' with rfl | rfl | rfl | rfl | rfl | rfl | rfl | rfl | rfl | rfl | rfl | rfl | rfl
  · rw [sw_0, r_a hz, Option.bind_some, r_al0 hz ha, Option.bind_some]; rfl
  · rw [sw_s (by decide), sw_0, r_a hz, Option.bind_some, r_al0 hz ha, Option.bind_some, r_cv hz, i_all hN, y_edges hz ha R (all_lt hN), Option.bind_some]; rfl
  · iterate 2 rw [sw_s (by decide)]
    rw [sw_0, r_a hz, Option.bind_some, r_al1 hz ha, Option.bind_some]; rfl
  · iterate 3 rw [sw_s (by decide)]
    rw [sw_0, r_a hz, Option.bind_some, r_al2 hz ha, Option.bind_some]; rfl
  · iterate 4 rw [sw_s (by decide)]
    rw [sw_0, r_cv hz, y_freeSet hz ha R, Option.bind_some, y_bits (fre_lt R), Option.bind_some]; rfl
  · iterate 5 rw [sw_s (by decide)]
    rw [sw_0, r_cv hz, y_freeSet hz ha R, Option.bind_some, r_cv hz, y_partsIn hz ha R (sy_Rg R) (fre_lt R) (fun i hi => fre_N hi), Option.bind_some]; rfl
  · iterate 6 rw [sw_s (by decide)]
    rw [sw_0, r_cv hz, y_turn hz ha R, Option.bind_some]; rfl
  · iterate 7 rw [sw_s (by decide)]
    rw [sw_0, r_a hz, Option.bind_some, r_al3 hz ha, Option.bind_some]; rfl
  · iterate 8 rw [sw_s (by decide)]
    rw [sw_0, r_cv hz, y_isOver hz ha R hk, Option.bind_some]
    show (if (al 2 == 0 && prs al b (fre al) == 0) = true then _ else _) = some ((if (al 2 == 0 && prs al b (fre al) == 0) = true then (1 : Int32) else 0), _)
    by_cases hq : (al 2 == 0 && prs al b (fre al) == 0) = true
    · rw [if_pos hq, if_pos hq]
    · rw [if_neg hq, if_neg hq]
  · iterate 9 rw [sw_s (by decide)]
    rw [sw_0, r_cv hz, y_isOver hz ha R hk, Option.bind_some]
    show (if (al 2 == 0 && prs al b (fre al) == 0) = true then _ else _) = some ((if (al 2 == 0 && prs al b (fre al) == 0) = true then (1 : Int32) - nI (al 3 % 2) else -1), _)
    by_cases hq : (al 2 == 0 && prs al b (fre al) == 0) = true
    · rw [if_pos hq, if_pos hq, r_cv hz, y_turn hz ha R, Option.bind_some]
    · rw [if_neg hq, if_neg hq]
  · iterate 10 rw [sw_s (by decide)]
    rw [sw_0, r_cv hz, y_pairs hz ha R hk, Option.bind_some]; rfl
  · iterate 11 rw [sw_s (by decide)]
    rw [sw_0, r_cv hz, y_stuck hz ha R hk, Option.bind_some]; rfl
  · iterate 12 rw [sw_s (by decide)]
    rw [sw_n, r_a hz, Option.bind_some, r_al2 hz ha, Option.bind_some, i_rem2 (by have := R.2.2.1; omega)]; rfl
theorem d_countX (hz : 31 ≤ g.2.1) {x : Int32} (hx : ¬ (0 ≤ x.toInt ∧ x.toInt ≤ 12)) : m_X6_count 20 x (setR v A g) = some ((0 : Int32), setR (upd v 7 (nI 1)) A g) := by
  unfold m_X6_count
  rw [show (12 : Int32) = nI 12 from rfl, isIn_L _ (by decide), decide_eq_false (show ¬ (0 ≤ x.toInt ∧ x.toInt ≤ ((12 : Nat) : Int)) from hx), Option.bind_some]
  simp only [e_jK]
  rw [if_neg (by decide)]
  exact pzT hz (t := 1) (by decide) (by decide)
/-- what vertex answers -/
def vtx (al b : Nat → Nat) (u : Nat) : Nat → Int32
  | 0 => nI (al (22 + u)) - 1
  | 1 => nI (al (4 + u))
  | 2 => nI (chs al b u)
  | 3 => nI (pop (nrf al u))
  | 4 => if (fre al).testBit u = true then nI (pno (nrf al) (fre al) u 9 0) else -1
  | _ => nI (pop (nrf al u &&& fre al))
theorem c_vertex (g0 : gR h 5 0 0 = some 2) (B : BdH h 2 num al b lat) (R : Rg al) {u j : Nat} (hu : u < al 0) (hj : j ≤ 5) : m_X5_vertex 0 (nI u) (nI j) h = some (.inl (vtx al b u j), h) := by
  have hN := R.1
  have hu9 : u < 9 := by omega
  have hj' : j = 0 ∨ j = 1 ∨ j = 2 ∨ j = 3 ∨ j = 4 ∨ j = 5 := by omega
  unfold m_X5_vertex
  rw [g0, Option.bind_some, bd_cv B, x_hasVertex B R, nI_toInt (by omega), decide_eq_true (by omega), Option.bind_some, if_pos rfl]
  rcases hj' with rfl | rfl | rfl | rfl | rfl | rfl
  · rw [sw_0, Option.bind_some, bd_cv B, x_colourOf B R hu9, Option.bind_some]; rfl
  · rw [sw_s (by decide), sw_0, Option.bind_some, bd_cv B, x_listOf B R hu9, Option.bind_some]; rfl
  · iterate 2 rw [sw_s (by decide)]
    rw [sw_0, Option.bind_some, bd_cv B, x_choices B R hu9, Option.bind_some]; rfl
  · iterate 3 rw [sw_s (by decide)]
    rw [sw_0, Option.bind_some, bd_cv B, x_nb B hu9, Option.bind_some, i_bits (nrf_lt R hu9), Option.bind_some]; rfl
  · iterate 4 rw [sw_s (by decide)]
    rw [sw_0, Option.bind_some, bd_cv B, x_isFree B hu9, Option.bind_some]
    show (if (fre al).testBit u = true then _ else _) = some ((Sum.inl (if (fre al).testBit u = true then nI (pno (nrf al) (fre al) u 9 0) else (-1 : Int32)) : Int32 ⊕ Nat), h)
    by_cases hq : (fre al).testBit u = true
    · rw [if_pos hq, if_pos hq, Option.bind_some, bd_cv B, x_partNo B R (sy_Rg R) hu9, Option.bind_some]
    · rw [if_neg hq, if_neg hq]
  · iterate 5 rw [sw_s (by decide)]
    rw [sw_0, Option.bind_some, bd_cv B, x_nb B hu9, Option.bind_some, Option.bind_some, bd_f B, Option.bind_some, nI_and, i_bits (and_l9 (nrf_lt R hu9)), Option.bind_some]; rfl
theorem c_vertexX2 (g0 : gR h 5 0 0 = some 2) (B : BdH h 2 num al b lat) (R : Rg al) {u : Nat} {y : Int32} (hu : u < al 0) (hy : ¬ (0 ≤ y.toInt ∧ y.toInt ≤ 5)) : m_X5_vertex 0 (nI u) y h = some (.inr 1, hpush h (.inr (8, [])) 6) := by
  have hN := R.1
  unfold m_X5_vertex
  rw [g0, Option.bind_some, bd_cv B, x_hasVertex B R, nI_toInt (by omega), decide_eq_true (by omega), Option.bind_some, if_pos rfl]
  exact sw_out (n := 5) rfl hy
theorem c_vertexX1 (g0 : gR h 5 0 0 = some 2) (B : BdH h 2 num al b lat) (R : Rg al) {x y : Int32} (hx : ¬ (0 ≤ x.toInt ∧ x.toInt < al 0)) : m_X5_vertex 0 x y h = some (.inr 2, hpush h (.inr (9, [])) 6) := by
  unfold m_X5_vertex
  rw [g0, Option.bind_some, bd_cv B, x_hasVertex B R, decide_eq_false hx, Option.bind_some, if_neg (by decide)]
theorem d_vertex (hz : 31 ≤ g.2.1) (ha : Al A al) (R : Rg al) (hk : Bk al b) {u j : Nat} (hu : u < al 0) (hj : j ≤ 5) : m_X6_vertex 20 (nI u) (nI j) (setR v A g) = some (vtx al b u j, setR (upd v 7 0) A g) := by
  have hN := R.1
  have hu9 : u < 9 := by omega
  have hj' : j = 0 ∨ j = 1 ∨ j = 2 ∨ j = 3 ∨ j = 4 ∨ j = 5 := by omega
  unfold m_X6_vertex
  rw [r_cv hz, y_isVertex hz ha R, nI_toInt (by omega), decide_eq_true (by omega), Option.bind_some]
  simp only [e_jK]
  rw [if_pos trivial, show (5 : Int32) = nI 5 from rfl, isIn_L _ (by decide), nI_toInt (by omega), decide_eq_true (by omega), Option.bind_some, if_pos rfl]
  refine (pz0 hz).trans ?_
  rcases hj' with rfl | rfl | rfl | rfl | rfl | rfl
  · rw [sw_0, r_cv hz, y_colourOf hz ha hu9, Option.bind_some]; rfl
  · rw [sw_s (by decide), sw_0, r_a hz, Option.bind_some, i4, nI_add, r_al hz ha (by omega), Option.bind_some]; rfl
  · iterate 2 rw [sw_s (by decide)]
    rw [sw_0, r_cv hz, y_colours hz ha R hk hu, Option.bind_some]; rfl
  · iterate 3 rw [sw_s (by decide)]
    rw [sw_0, r_a hz, Option.bind_some, i13, nI_add, r_nr hz ha hu9, Option.bind_some, y_bits (nrf_lt R hu9), Option.bind_some]; rfl
  · iterate 4 rw [sw_s (by decide)]
    rw [sw_0, r_cv hz, y_isFree hz ha R hu9, Option.bind_some, fre_v hu]
    show (if (fre al).testBit u = true then _ else _) = some ((if (fre al).testBit u = true then nI (pno (nrf al) (fre al) u 9 0) else (-1 : Int32)), _)
    by_cases hq : (fre al).testBit u = true
    · rw [if_pos hq, if_pos hq, r_cv hz, y_partOf hz ha R (sy_Rg R) hq, Option.bind_some]
    · rw [if_neg hq, if_neg hq]
  · iterate 5 rw [sw_s (by decide)]
    rw [sw_n, r_a hz, Option.bind_some, i13, nI_add, r_nr hz ha hu9, Option.bind_some, r_cv hz, y_freeSet hz ha R, Option.bind_some, nI_and, y_bits (and_l9 (nrf_lt R hu9)), Option.bind_some]; rfl
theorem d_vertexX2 (hz : 31 ≤ g.2.1) (ha : Al A al) (R : Rg al) {u : Nat} {y : Int32} (hu : u < al 0) (hy : ¬ (0 ≤ y.toInt ∧ y.toInt ≤ 5)) : m_X6_vertex 20 (nI u) y (setR v A g) = some ((0 : Int32), setR (upd v 7 (nI 2)) A g) := by
  have hN := R.1
  unfold m_X6_vertex
  rw [r_cv hz, y_isVertex hz ha R, nI_toInt (by omega), decide_eq_true (by omega), Option.bind_some]
  simp only [e_jK]
  rw [if_pos trivial, show (5 : Int32) = nI 5 from rfl, isIn_L _ (by decide), decide_eq_false (show ¬ (0 ≤ y.toInt ∧ y.toInt ≤ ((5 : Nat) : Int)) from hy), Option.bind_some, if_neg (by decide)]
  exact pzT hz (t := 2) (by decide) (by decide)
theorem d_vertexX1 (hz : 31 ≤ g.2.1) (ha : Al A al) (R : Rg al) {x y : Int32} (hx : ¬ (0 ≤ x.toInt ∧ x.toInt < al 0)) : m_X6_vertex 20 x y (setR v A g) = some ((0 : Int32), setR (upd v 7 (nI 1)) A g) := by
  unfold m_X6_vertex
  rw [r_cv hz, y_isVertex hz ha R, decide_eq_false hx, Option.bind_some]
  simp only [e_jK]
  rw [if_neg (by decide)]
  exact pzT hz (t := 1) (by decide) (by decide)
theorem c_reason (g0 : gR h 5 0 0 = some 2) (B : BdH h 2 num al b lat) (R : Rg al) {u c : Nat} (hu : u < al 0) (hc : c < al 1) : m_X5_reason 0 (nI u) (nI c) h = some (.inl (nI (wn al b u c)), h) := by
  have hN := R.1
  have hC := R.2.1
  unfold m_X5_reason
  rw [g0, Option.bind_some, bd_cv B, x_hasPair B R, nI_toInt (by omega), nI_toInt (by omega), decide_eq_true (by omega), decide_eq_true (by omega), Option.bind_some, if_pos (show (true && true) = true from rfl), Option.bind_some, bd_cv B, x_whyNot B R (by omega) (by omega), Option.bind_some]
theorem c_reasonX (g0 : gR h 5 0 0 = some 2) (B : BdH h 2 num al b lat) (R : Rg al) {x y : Int32} (hx : ¬ ((0 ≤ x.toInt ∧ x.toInt < al 0) ∧ (0 ≤ y.toInt ∧ y.toInt < al 1))) : m_X5_reason 0 x y h = some (.inr 2, hpush h (.inr (9, [])) 6) := by
  unfold m_X5_reason
  rw [g0, Option.bind_some, bd_cv B, x_hasPair B R, Option.bind_some, if_neg]
  rw [Bool.and_eq_true, decide_eq_true_eq, decide_eq_true_eq]
  exact hx
theorem d_reason (hz : 31 ≤ g.2.1) (ha : Al A al) (R : Rg al) (hk : Bk al b) {u c : Nat} (hu : u < al 0) (hc : c < al 1) : m_X6_reason 20 (nI u) (nI c) (setR v A g) = some (nI (wn al b u c), setR (upd v 7 0) A g) := by
  have hN := R.1
  have hC := R.2.1
  unfold m_X6_reason
  rw [r_cv hz, y_isVertex hz ha R, nI_toInt (by omega), decide_eq_true (by omega), Option.bind_some]
  simp only [e_jK]
  rw [if_pos trivial, r_cv hz, y_isColour hz ha R, nI_toInt (by omega), decide_eq_true (by omega), Option.bind_some, if_pos rfl]
  refine (pz0 hz).trans ?_
  rw [r_cv hz, y_whyNot hz ha R hk hu hc, Option.bind_some]
theorem d_reasonX (hz : 31 ≤ g.2.1) (ha : Al A al) (R : Rg al) {x y : Int32} (hx : ¬ ((0 ≤ x.toInt ∧ x.toInt < al 0) ∧ (0 ≤ y.toInt ∧ y.toInt < al 1))) : m_X6_reason 20 x y (setR v A g) = some ((0 : Int32), setR (upd v 7 (nI 1)) A g) := by
  unfold m_X6_reason
  rw [r_cv hz, y_isVertex hz ha R, Option.bind_some]
  simp only [e_jK]
  by_cases h1 : 0 ≤ x.toInt ∧ x.toInt < al 0
  · rw [decide_eq_true h1, if_pos rfl, r_cv hz, y_isColour hz ha R, Option.bind_some, decide_eq_false (fun e => hx ⟨h1, e⟩), if_neg (by decide)]
    exact pzT hz (t := 1) (by decide) (by decide)
  · rw [decide_eq_false h1, if_neg (by decide)]
    exact pzT hz (t := 1) (by decide) (by decide)
/-- into how many parts a part falls -/
def fal (al : Nat → Nat) (u : Nat) : Nat := np (nrf al) (dif (rch (nrf al) (fre al) (2 ^ u)) (2 ^ u))
theorem c_falls (g0 : gR h 5 0 0 = some 2) (B : BdH h 2 num al b lat) (R : Rg al) {u : Nat} (hu : (fre al).testBit u = true) : m_X5_falls 0 (nI u) h = some (.inl (nI (fal al u)), h) := by
  have hN := R.1
  have hu0 := (fre_0 hu).1
  have hP : rch (nrf al) (fre al) (2 ^ u) < 512 := rch_lt (fre_lt R)
  unfold m_X5_falls
  rw [g0, Option.bind_some, bd_cv B, x_hasVertex B R, nI_toInt (by omega), decide_eq_true (by omega), Option.bind_some, if_pos rfl, Option.bind_some, bd_cv B, x_isFree B (by omega), hu, Option.bind_some, if_pos rfl, Option.bind_some, Option.bind_some, bd_cv B, x_partWith B R (by omega), Option.bind_some, bd_cv B, nI_sh (by omega), nI_dif (by omega), x_partsIn B R (sy_Rg R) (dif_l9 hP), Option.bind_some]
  rfl
theorem c_fallsX2 (g0 : gR h 5 0 0 = some 2) (B : BdH h 2 num al b lat) (R : Rg al) {u : Nat} (hu : u < al 0) (hf : (fre al).testBit u = false) : m_X5_falls 0 (nI u) h = some (.inr 3, hpush h (.inr (10, [])) 6) := by
  have hN := R.1
  unfold m_X5_falls
  rw [g0, Option.bind_some, bd_cv B, x_hasVertex B R, nI_toInt (by omega), decide_eq_true (by omega), Option.bind_some, if_pos rfl, Option.bind_some, bd_cv B, x_isFree B (by omega), hf, Option.bind_some, if_neg (by decide)]
theorem c_fallsX1 (g0 : gR h 5 0 0 = some 2) (B : BdH h 2 num al b lat) (R : Rg al) {x : Int32} (hx : ¬ (0 ≤ x.toInt ∧ x.toInt < al 0)) : m_X5_falls 0 x h = some (.inr 2, hpush h (.inr (9, [])) 6) := by
  unfold m_X5_falls
  rw [g0, Option.bind_some, bd_cv B, x_hasVertex B R, decide_eq_false hx, Option.bind_some, if_neg (by decide)]
theorem d_falls (hz : 31 ≤ g.2.1) (ha : Al A al) (R : Rg al) {u : Nat} (hu : (fre al).testBit u = true) : m_X6_falls 20 (nI u) (setR v A g) = some (nI (fal al u), setR (upd v 7 0) A g) := by
  have hN := R.1
  have hu0 := (fre_0 hu).1
  have hP : rch (nrf al) (fre al) (2 ^ u) < 512 := rch_lt (fre_lt R)
  unfold m_X6_falls
  rw [r_cv hz, y_isVertex hz ha R, nI_toInt (by omega), decide_eq_true (by omega), Option.bind_some]
  simp only [e_jK]
  rw [if_pos trivial, r_cv hz, y_isFree hz ha R (by omega), fre_v hu0, hu, Option.bind_some, if_pos rfl]
  refine (pz0 hz).trans ?_
  rw [r_cv hz, y_freeSet hz ha R, Option.bind_some, r_cv hz, y_reached hz ha R (fre_lt R) (fun i hi => fre_N hi) hu, Option.bind_some, r_cv hz, nI_sh (by omega), nI_dif (by omega), y_partsIn hz ha R (sy_Rg R) (dif_l9 hP) (fun i hi => fre_N (prt_fre R (tb_dp.mp hi).1)), Option.bind_some]
  rfl
theorem d_fallsX2 (hz : 31 ≤ g.2.1) (ha : Al A al) (R : Rg al) {u : Nat} (hu : u < al 0) (hf : (fre al).testBit u = false) : m_X6_falls 20 (nI u) (setR v A g) = some ((0 : Int32), setR (upd v 7 (nI 2)) A g) := by
  have hN := R.1
  unfold m_X6_falls
  rw [r_cv hz, y_isVertex hz ha R, nI_toInt (by omega), decide_eq_true (by omega), Option.bind_some]
  simp only [e_jK]
  rw [if_pos trivial, r_cv hz, y_isFree hz ha R (by omega), fre_v hu, hf, Option.bind_some, if_neg (by decide)]
  exact pzT hz (t := 2) (by decide) (by decide)
theorem d_fallsX1 (hz : 31 ≤ g.2.1) (ha : Al A al) (R : Rg al) {x : Int32} (hx : ¬ (0 ≤ x.toInt ∧ x.toInt < al 0)) : m_X6_falls 20 x (setR v A g) = some ((0 : Int32), setR (upd v 7 (nI 1)) A g) := by
  unfold m_X6_falls
  rw [r_cv hz, y_isVertex hz ha R, decide_eq_false hx, Option.bind_some]
  simp only [e_jK]
  rw [if_neg (by decide)]
  exact pzT hz (t := 1) (by decide) (by decide)
end Q1
