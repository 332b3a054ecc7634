/-! the board written -/
def wby (al : Nat → Nat) (i : Nat) : Nat := if i < al 0 then (if (fre al).testBit i = true then 46 else 96 + al (22 + i)) else if i = al 0 + 1 then 48 + al 3 % 2 else if i = al 0 + 3 then 48 + al 2 else 47
abbrev cdC (w ld : Nat) : Ac := .inr (5, [.ref 2, .ref 1, .ref 9, .ref 16, .ref 18, .ref 19, .int (nI w), .int (nI ld)])
def wS (H : Hp) (w ld : Nat) (f : Nat → Int32) : Hp := hset (hset H 19 (.inl (2, 13, .inl f))) 0 (cdC w ld)
theorem i_nar : ∀ b, b < 128 → nar 2 (ji2b (nI b)) = nI b := by decide +kernel
def wbK (h4 : Hp) : Option (Int32 × Hp) :=
      cv h4 5 0 <| (m_X5_write 0 (47 : Int32) h4).bind fun h17 =>
      (gR h17 5 0 0).bind fun a18 =>
      cv h17 0 a18 <| (m_X0_turn a18 h17).bind fun x19 =>
      cv h17 5 0 <| (m_X5_write 0 ((48 : Int32) + x19) h17).bind fun h20 =>
      cv h20 5 0 <| (m_X5_write 0 (47 : Int32) h20).bind fun h21 =>
      (gR h21 5 0 0).bind fun a22 =>
      (gI h21 0 a22 3).bind fun x23 =>
      cv h21 5 0 <| (m_X5_write 0 ((48 : Int32) + x23) h21).bind fun h24 =>
      (gI h24 5 0 6).bind fun x25 =>
      some (x25, h24)
def wbR (h5 : Hp) : Option (Int32 × Hp) :=
      cv h5 6 20 <| (m_X6_says 20 (47 : Int32) h5).bind fun h16 =>
      cv h16 6 20 <| (m_X6_turn 20 h16).bind fun x17 =>
      cv h16 6 20 <| (m_X6_says 20 ((48 : Int32) + x17) h16).bind fun h18 =>
      cv h18 6 20 <| (m_X6_says 20 (47 : Int32) h18).bind fun h19 =>
      (gR h19 6 20 0).bind fun a20 =>
      (aI h19 0 a20 (2 : Int32)).bind fun x21 =>
      cv h19 6 20 <| (m_X6_says 20 ((48 : Int32) + x21) h19).bind fun h22 =>
      (gI h22 6 20 21).bind fun x23 =>
      some (x23, h22)
section WRI
variable {H g : Hp} {w ld i num : Nat} {f : Nat → Int32} {al b bn : Nat → Nat} {lat : Option Nat} {v : Nat → Int32} {A : Nat → Nat → Int32}
theorem wS_19 (hz : 32 ≤ H.2.1) : At (wS H w ld f) 19 (.inl (2, 13, .inl f)) := at_set_ne (at_hs (show 19 < H.2.1 by omega)) (by decide)
theorem wS_0 (hz : 32 ≤ H.2.1) : At (wS H w ld f) 0 (cdC w ld) := at_hs (show 0 < H.2.1 by omega)
theorem wS_fr : Fr H (wS H w ld f) (fun a => a = 0 ∨ a = 19) 0 0 := Fr_trans (n := 0) (m := 0) (Fr_set (.inr rfl)) (Fr_set (.inl rfl))
theorem wS_wS {w' ld' : Nat} {f' : Nat → Int32} : hset (hset (wS H w ld f) 19 (.inl (2, 13, .inl f'))) 0 (cdC w' ld') = wS H w' ld' f' := Prod.ext (funext fun x => by
  show (if x = 0 then _ else if x = 19 then _ else if x = 0 then _ else if x = 19 then _ else H.1 x) = (if x = 0 then _ else if x = 19 then _ else H.1 x)
  by_cases h0 : x = 0
  · simp only [if_pos h0]
  · by_cases h1 : x = 19
    · simp only [if_neg h0, if_pos h1]
    · simp only [if_neg h0, if_neg h1]) rfl
theorem x_put (hz : 32 ≤ H.2.1) {c : Nat} (hw : w < 13) (hc : c < 128) : m_X5_write 0 (nI c) (wS H w ld f) = some (wS H (w + 1) ld (upd f w (nI c))) := by
  have a0 := wS_0 (w := w) (ld := ld) (f := f) hz
  have a19 := wS_19 (w := w) (ld := ld) (f := f) hz
  have g6 : gI (wS H w ld f) 5 0 6 = some (nI w) := at_gI a0 rfl
  have g5 : gR (wS H w ld f) 5 0 5 = some 19 := at_gR a0 rfl
  unfold m_X5_write
  rw [g6, Option.bind_some, iNeg (by omega), Option.bind_some, g5, Option.bind_some, at_aN a19, Option.bind_some, iNle (by omega) (by decide), Option.bind_some, Option.bind_some, at_sI a19 hw (by decide), Option.bind_some, i_nar c hc]
  have a0' := at_set_ne (c' := (.inl (2, 13, .inl (upd f w (nI c))) : Ac)) a0 (show 0 ≠ 19 by decide)
  rw [at_gI (x := nI w) a0' rfl, Option.bind_some, at_pV a0' (Nat.le_of_ble_eq_true rfl), Option.bind_some, nI_1]
  exact congrArg some wS_wS
theorem wby_lt (R : Rg al) {i : Nat} : wby al i < 128 := by
  have h2 := R.2.2.1
  have h9 := R.1
  unfold wby
  by_cases h1 : i < al 0
  · have := (R.2.2.2.2.1 i (by omega)).2.2.1
    rw [if_pos h1]
    by_cases h3 : (fre al).testBit i = true
    · rw [if_pos h3]; decide
    · rw [if_neg h3]; omega
  · rw [if_neg h1]
    by_cases h3 : i = al 0 + 1
    · rw [if_pos h3]; omega
    · rw [if_neg h3]
      by_cases h4 : i = al 0 + 3
      · rw [if_pos h4]; omega
      · rw [if_neg h4]; decide
theorem i_col {t : Nat} (h : t ≤ 3) (h0 : t ≠ 0) : (97 : Int32) + (nI t - 1) = nI (96 + t) := (by decide +kernel : ∀ t, t < 4 → t ≠ 0 → (97 : Int32) + (nI t - 1) = nI (96 + t)) t (by omega) h0
theorem x_writeB (hz : 32 ≤ H.2.1) (hC : At H 0 (cdC w ld)) (h19 : At H 19 (.inl (2, 13, .inl f))) (B : BdH H 2 num al b lat) (R : Rg al) : ∃ f', m_X5_writeBoard 0 H = some (nI (al 0 + 4), wS H (al 0 + 4) ld f') ∧ ∀ i, i < al 0 + 4 → f' i = nI (wby al i) := by
  have h9 := R.1
  have h2 := R.2.2.1
  have Bw : ∀ {w : Nat} {f : Nat → Int32}, BdH (wS H w ld f) 2 num al b lat := fun {w f} => Fr_bd wS_fr B fun i hi e => by rcases e with e | e <;> omega
  have g0 : ∀ {w : Nat} {f : Nat → Int32}, gR (wS H w ld f) 5 0 0 = some 2 := fun {w f} => at_gR (wS_0 hz) rfl
  have ec : ∀ {w : Nat} {f : Nat → Int32} {ρ : Type} {r : Option ρ}, cv (wS H w ld f) 5 0 r = r := fun {w f ρ r} => at_cv (wS_0 hz)
  have e0 : hset H 0 (cdC 0 ld) = wS H 0 ld f := by
    unfold wS
    rw [hset_self h19]
  unfold m_X5_writeBoard
  rw [at_pV hC (Nat.le_of_ble_eq_true rfl), Option.bind_some]
  show ∃ f', m_X5_writeBoard_L7 0 wbK LF (0 : Int32) (hset H 0 (cdC 0 ld)) = _ ∧ _
  rw [e0]
  refine forQ (σ := Nat → Int32) (fun F i q => m_X5_writeBoard_L7 0 wbK F (nI i) (wS H i ld q)) (al 0) (fun i q => ∀ j, j < i → q j = nI (wby al j)) (fun r => ∃ f', r = some (nI (al 0 + 4), wS H (al 0 + 4) ld f') ∧ ∀ i, i < al 0 + 4 → f' i = nI (wby al i)) (fun F i q hi hq e => ?_) (fun F q hq => ?_) LF 0 f (Nat.zero_le _) (by unfold LF; omega) (fun j hj => absurd hj (Nat.not_lt_zero j))
  · have h22 := (R.2.2.2.2.1 i (by omega)).2.2.1
    show ∃ f', m_X5_writeBoard_L7 0 wbK (F + 1) (nI i) (wS H i ld q) = _ ∧ _
    rw [m_X5_writeBoard_L7, g0, Option.bind_some, bd_N Bw, Option.bind_some, iNle hi (by omega), Option.bind_some, bd_cv Bw, x_isFree Bw (by omega), Option.bind_some]
    simp only [e_jK, e_nm]
    have fin : ∀ c, c = wby al i → ∃ f', (cv (wS H i ld q) 5 0 <| (m_X5_write 0 (nI c) (wS H i ld q)).bind fun h11 => m_X5_writeBoard_L7 0 wbK F (nI i + 1) h11) = some (nI (al 0 + 4), wS H (al 0 + 4) ld f') ∧ ∀ i, i < al 0 + 4 → f' i = nI (wby al i) := fun c hc => by
      rw [ec, x_put hz (by omega) (by rw [hc]; exact wby_lt R), Option.bind_some, nI_1]
      refine e (upd q i (nI c)) (fun j hj => ?_)
      show (if j = i then nI c else q j) = _
      by_cases hji : j = i
      · rw [if_pos hji, hc, hji]
      · rw [if_neg hji]
        exact hq j (by omega)
    by_cases hf : (fre al).testBit i = true
    · rw [if_pos hf]
      exact fin 46 (by unfold wby; rw [if_pos hi, if_pos hf])
    · rw [if_neg hf, Option.bind_some, bd_cv Bw, x_colourOf Bw R (by omega), Option.bind_some]
      have ht0 : al (22 + i) ≠ 0 := fun e0 => hf (by rw [fre_tb, decide_eq_true hi, e0]; rfl)
      rw [i_col h22 ht0]
      exact fin (96 + al (22 + i)) (by unfold wby; rw [if_pos hi, if_neg hf])
  · show ∃ f', m_X5_writeBoard_L7 0 wbK (F + 1) (nI (al 0)) (wS H (al 0) ld q) = _ ∧ _
    rw [m_X5_writeBoard_L7, g0, Option.bind_some, bd_N Bw, Option.bind_some, iLe (Nat.le_refl _) (by omega)]
    unfold wbK
    rw [ec, show (47 : Int32) = nI 47 from rfl, x_put hz (by omega) (by decide), Option.bind_some, g0, Option.bind_some, bd_cv Bw, x_turn Bw, Option.bind_some, ec, show (48 : Int32) = nI 48 from rfl, nI_add, x_put hz (by omega) (by omega), Option.bind_some, ec, x_put hz (by omega) (by decide), Option.bind_some, g0, Option.bind_some, bd_P Bw, Option.bind_some, ec, nI_add, x_put hz (by omega) (by omega), Option.bind_some, at_gI (wS_0 hz) rfl, Option.bind_some]
    refine ⟨_, rfl, fun j hj => ?_⟩
    show (if j = al 0 + 1 + 1 + 1 then nI (48 + al 2) else if j = al 0 + 1 + 1 then nI 47 else if j = al 0 + 1 then nI (48 + al 3 % 2) else if j = al 0 then nI 47 else q j) = _
    by_cases h3 : j = al 0 + 1 + 1 + 1
    · rw [if_pos h3]; unfold wby; rw [if_neg (by omega), if_neg (by omega), if_pos (by omega)]
    · rw [if_neg h3]
      by_cases h4 : j = al 0 + 1 + 1
      · rw [if_pos h4]; unfold wby; rw [if_neg (by omega), if_neg (by omega), if_neg (by omega)]
      · rw [if_neg h4]
        by_cases h5 : j = al 0 + 1
        · rw [if_pos h5]; unfold wby; rw [if_neg (by omega), if_pos (by omega)]
        · rw [if_neg h5]
          by_cases h6 : j = al 0
          · rw [if_pos h6]; unfold wby; rw [if_neg (by omega), if_neg (by omega), if_neg (by omega)]
          · rw [if_neg h6]; exact hq j (by omega)
/-- the reference's byte -/
theorem y_says (hz : 31 ≤ g.2.1) {i : Nat} {x : Int32} (h21 : v 21 = nI i) (hi : i < 13) : m_X6_says 20 x (setR v A g) = some (setR (upd v 21 (nI (i + 1))) (updA A 9 i x) g) := by
  have s := r_sI (v := v) (A := A) (h := g) (x := x) (i := 9) (k := i) hz (by decide) (show i < 14 by omega) rfl
  unfold m_X6_says
  rw [r_30 hz, Option.bind_some, rg21 hz, h21, Option.bind_some, show sI (setR v A g) 0 30 (nI i) x = some (setR v (updA A 9 i x) g) from s, Option.bind_some, rg21 hz, h21, Option.bind_some, nI_1, yp21 hz, Option.bind_some]
theorem y_writeB (hz : 31 ≤ g.2.1) (ha : AlF A al) (R : Rg al) : ∃ v' A', m_X6_writeBoard 20 (setR v A g) = some (nI (al 0 + 4), setR v' A' g) ∧ v' 21 = nI (al 0 + 4) ∧ (∀ i, i ≠ 7 → i ≠ 21 → v' i = v i) ∧ (∀ j, j ≠ 9 → A' j = A j) ∧ ∀ i, i < al 0 + 4 → A' 9 i = nI (wby al i) := by
  have h9 := R.1
  have h2 := R.2.2.1
  unfold m_X6_writeBoard
  rw [yp7 hz, Option.bind_some, yp21 hz, Option.bind_some]
  refine forQ (σ := (Nat → Int32) × (Nat → Nat → Int32)) (fun F i q => m_X6_writeBoard_L12 20 wbR F (nI i) (setR q.1 q.2 g)) (al 0) (fun i q => q.1 21 = nI i ∧ (∀ j, j ≠ 7 → j ≠ 21 → q.1 j = v j) ∧ (∀ j, j ≠ 9 → q.2 j = A j) ∧ ∀ j, j < i → q.2 9 j = nI (wby al j)) (fun r => ∃ v' A', r = some (nI (al 0 + 4), setR v' A' g) ∧ v' 21 = nI (al 0 + 4) ∧ (∀ i, i ≠ 7 → i ≠ 21 → v' i = v i) ∧ (∀ j, j ≠ 9 → A' j = A j) ∧ ∀ i, i < al 0 + 4 → A' 9 i = nI (wby al i)) (fun F i q hi hq e => ?_) (fun F q hq => ?_) LF 0 (upd (upd v 7 0) 21 (nI 0), A) (Nat.zero_le _) (by unfold LF; omega) ⟨rfl, fun j h1 h2 => (if_neg h2).trans (if_neg h1), fun _ _ => rfl, fun j hj => absurd hj (Nat.not_lt_zero j)⟩
  · obtain ⟨v1, A1⟩ := q
    obtain ⟨q1, q2, q3, q4⟩ := hq
    have ha1 : AlF A1 al := fun k hk => by rw [show A1 0 = A 0 from q3 0 (by decide)]; exact ha k hk
    have h22 := (R.2.2.2.2.1 i (by omega)).2.2.1
    show ∃ v' A', m_X6_writeBoard_L12 20 wbR (F + 1) (nI i) (setR v1 A1 g) = _ ∧ _
    have a0 : aI (setR v1 A1 g) 0 21 (0 : Int32) = some (nI (al 0)) := (r_a0 (k := 0) hz (by decide)).trans (congrArg some (ha1 0 (by decide)))
    rw [m_X6_writeBoard_L12, r_a hz, Option.bind_some, a0, Option.bind_some, iNle hi (by omega), r_cv hz, y_isFree hz (AlF_al ha1) R (by omega), fre_v hi, Option.bind_some]
    simp only [e_jK, e_nm]
    have fin : ∀ c, c = wby al i → ∃ v' A', (cv (setR v1 A1 g) 6 20 <| (m_X6_says 20 (nI c) (setR v1 A1 g)).bind fun h11 => m_X6_writeBoard_L12 20 wbR F (nI i + 1) h11) = some (nI (al 0 + 4), setR v' A' g) ∧ v' 21 = nI (al 0 + 4) ∧ (∀ i, i ≠ 7 → i ≠ 21 → v' i = v i) ∧ (∀ j, j ≠ 9 → A' j = A j) ∧ ∀ i, i < al 0 + 4 → A' 9 i = nI (wby al i) := fun c hc => by
      rw [r_cv hz, y_says hz q1 (by omega), Option.bind_some, nI_1]
      refine e (upd v1 21 (nI (i + 1)), updA A1 9 i (nI c)) ⟨rfl, fun j h1 h2 => (if_neg h2).trans (q2 j h1 h2), fun j hj => (if_neg hj).trans (q3 j hj), fun j hj => ?_⟩
      show (if j = i then nI c else A1 9 j) = _
      by_cases hji : j = i
      · rw [if_pos hji, hc, hji]
      · rw [if_neg hji]
        exact q4 j (by omega)
    by_cases hf : (fre al).testBit i = true
    · rw [if_pos hf]
      exact fin 46 (by unfold wby; rw [if_pos hi, if_pos hf])
    · rw [if_neg hf, r_cv hz, y_colourOf hz (AlF_al ha1) (by omega), Option.bind_some]
      have ht0 : al (22 + i) ≠ 0 := fun e0 => hf (by rw [fre_tb, decide_eq_true hi, e0]; rfl)
      rw [i_col h22 ht0]
      exact fin (96 + al (22 + i)) (by unfold wby; rw [if_pos hi, if_neg hf])
  · obtain ⟨v1, A1⟩ := q
    obtain ⟨q1, q2, q3, q4⟩ := hq
    have ha1 : AlF A1 al := fun k hk => by rw [show A1 0 = A 0 from q3 0 (by decide)]; exact ha k hk
    have hau : ∀ {A2 : Nat → Nat → Int32} {i : Nat} {x : Int32}, AlF A2 al → AlF (updA A2 9 i x) al := fun h k hk => h k hk
    show ∃ v' A', m_X6_writeBoard_L12 20 wbR (F + 1) (nI (al 0)) (setR v1 A1 g) = _ ∧ _
    have a0 : aI (setR v1 A1 g) 0 21 (0 : Int32) = some (nI (al 0)) := (r_a0 (k := 0) hz (by decide)).trans (congrArg some (ha1 0 (by decide)))
    have a2 : ∀ {v2 : Nat → Int32} {A2 : Nat → Nat → Int32}, AlF A2 al → aI (setR v2 A2 g) 0 21 (2 : Int32) = some (nI (al 2)) := fun h => (r_a0 (k := 2) hz (by decide)).trans (congrArg some (h 2 (by decide)))
    rw [m_X6_writeBoard_L12, r_a hz, Option.bind_some, a0, Option.bind_some, iLe (Nat.le_refl _) (by omega)]
    unfold wbR
    rw [r_cv hz, show (47 : Int32) = nI 47 from rfl, y_says hz q1 (by omega), Option.bind_some, r_cv hz, y_turn hz (AlF_al (hau ha1)) R, Option.bind_some, r_cv hz, show (48 : Int32) = nI 48 from rfl, nI_add, y_says (i := al 0 + 1) hz rfl (by omega), Option.bind_some, r_cv hz, y_says (i := al 0 + 1 + 1) hz rfl (by omega), Option.bind_some, r_a hz, Option.bind_some, a2 (hau (hau (hau ha1))), Option.bind_some, r_cv hz, nI_add, y_says (i := al 0 + 1 + 1 + 1) hz rfl (by omega), Option.bind_some, rg21 hz, Option.bind_some]
    refine ⟨_, _, rfl, rfl, fun j h1 h2 => ?_, fun j hj => ?_, fun j hj => ?_⟩
    · exact (if_neg h2).trans ((if_neg h2).trans ((if_neg h2).trans ((if_neg h2).trans (q2 j h1 h2))))
    · exact (if_neg hj).trans ((if_neg hj).trans ((if_neg hj).trans ((if_neg hj).trans (q3 j hj))))
    · show (if j = al 0 + 1 + 1 + 1 then nI (48 + al 2) else if j = al 0 + 1 + 1 then nI 47 else if j = al 0 + 1 then nI (48 + al 3 % 2) else if j = al 0 then nI 47 else A1 9 j) = _
      by_cases h3 : j = al 0 + 1 + 1 + 1
      · rw [if_pos h3]; unfold wby; rw [if_neg (by omega), if_neg (by omega), if_pos (by omega)]
      · rw [if_neg h3]
        by_cases h4 : j = al 0 + 1 + 1
        · rw [if_pos h4]; unfold wby; rw [if_neg (by omega), if_neg (by omega), if_neg (by omega)]
        · rw [if_neg h4]
          by_cases h5 : j = al 0 + 1
          · rw [if_pos h5]; unfold wby; rw [if_neg (by omega), if_pos (by omega)]
          · rw [if_neg h5]
            by_cases h6 : j = al 0
            · rw [if_pos h6]; unfold wby; rw [if_neg (by omega), if_neg (by omega), if_neg (by omega)]
            · rw [if_neg h6]; exact q4 j (by omega)
end WRI
