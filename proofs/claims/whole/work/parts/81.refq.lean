/-! what the reference answers of values: against the same numbers -/
theorem i_rem2 {a : Nat} (h : a < 2 ^ 31) : jrem (nI a) (2 : Int32) = nI (a % 2) := pk_rem (d := 2) h (by decide) (by decide)
theorem i_rem4 {a : Nat} (h : a < 2 ^ 31) : jrem (nI a) (4 : Int32) = nI (a % 4) := pk_rem (d := 4) h (by decide) (by decide)
theorem i_div4 {a : Nat} (h : a < 2 ^ 31) : jdiv (nI a) (4 : Int32) = nI (a / 4) := pk_div (d := 4) h (by decide) (by decide)
theorem i_div2 {a : Nat} (h : a < 2 ^ 31) : jdiv (nI a) (2 : Int32) = nI (a / 2) := pk_div (d := 2) h (by decide) (by decide)
theorem nI_nm1 {n : Nat} (h : n < 2 ^ 31) : ¬ nI n = (-1 : Int32) := fun e => m1_lt h (by rw [e]; exact Int32.le_refl _)
theorem p_v {x : An} {n : Nat} (h : Bd3 x n) (hn : n ≤ 9) : nI (pr x) &&& (31 : Int32) = nI x.1 := (pr_dec x.1 (by have := h.1; omega) x.2.1 (by have := h.2.1; omega) x.2.2 (by have := h.2.2; omega)).1
theorem p_l {x : An} {n : Nat} (h : Bd3 x n) (hn : n ≤ 9) : (nI (pr x) >>> ((5 : Int32) &&& 31)) &&& (31 : Int32) = nI x.2.1 := (pr_dec x.1 (by have := h.1; omega) x.2.1 (by have := h.2.1; omega) x.2.2 (by have := h.2.2; omega)).2.1
theorem p_s {x : An} {n : Nat} (h : Bd3 x n) (hn : n ≤ 9) : nI (pr x) >>> ((10 : Int32) &&& 31) = nI x.2.2 := (pr_dec x.1 (by have := h.1; omega) x.2.1 (by have := h.2.1; omega) x.2.2 (by have := h.2.2; omega)).2.2.1
def rbA : Option (Nat × Nat) → Int32
  | none => (-1 : Int32)
  | some q => nI q.1
def rbB : Option (Nat × Nat) → Int32
  | none => nI 0
  | some q => nI q.2
theorem sc1_ge {al b : Nat → Nat} {u : Nat} {s : Option (Nat × Nat)} {n : Nat} (hp : ∀ i, n ≤ i → (chs al b u).testBit i = false) : ∀ k, sc1 al b u (n + k) s = sc1 al b u n s
  | 0 => rfl
  | k + 1 => by
    have : sc1 al b u (n + (k + 1)) s = sc1 al b u (n + k + 1) s := rfl
    rw [this, sc1_s, hp (n + k) (by omega), if_neg (by decide), sc1_ge hp k]
theorem chs_hi {al b : Nat → Nat} {u i : Nat} (h : al 1 ≤ i) : (chs al b u).testBit i = false := by
  cases e : (chs al b u).testBit i
  · rfl
  · have := (chs_tb.mp e).1
    omega
theorem wof_1 {al b : Nat → Nat} {u : Nat} (h : al 1 ≤ 3) : mks (al 1) (fun c => (chs al b u).testBit c && ((brd (ly al u c)).1 == al 2 % 2)) = wof al b u := mks_ge h fun i hi => by rw [chs_hi hi, Bool.false_and]
theorem sc1_1 {al b : Nat → Nat} {u : Nat} {s : Option (Nat × Nat)} (h : al 1 ≤ 3) : sc1 al b u (al 1) s = sc1 al b u 3 s := by
  have := sc1_ge (al := al) (n := al 1) (s := s) (fun i hi => chs_hi (al := al) (b := b) (u := u) hi) (3 - al 1)
  rw [show al 1 + (3 - al 1) = 3 by omega] at this
  exact this.symm
theorem fw_ok {al b : Nat → Nat} : ∀ i, fw al b = some i → i < al 0 ∧ wof al b i ≠ 0 := by
  intro i h
  unfold fw at h
  rw [List.find?_range_eq_some] at h
  exact ⟨List.mem_range.mp h.2.1, by simpa using h.1⟩
/-- what the reference's queries stand on -/
def Rx (h : Hp) (A : Nat → Nat → Int32) (al b : Nat → Nat) : Prop := 31 ≤ h.2.1 ∧ Al A al ∧ MK al (A 7) ∧ Rg al ∧ Fw al ∧ Bk al b
section RR
variable {v : Nat → Int32} {A : Nat → Nat → Int32} {h : Hp} {al b : Nat → Nat}
theorem Rx_wq {M B : Nat → Int32} (X : Rx h A al b) (hM : MK al M) : Rx h (wq A M B) al b := ⟨X.1, Al_wq X.2.1, by rw [wq_7]; exact hM, X.2.2.2⟩
theorem q_board (X : Rx h A al b) : ∃ M B, MK al M ∧ m_X6_board 20 (setR v A h) = some (nI (pr (brd al)), setR v (wq A M B) h) := by
  obtain ⟨hz, ha, hm, R, F, hk⟩ := X
  obtain ⟨M, hM, e⟩ := y_board (v := v) hz ha hm R F
  rw [wK_wq] at e
  exact ⟨M, A 8, hM, e⟩
theorem q_boardIf (X : Rx h A al b) {u c : Nat} (hc : (chs al b u).testBit c = true) : ∃ M B, MK al M ∧ m_X6_boardIf 20 (nI u) (nI c) (setR v A h) = some (nI (pr (brd (ly al u c))), setR v (wq A M B) h) := by
  obtain ⟨hz, ha, hm, R, F, hk⟩ := X
  obtain ⟨h1, h2⟩ := chs_in hc
  exact y_boardIf hz ha hm R F h1 h2
theorem q_ly (X : Rx h A al b) {u c : Nat} (hc : (chs al b u).testBit c = true) : Bd3 (brd (ly al u c)) 9 := by
  obtain ⟨h1, h2⟩ := chs_in hc
  have := X.2.2.2.1.2.1
  exact brd_bd (Rg_ly X.2.2.2.1 (fre_0 h1).1 (by omega))
theorem q_al2 (X : Rx h A al b) : aI (setR v A h) 0 21 (2 : Int32) = some (nI (al 2)) := r_al2 X.1 X.2.1
theorem q_al1 (X : Rx h A al b) : aI (setR v A h) 0 21 (1 : Int32) = some (nI (al 1)) := r_al1 X.1 X.2.1
theorem q_al0 (X : Rx h A al b) : aI (setR v A h) 0 21 (0 : Int32) = some (nI (al 0)) := r_al0 X.1 X.2.1
theorem q_valueNow (X : Rx h A al b) : ∃ M B, MK al M ∧ m_X6_valueNow 20 (setR v A h) = some (nI ((brd al).1 ^^^ al 2 % 2), setR v (wq A M B) h) := by
  obtain ⟨M, B, hM, e⟩ := q_board (v := v) X
  have h2 := X.2.2.2.1.2.2.1
  refine ⟨M, B, hM, ?_⟩
  unfold m_X6_valueNow
  rw [r_cv X.1, e, e_b2, r_a X.1, Option.bind_some, q_al2 (Rx_wq X hM), Option.bind_some, p_v (brd_bd X.2.2.2.1) (by decide), i_rem2 (by omega), nI_xor]
theorem q_passWins (X : Rx h A al b) : ∃ M B, MK al M ∧ m_X6_passWins 20 (setR v A h) = some (pwn al, setR v (wq A M B) h) := by
  have h2 := X.2.2.2.1.2.2.1
  have hb := brd_bd X.2.2.2.1
  unfold m_X6_passWins
  rw [r_a X.1, Option.bind_some, q_al2 X, Option.bind_some]
  by_cases h0 : al 2 = 0
  · refine ⟨A 7, A 8, X.2.2.1, ?_⟩
    unfold pwn
    rw [h0, if_pos (by decide), wq_self]
    rfl
  · obtain ⟨M, B, hM, e⟩ := q_board (v := v) X
    refine ⟨M, B, hM, ?_⟩
    obtain ⟨t, ht⟩ : ∃ t, al 2 = t + 1 := ⟨al 2 - 1, by omega⟩
    rw [if_neg (nI_nle (by omega) (by omega)), r_cv X.1, e, e_b2, r_a X.1, Option.bind_some, q_al2 (Rx_wq X hM), Option.bind_some, p_v hb (by decide)]
    unfold pwn
    have h1 := hb.1
    rw [ht, nI_pred, i_rem2 (by omega), nI_xor, decide_eq_true (by omega), Bool.true_and, Nat.add_sub_cancel]
    have hx : (brd al).1 ^^^ t % 2 < 2 ^ 31 := by
      have := xor_le (x := (brd al).1) (y := t % 2) (by omega) (by omega)
      omega
    rw [iZ hx]
    by_cases q : (brd al).1 ^^^ t % 2 = 0
    · rw [if_pos q, q]
      rfl
    · rw [if_neg q, beq_eq_false_iff_ne.mpr q]
theorem q_winningOn (X : Rx h A al b) {u : Nat} (hu : u < al 0) : ∃ M B, MK al M ∧ m_X6_winningOn 20 (nI u) (setR v A h) = some (nI (wof al b u), setR v (wq A M B) h) := by
  obtain ⟨hz, ha, hm, R, F, hk⟩ := id X
  have hC := R.2.1
  have h2 := R.2.2.1
  unfold m_X6_winningOn
  rw [r_cv hz, y_colours hz ha R hk hu, Option.bind_some]
  have hch := chs_lt (al := al) (b := b) (v := u) R
  have key := forQ (σ := (Nat → Int32) × (Nat → Int32)) (fun f i s => m_X6_winningOn_L11 20 (nI u) (nI (chs al b u)) (fun v7 h8 => some (v7, h8)) f (nI (mks i (fun c => (chs al b u).testBit c && ((brd (ly al u c)).1 == al 2 % 2)))) (nI i) (setR v (wq A s.1 s.2) h)) (al 1) (fun _ s => MK al s.1) (fun r => ∃ M B, MK al M ∧ r = some (nI (wof al b u), setR v (wq A M B) h)) (fun f i s hi hI e => ?_) (fun f s hI => ?_) LF 0 (A 7, A 8) (Nat.zero_le _) (by unfold LF; omega) hm
  · have key' : ∃ M B, MK al M ∧ m_X6_winningOn_L11 20 (nI u) (nI (chs al b u)) (fun v7 h8 => some (v7, h8)) LF (nI 0) (nI 0) (setR v (wq A (A 7) (A 8)) h) = some (nI (wof al b u), setR v (wq A M B) h) := key
    rw [wq_self] at key'
    exact key'
  · obtain ⟨M0, B0⟩ := s
    have hI : MK al M0 := hI
    have X0 := Rx_wq (B := B0) X hI
    have e : ∀ M1 B1, MK al M1 → ∃ M B, MK al M ∧ m_X6_winningOn_L11 20 (nI u) (nI (chs al b u)) (fun v7 h8 => some (v7, h8)) f (nI (mks (i + 1) (fun c => (chs al b u).testBit c && ((brd (ly al u c)).1 == al 2 % 2)))) (nI (i + 1)) (setR v (wq A M1 B1) h) = some (nI (wof al b u), setR v (wq A M B) h) := fun M1 B1 h1 => e (M1, B1) h1
    show ∃ M B, MK al M ∧ m_X6_winningOn_L11 20 (nI u) (nI (chs al b u)) (fun v7 h8 => some (v7, h8)) (f + 1) (nI (mks i (fun c => (chs al b u).testBit c && ((brd (ly al u c)).1 == al 2 % 2)))) (nI i) (setR v (wq A M0 B0) h) = some (nI (wof al b u), setR v (wq A M B) h)
    rw [m_X6_winningOn_L11, r_a hz, Option.bind_some, q_al1 X0, Option.bind_some, iNle hi (by omega), nI_bit (by omega) (by omega)]
    simp only [e_jK, e_nm]
    by_cases hc : (chs al b u).testBit i = true
    · obtain ⟨M1, B1, hM1, e1⟩ := q_boardIf (v := v) X0 hc
      rw [wq_wq] at e1
      have hb := q_ly X hc
      have hb1 := hb.1
      have e' := e M1 B1 hM1
      rw [mks, hc, Bool.true_and] at e'
      rw [hc, if_pos (by decide), r_cv hz, e1, e_b2, r_a hz, Option.bind_some, q_al2 (Rx_wq X hM1), Option.bind_some, p_v hb (by decide), i_rem2 (by omega), nI_xor, nI_sh (by omega), nI_or, nI_1]
      have hx : (brd (ly al u i)).1 ^^^ al 2 % 2 < 2 ^ 31 := by
        have := xor_le (x := (brd (ly al u i)).1) (y := al 2 % 2) (by omega) (by omega)
        omega
      rw [iZ hx]
      by_cases hw : (brd (ly al u i)).1 = al 2 % 2
      · rw [if_pos (by rw [hw, Nat.xor_self])]
        rw [if_pos (by rw [hw]; exact beq_self_eq_true _)] at e'
        exact e'
      · rw [if_neg (fun q => hw ((by decide +kernel : ∀ x, x < 10 → ∀ p, p < 2 → x ^^^ p = 0 → x = p) _ (by omega) _ (by omega) q))]
        rw [if_neg (fun q => hw (beq_iff_eq.mp q)), Nat.or_zero] at e'
        exact e'
    · have e' := e M0 B0 hI
      rw [mks, Bool.eq_false_iff.mpr hc, Bool.false_and, if_neg (by decide), Nat.or_zero] at e'
      rw [Bool.eq_false_iff.mpr hc, if_neg (by decide), nI_1]
      exact e'
  · obtain ⟨M0, B0⟩ := s
    have hI : MK al M0 := hI
    refine ⟨M0, B0, hI, ?_⟩
    show m_X6_winningOn_L11 20 (nI u) (nI (chs al b u)) (fun v7 h8 => some (v7, h8)) (f + 1) (nI (mks (al 1) (fun c => (chs al b u).testBit c && ((brd (ly al u c)).1 == al 2 % 2)))) (nI (al 1)) (setR v (wq A M0 B0) h) = _
    rw [m_X6_winningOn_L11, r_a hz, Option.bind_some, q_al1 (Rx_wq X hI), Option.bind_some, iLe (Nat.le_refl _) (by omega), wof_1 hC]
theorem q_sc1 (X : Rx h A al b) {u : Nat} (hu : u < al 0) {s0 : Option (Nat × Nat)} (hs0 : Gs s0) (K : Int32 → Int32 → Hp → Option (Int32 × Hp)) : ∃ M B, MK al M ∧ m_X6_best_L75 20 (nI u) (nI (chs al b u)) K LF (rbA s0) (rbB s0) (0 : Int32) (setR v A h) = K (rbA (sc1 al b u 3 s0)) (rbB (sc1 al b u 3 s0)) (setR v (wq A M B) h) := by
  obtain ⟨hz, ha, hm, R, F, hk⟩ := id X
  have hC := R.2.1
  have hN := R.1
  have h2 := R.2.2.1
  have hch := chs_lt (al := al) (b := b) (v := u) R
  have hgs : ∀ n, n ≤ 3 → Gs (sc1 al b u n s0) := by
    intro n
    induction n with
    | zero => intro _; exact hs0
    | succ n ih =>
      intro hn
      rw [sc1_s]
      by_cases hc : (chs al b u).testBit n = true
      · rw [if_pos hc]
        have := (q_ly X hc).2.1
        exact upS_gs (ih (by omega)) (by omega) (by omega)
      · rw [if_neg hc]
        exact ih (by omega)
  have key := forQ (σ := (Nat → Int32) × (Nat → Int32)) (fun f i s => m_X6_best_L75 20 (nI u) (nI (chs al b u)) K f (rbA (sc1 al b u i s0)) (rbB (sc1 al b u i s0)) (nI i) (setR v (wq A s.1 s.2) h)) (al 1) (fun _ s => MK al s.1) (fun r => ∃ M B, MK al M ∧ r = K (rbA (sc1 al b u 3 s0)) (rbB (sc1 al b u 3 s0)) (setR v (wq A M B) h)) (fun f i s hi hI e => ?_) (fun f s hI => ?_) LF 0 (A 7, A 8) (Nat.zero_le _) (by unfold LF; omega) hm
  · have key' : ∃ M B, MK al M ∧ m_X6_best_L75 20 (nI u) (nI (chs al b u)) K LF (rbA s0) (rbB s0) (nI 0) (setR v (wq A (A 7) (A 8)) h) = K (rbA (sc1 al b u 3 s0)) (rbB (sc1 al b u 3 s0)) (setR v (wq A M B) h) := key
    rw [wq_self] at key'
    exact key'
  · obtain ⟨M0, B0⟩ := s
    have hI : MK al M0 := hI
    have X0 := Rx_wq (B := B0) X hI
    have e : ∀ M1 B1, MK al M1 → ∃ M B, MK al M ∧ m_X6_best_L75 20 (nI u) (nI (chs al b u)) K f (rbA (sc1 al b u (i + 1) s0)) (rbB (sc1 al b u (i + 1) s0)) (nI (i + 1)) (setR v (wq A M1 B1) h) = K (rbA (sc1 al b u 3 s0)) (rbB (sc1 al b u 3 s0)) (setR v (wq A M B) h) := fun M1 B1 h1 => e (M1, B1) h1
    show ∃ M B, MK al M ∧ m_X6_best_L75 20 (nI u) (nI (chs al b u)) K (f + 1) (rbA (sc1 al b u i s0)) (rbB (sc1 al b u i s0)) (nI i) (setR v (wq A M0 B0) h) = K (rbA (sc1 al b u 3 s0)) (rbB (sc1 al b u 3 s0)) (setR v (wq A M B) h)
    rw [m_X6_best_L75, r_a hz, Option.bind_some, q_al1 X0, Option.bind_some, iNle hi (by omega), nI_bit (by omega) (by omega)]
    simp only [e_jK, e_nm]
    by_cases hc : (chs al b u).testBit i = true
    · obtain ⟨M1, B1, hM1, e1⟩ := q_boardIf (v := v) X0 hc
      rw [wq_wq] at e1
      have hb := q_ly X hc
      have hb2 := hb.2.1
      have e' := e M1 B1 hM1
      rw [sc1_s, if_pos hc] at e'
      rw [hc, if_pos (by decide), r_cv hz, e1, e_b2, r_a hz, Option.bind_some, q_al2 (Rx_wq X hM1), Option.bind_some, p_l hb (by decide), nI_add, if_neg (nI_nm1 (by omega)), i4, pk_mul, nI_add, nI_1]
      have hg := hgs i (by omega)
      have hx18 : (brd (ly al u i)).2.1 + al 2 ≤ 18 := by omega
      generalize sc1 al b u i s0 = s at hg e' ⊢
      generalize (brd (ly al u i)).2.1 + al 2 = x at hx18 e' ⊢
      cases s with
      | none =>
        rw [upS_n] at e'
        rw [if_pos (show rbA none = (-1 : Int32) from rfl)]
        exact e'
      | some q =>
        have hq := hg q rfl
        rw [upS_s] at e'
        rw [show rbA (some q) = nI q.1 from rfl, show rbB (some q) = nI q.2 from rfl, if_neg (nI_nm1 (by omega))]
        by_cases hxx : q.2 < x
        · rw [if_pos hxx] at e'
          rw [if_pos (nI_lt hxx (by omega))]
          exact e'
        · rw [if_neg hxx] at e'
          rw [if_neg (nI_nlt (by omega) (by omega))]
          exact e'
    · have e' := e M0 B0 hI
      rw [sc1_s, if_neg hc] at e'
      rw [Bool.eq_false_iff.mpr hc, if_neg (by decide), if_pos trivial, nI_1]
      exact e'
  · obtain ⟨M0, B0⟩ := s
    have hI : MK al M0 := hI
    refine ⟨M0, B0, hI, ?_⟩
    show m_X6_best_L75 20 (nI u) (nI (chs al b u)) K (f + 1) (rbA (sc1 al b u (al 1) s0)) (rbB (sc1 al b u (al 1) s0)) (nI (al 1)) (setR v (wq A M0 B0) h) = _
    rw [m_X6_best_L75, r_a hz, Option.bind_some, q_al1 (Rx_wq X hI), Option.bind_some, iLe (Nat.le_refl _) (by omega), sc1_1 hC]
theorem q_gs (X : Rx h A al b) : ∀ n, n ≤ 9 → Gs (scN al b n)
  | 0, _ => Gs_n
  | n + 1, hn => by
    have ih := q_gs X n (by omega)
    have h2 := X.2.2.2.1.2.2.1
    rw [sc_s]
    have hgs : ∀ k, k ≤ 3 → Gs (sc1 al b n k (scN al b n)) := by
      intro k
      induction k with
      | zero => intro _; exact ih
      | succ k ihk =>
        intro hk
        rw [sc1_s]
        by_cases hc : (chs al b n).testBit k = true
        · rw [if_pos hc]
          have := (q_ly X hc).2.1
          exact upS_gs (ihk (by omega)) (by omega) (by omega)
        · rw [if_neg hc]
          exact ihk (by omega)
    exact hgs 3 (Nat.le_refl _)
theorem q_sc (X : Rx h A al b) (K : Int32 → Int32 → Hp → Option (Int32 × Hp)) : ∃ M B, MK al M ∧ m_X6_best_L55 20 K LF (-1 : Int32) (0 : Int32) (0 : Int32) (setR v A h) = K (rbA (scN al b (al 0))) (rbB (scN al b (al 0))) (setR v (wq A M B) h) := by
  obtain ⟨hz, ha, hm, R, F, hk⟩ := id X
  have hN := R.1
  have key := forQ (σ := (Nat → Int32) × (Nat → Int32)) (fun f i s => m_X6_best_L55 20 K f (rbA (scN al b i)) (rbB (scN al b i)) (nI i) (setR v (wq A s.1 s.2) h)) (al 0) (fun _ s => MK al s.1) (fun r => ∃ M B, MK al M ∧ r = K (rbA (scN al b (al 0))) (rbB (scN al b (al 0))) (setR v (wq A M B) h)) (fun f i s hi hI e => ?_) (fun f s hI => ?_) LF 0 (A 7, A 8) (Nat.zero_le _) (by unfold LF; omega) hm
  · have key' : ∃ M B, MK al M ∧ m_X6_best_L55 20 K LF (-1 : Int32) (nI 0) (nI 0) (setR v (wq A (A 7) (A 8)) h) = K (rbA (scN al b (al 0))) (rbB (scN al b (al 0))) (setR v (wq A M B) h) := key
    rw [wq_self] at key'
    exact key'
  · obtain ⟨M0, B0⟩ := s
    have hI : MK al M0 := hI
    have X0 := Rx_wq (B := B0) X hI
    obtain ⟨M1, B1, hM1, e1⟩ := q_sc1 (v := v) X0 hi (q_gs X i (by omega)) (fun v31 v32 h33 => m_X6_best_L55 20 K f v31 v32 (nI i + 1) h33)
    obtain ⟨M2, B2, hM2, e2⟩ := e (M1, B1) hM1
    refine ⟨M2, B2, hM2, ?_⟩
    show m_X6_best_L55 20 K (f + 1) (rbA (scN al b i)) (rbB (scN al b i)) (nI i) (setR v (wq A M0 B0) h) = _
    rw [wq_wq, nI_1] at e1
    rw [m_X6_best_L55, r_a hz, Option.bind_some, q_al0 X0, Option.bind_some, iNle hi (by omega), r_cv hz, y_colours hz X0.2.1 R hk hi, Option.bind_some]
    simp only [e_nm]
    rw [nI_1]
    exact e1.trans e2
  · obtain ⟨M0, B0⟩ := s
    have hI : MK al M0 := hI
    refine ⟨M0, B0, hI, ?_⟩
    show m_X6_best_L55 20 K (f + 1) (rbA (scN al b (al 0))) (rbB (scN al b (al 0))) (nI (al 0)) (setR v (wq A M0 B0) h) = _
    rw [m_X6_best_L55, r_a hz, Option.bind_some, q_al0 (Rx_wq X hI), Option.bind_some, iLe (Nat.le_refl _) (by omega)]
theorem q_fw (X : Rx h A al b) (K1 : Hp → Option (Int32 × Hp)) (K2 : Int32 → Hp → Option (Int32 × Hp)) : ∃ M B, MK al M ∧ m_X6_best_L2 20 K1 K2 LF (0 : Int32) (setR v A h) = (fw al b).elim (K1 (setR v (wq A M B) h)) (fun i => K2 (nI i) (setR v (wq A M B) h)) := by
  obtain ⟨hz, ha, hm, R, F, hk⟩ := id X
  have hN := R.1
  have key := forQ (σ := (Nat → Int32) × (Nat → Int32)) (fun f i s => m_X6_best_L2 20 K1 K2 f (nI i) (setR v (wq A s.1 s.2) h)) (al 0) (fun i s => MK al s.1 ∧ ∀ j, j < i → wof al b j = 0) (fun r => ∃ M B, MK al M ∧ r = (fw al b).elim (K1 (setR v (wq A M B) h)) (fun i => K2 (nI i) (setR v (wq A M B) h))) (fun f i s hi hI e => ?_) (fun f s hI => ?_) LF 0 (A 7, A 8) (Nat.zero_le _) (by unfold LF; omega) ⟨hm, fun j hj => absurd hj (Nat.not_lt_zero j)⟩
  · have key' : ∃ M B, MK al M ∧ m_X6_best_L2 20 K1 K2 LF (nI 0) (setR v (wq A (A 7) (A 8)) h) = (fw al b).elim (K1 (setR v (wq A M B) h)) (fun i => K2 (nI i) (setR v (wq A M B) h)) := key
    rw [wq_self] at key'
    exact key'
  · obtain ⟨M0, B0⟩ := s
    obtain ⟨hI, hno⟩ := hI
    have hI : MK al M0 := hI
    have X0 := Rx_wq (B := B0) X hI
    have hw8 := wof_lt (al := al) (b := b) (u := i)
    obtain ⟨M1, B1, hM1, e1⟩ := q_winningOn (v := v) X0 hi
    rw [wq_wq] at e1
    show ∃ M B, MK al M ∧ m_X6_best_L2 20 K1 K2 (f + 1) (nI i) (setR v (wq A M0 B0) h) = (fw al b).elim (K1 (setR v (wq A M B) h)) (fun i => K2 (nI i) (setR v (wq A M B) h))
    rw [m_X6_best_L2, r_a hz, Option.bind_some, q_al0 X0, Option.bind_some, iNle hi (by omega), r_cv hz, e1, e_b2]
    simp only [e_nm]
    by_cases hw : wof al b i = 0
    · obtain ⟨M2, B2, hM2, e2⟩ := e (M1, B1) ⟨hM1, fun j hj => by
        by_cases hji : j = i
        · rw [hji]; exact hw
        · exact hno j (by omega)⟩
      refine ⟨M2, B2, hM2, ?_⟩
      rw [hw, if_pos (by decide), nI_1]
      exact e2
    · refine ⟨M1, B1, hM1, ?_⟩
      rw [if_neg (nI_nle (by omega) (by omega)), fw_some hi hw hno]
      rfl
  · obtain ⟨M0, B0⟩ := s
    obtain ⟨hI, hno⟩ := hI
    have hI : MK al M0 := hI
    refine ⟨M0, B0, hI, ?_⟩
    show m_X6_best_L2 20 K1 K2 (f + 1) (nI (al 0)) (setR v (wq A M0 B0) h) = _
    rw [m_X6_best_L2, r_a hz, Option.bind_some, q_al0 (Rx_wq X hI), Option.bind_some, iLe (Nat.le_refl _) (by omega), fw_none hno]
    rfl
/-- something can be done -/
def Nov (al b : Nat → Nat) : Prop := ¬ (al 2 = 0 ∧ prs al b (fre al) = 0)
theorem sc_none {n : Nat} (h : scN al b n = none) : ∀ i, i < n → ∀ c, c < 3 → (chs al b i).testBit c = false := by
  have up : ∀ s x k, upS s x k ≠ none := by
    intro s x k
    cases s with
    | none => rw [upS_n]; intro e; cases e
    | some q =>
      rw [upS_s]
      split <;> (intro e; cases e)
  have inner : ∀ i k s, sc1 al b i k s = none → s = none ∧ ∀ c, c < k → (chs al b i).testBit c = false := by
    intro i k
    induction k with
    | zero => intro s e; exact ⟨e, fun c hc => absurd hc (Nat.not_lt_zero c)⟩
    | succ k ih =>
      intro s e
      rw [sc1_s] at e
      by_cases hc : (chs al b i).testBit k = true
      · rw [if_pos hc] at e
        exact absurd e (up _ _ _)
      · rw [if_neg hc] at e
        obtain ⟨a1, a2⟩ := ih s e
        refine ⟨a1, fun c hck => ?_⟩
        by_cases hcc : c = k
        · rw [hcc]
          exact Bool.eq_false_iff.mpr hc
        · exact a2 c (by omega)
  induction n with
  | zero => intro i hi; omega
  | succ n ih =>
    rw [sc_s] at h
    obtain ⟨a1, a2⟩ := inner n 3 _ h
    intro i hi c hc
    by_cases hin : i = n
    · rw [hin]
      exact a2 c hc
    · exact ih a1 i (by omega) c hc
theorem sc_over (R : Rg al) (h : scN al b (al 0) = none) : prs al b (fre al) = 0 := by
  have hC := R.2.1
  have h0 : ∀ i, i < 9 → (if (fre al).testBit i then pop (chs al b i) else 0) = 0 := fun i _ => by
    by_cases hf : (fre al).testBit i = true
    · rw [if_pos hf]
      have e : chs al b i = 0 := bit_eq fun c => by
        rw [Nat.zero_testBit]
        refine ⟨fun q => ?_, fun q => by cases q⟩
        have := (chs_tb.mp q).1
        rw [sc_none h i (fre_0 hf).1 c (by omega)] at q
        cases q
      rw [e]
      rfl
    · rw [if_neg hf]
  have h1 := sumN_le (b := 0) (n := 9) (g := fun v => if (fre al).testBit v then pop (chs al b v) else 0) (fun i hi => Nat.le_of_eq (h0 i hi))
  unfold prs
  omega
theorem q_best (X : Rx h A al b) (hn : Nov al b) : ∃ M B, MK al M ∧ m_X6_best 20 (setR v A h) = some (nI (bsN al b), setR v (wq A M B) h) := by
  obtain ⟨hz, ha, hm, R, F, hk⟩ := id X
  have hN := R.1
  have h2 := R.2.2.1
  have hbd := (brd_bd R).2.1
  unfold m_X6_best
  obtain ⟨M1, B1, hM1, e1⟩ := q_fw (v := v) X (fun h3 => cv h3 6 20 <| b2 (m_X6_passWins 20 h3) fun bb13 h14 => if bb13 = true then some ((100 : Int32), h14) else m_X6_best_L55 20 (fun v19 v20 h21 => ((gR h21 6 20 0).bind fun a56 => (aI h21 0 a56 (2 : Int32)).bind fun x57 => if x57 ≤ 0 then some (v19, h21) else jK (κ := Hp → Option (Int32 × Hp)) (fun h58 => some ((100 : Int32), h58)) fun k59 => if v19 = (-1 : Int32) then k59 h21 else cv h21 6 20 <| b2 (m_X6_board 20 h21) fun x60 h61 => (gR h61 6 20 0).bind fun a62 => (aI h61 0 a62 (2 : Int32)).bind fun x63 => if ((((x60 >>> ((5 : Int32) &&& 31)) &&& (31 : Int32)) + x63) - (1 : Int32)) ≤ v20 then some (v19, h61) else k59 h61)) LF (-1 : Int32) (0 : Int32) (0 : Int32) h14) (fun v4 h5 => cv h5 6 20 <| b2 (m_X6_winningOn 20 v4 h5) fun x68 h69 => (m_X6_lowest x68).bind fun x70 => some ((((4 : Int32) * v4) + x70), h69))
  have X1 := Rx_wq (B := B1) X hM1
  rw [e1]
  have hbs : bsN al b = (fw al b).elim (if pwn al then 100 else (scN al b (al 0)).elim 100 (fun q => if 0 < al 2 ∧ q.2 < (brd al).2.1 + al 2 - 1 then 100 else q.1)) (fun v => 4 * v + lo (wof al b v)) := rfl
  rw [hbs]
  have hfw := fw_ok (al := al) (b := b)
  generalize fw al b = r at hfw ⊢
  cases r with
  | some i =>
    obtain ⟨hi, hw⟩ := hfw i rfl
    have hw8 := wof_lt (al := al) (b := b) (u := i)
    obtain ⟨M2, B2, hM2, e2⟩ := q_winningOn (v := v) X1 hi
    rw [wq_wq] at e2
    refine ⟨M2, B2, hM2, ?_⟩
    show (cv (setR v (wq A M1 B1) h) 6 20 <| b2 (m_X6_winningOn 20 (nI i) (setR v (wq A M1 B1) h)) fun x68 h69 => (m_X6_lowest x68).bind fun x70 => some ((((4 : Int32) * nI i) + x70), h69)) = some (nI (4 * i + lo (wof al b i)), setR v (wq A M2 B2) h)
    rw [r_cv hz, e2, e_b2, y_low (by omega) hw, Option.bind_some, i4, pk_mul, nI_add]
  | none =>
    obtain ⟨M2, B2, hM2, e2⟩ := q_passWins (v := v) X1
    rw [wq_wq] at e2
    have X2 := Rx_wq (B := B2) X hM2
    show ∃ M B, MK al M ∧ (cv (setR v (wq A M1 B1) h) 6 20 <| b2 (m_X6_passWins 20 (setR v (wq A M1 B1) h)) fun bb13 h14 => if bb13 = true then some ((100 : Int32), h14) else m_X6_best_L55 20 _ LF (-1 : Int32) (0 : Int32) (0 : Int32) h14) = some (nI (if pwn al then 100 else (scN al b (al 0)).elim 100 (fun q => if 0 < al 2 ∧ q.2 < (brd al).2.1 + al 2 - 1 then 100 else q.1)), setR v (wq A M B) h)
    rw [r_cv hz, e2, e_b2]
    by_cases hp : pwn al = true
    · refine ⟨M2, B2, hM2, ?_⟩
      rw [if_pos hp, if_pos hp]
      rfl
    · rw [if_neg hp, if_neg hp]
      obtain ⟨M3, B3, hM3, e3⟩ := q_sc (v := v) X2 (fun v19 v20 h21 => ((gR h21 6 20 0).bind fun a56 => (aI h21 0 a56 (2 : Int32)).bind fun x57 => if x57 ≤ 0 then some (v19, h21) else jK (κ := Hp → Option (Int32 × Hp)) (fun h58 => some ((100 : Int32), h58)) fun k59 => if v19 = (-1 : Int32) then k59 h21 else cv h21 6 20 <| b2 (m_X6_board 20 h21) fun x60 h61 => (gR h61 6 20 0).bind fun a62 => (aI h61 0 a62 (2 : Int32)).bind fun x63 => if ((((x60 >>> ((5 : Int32) &&& 31)) &&& (31 : Int32)) + x63) - (1 : Int32)) ≤ v20 then some (v19, h61) else k59 h61))
      rw [wq_wq] at e3
      have X3 := Rx_wq (B := B3) X hM3
      rw [e3]
      simp only [e_jK]
      have hgs := q_gs X (al 0) hN
      have hov := sc_over (b := b) R
      rw [r_a hz, Option.bind_some, q_al2 X3, Option.bind_some]
      obtain ⟨M4, B4, hM4, e4⟩ := q_board (v := v) X3
      rw [wq_wq] at e4
      generalize scN al b (al 0) = s at hgs hov ⊢
      by_cases h0 : al 2 = 0
      · refine ⟨M3, B3, hM3, ?_⟩
        rw [h0, if_pos (by decide)]
        cases s with
        | none => exact absurd ⟨h0, hov rfl⟩ hn
        | some q =>
          show some (nI q.1, _) = some (nI (if 0 < 0 ∧ q.2 < (brd al).2.1 + 0 - 1 then 100 else q.1), _)
          rw [if_neg (fun e => absurd e.1 (by decide))]
      · rw [if_neg (nI_nle (by omega) (by omega))]
        cases s with
        | none =>
          refine ⟨M3, B3, hM3, ?_⟩
          rw [if_pos (show rbA none = (-1 : Int32) from rfl)]
          rfl
        | some q =>
          have hq := hgs q rfl
          refine ⟨M4, B4, hM4, ?_⟩
          obtain ⟨m, hmm⟩ : ∃ m, (brd al).2.1 + al 2 = m + 1 := ⟨(brd al).2.1 + al 2 - 1, by omega⟩
          rw [show rbA (some q) = nI q.1 from rfl, show rbB (some q) = nI q.2 from rfl, if_neg (nI_nm1 (by omega)), r_cv hz, e4, e_b2, r_a hz, Option.bind_some, q_al2 (Rx_wq X hM4), Option.bind_some, p_l (brd_bd R) (by decide), nI_add, hmm, nI_pred]
          show (if nI m ≤ nI q.2 then some (nI q.1, _) else some ((100 : Int32), _)) = some (nI (if 0 < al 2 ∧ q.2 < m + 1 - 1 then 100 else q.1), _)
          by_cases hx : q.2 < m
          · rw [if_neg (nI_ge hx (by omega)), if_pos ⟨by omega, by omega⟩]
            rfl
          · rw [if_pos (nI_le (by omega) (by omega)), if_neg (fun e => hx (by have := e.2; omega))]
end RR
