/-! moves told, accounts -/
theorem mv_dec {t a c p q : Nat} (ht : t < 2) (ha : a < 16) (hc : c < 4) (hp : p < 16) (hq : q < 100) : nI (mvP t a c p q) &&& (1 : Int32) = nI t ∧ (nI (mvP t a c p q) >>> ((1 : Int32) &&& 31)) &&& (15 : Int32) = nI a ∧ (nI (mvP t a c p q) >>> ((5 : Int32) &&& 31)) &&& (3 : Int32) = nI c ∧ (nI (mvP t a c p q) >>> ((7 : Int32) &&& 31)) &&& (15 : Int32) = nI p ∧ nI (mvP t a c p q) >>> ((11 : Int32) &&& 31) = nI q := by
  have hb : mvP t a c p q < 2 ^ 31 := by unfold mvP; omega
  refine ⟨?_, ?_, ?_, ?_, ?_⟩
  · rw [pk_andN (by omega) 1 (by decide)]
    exact congrArg nI (by unfold mvP; omega)
  · rw [pk_shrN hb _ 1 (by decide), pk_andN (by omega) 4 (by decide)]
    exact congrArg nI (by unfold mvP; omega)
  · rw [pk_shrN hb _ 5 (by decide), pk_andN (by omega) 2 (by decide)]
    exact congrArg nI (by unfold mvP; omega)
  · rw [pk_shrN hb _ 7 (by decide), pk_andN (by omega) 4 (by decide)]
    exact congrArg nI (by unfold mvP; omega)
  · rw [pk_shrN hb _ 11 (by decide)]
    exact congrArg nI (by unfold mvP; omega)
/-- the fields of the move k -/
def mfv (al : Nat → Nat) (k : Nat) : Nat := al (40 + k) / 2 % 16
def mfc (al : Nat → Nat) (k : Nat) : Nat := al (40 + k) / 32 % 4
def mfp (al : Nat → Nat) (k : Nat) : Nat := al (40 + k) / 128 % 16
def mfq (al : Nat → Nat) (k : Nat) : Nat := al (40 + k) / 2048
/-- the moves told by the array are well formed -/
def Mw (al : Nat → Nat) (n : Nat) : Prop := ∀ k, k < n → al (40 + k) = mvP (k % 2) (mfv al k) (mfc al k) (mfp al k) (mfq al k) ∧ mfv al k ≤ 9 ∧ mfc al k ≤ 3 ∧ mfp al k ≤ 9 ∧ mfq al k ≤ 9 ∧ (mfv al k = 0 ↔ mfc al k = 0)
theorem f_of {al : Nat → Nat} {k vx cl pt pc : Nat} (e : al (40 + k) = mvP (k % 2) vx cl pt pc) (h1 : vx ≤ 9) (h2 : cl ≤ 3) (h3 : pt ≤ 9) : mfv al k = vx ∧ mfc al k = cl ∧ mfp al k = pt ∧ mfq al k = pc := by
  unfold mfv mfc mfp mfq
  rw [e]
  unfold mvP
  omega
theorem Mw_of {h : Hp} {al : Nat → Nat} : ∀ n q, Chn h al n q → Mw al n
  | 0, _, _ => fun k hk => absurd hk (Nat.not_lt_zero k)
  | n + 1, q, c => by
    obtain ⟨a, bf, vx, cl, pt, pc, e1, e2, e3, e4, e5, e6, e7, e8, e9, e10⟩ := c
    have ih := Mw_of n bf e10
    intro k hk
    by_cases hkn : k = n
    · subst hkn
      obtain ⟨a1, a2, a3, a4⟩ := f_of e4 e5 e6 e7
      rw [a1, a2, a3, a4]
      exact ⟨e4, e5, e6, e7, e8, e9⟩
    · exact ih k (by omega)
/-- the latest move of the chain -/
theorem Chn_top {h : Hp} {al : Nat → Nat} {n : Nat} {q : Option Nat} (c : Chn h al (n + 1) q) : ∃ a bf, q = some a ∧ At h a (.inr (2, [va_rf bf, .int (nI (mfv al n) - 1), .int (nI (mfc al n) - 1), .int (nI (mfp al n)), .int (if mfv al n = 0 then (-1 : Int32) else nI (mfq al n))])) ∧ Chn h al n bf := by
  obtain ⟨a, bf, vx, cl, pt, pc, e1, e2, e3, e4, e5, e6, e7, e8, e9, e10⟩ := c
  obtain ⟨a1, a2, a3, a4⟩ := f_of e4 e5 e6 e7
  rw [a1, a2, a3, a4]
  exact ⟨a, bf, e1, e3, e10⟩
/-- does the move k count -/
def ctW (al : Nat → Nat) : Nat → Nat → Bool
  | 0, k => decide (mfv al k ≠ 0)
  | 1, k => decide (mfv al k = 0)
  | 2, k => decide (mfv al k ≠ 0 ∧ 2 ≤ mfq al k)
  | 3, k => decide (mfv al k ≠ 0 ∧ mfq al k = 0)
  | _, _ => false
theorem ctW_0 {al : Nat → Nat} {k : Nat} : ctW al 0 k = decide (mfv al k ≠ 0) := rfl
theorem ctW_1 {al : Nat → Nat} {k : Nat} : ctW al 1 k = decide (mfv al k = 0) := rfl
theorem ctW_2 {al : Nat → Nat} {k : Nat} : ctW al 2 k = decide (mfv al k ≠ 0 ∧ 2 ≤ mfq al k) := rfl
theorem ctW_3 {al : Nat → Nat} {k : Nat} : ctW al 3 k = decide (mfv al k ≠ 0 ∧ mfq al k = 0) := rfl
theorem ctW_4 {al : Nat → Nat} {k : Nat} : ctW al 4 k = false := rfl
def acQ (al : Nat → Nat) (p w n : Nat) : Nat := sumN n (fun k => if k % 2 = p ∧ ctW al w k = true then 1 else 0)
def acC (al : Nat → Nat) (p n : Nat) : Nat := orN n (fun k => if k % 2 = p ∧ mfc al k ≠ 0 then 2 ^ (mfc al k - 1) else 0)
theorem acQ_le {al : Nat → Nat} {p w n : Nat} : acQ al p w n ≤ n := by
  have := sumN_le (b := 1) (n := n) (g := fun k => if k % 2 = p ∧ ctW al w k = true then 1 else 0) (fun i _ => by split <;> omega)
  unfold acQ
  omega
theorem acC_lt {al : Nat → Nat} {p : Nat} : ∀ n, acC al p n < 8
  | 0 => by
    show orN 0 _ < 8
    unfold orN
    decide
  | n + 1 => by
    have ih := acC_lt (al := al) (p := p) n
    show acC al p n ||| (if n % 2 = p ∧ mfc al n ≠ 0 then 2 ^ (mfc al n - 1) else 0) < 8
    refine or_lt (n := 3) ih ?_
    have : mfc al n < 4 := Nat.mod_lt _ (by decide)
    split
    · exact Nat.pow_lt_pow_right (by decide) (by omega)
    · decide
section CH
variable {h : Hp} {num : Nat} {al b : Nat → Nat} {lat : Option Nat}
theorem m1_neg : (-1 : Int32) < 0 := by decide
theorem nI_p {n : Nat} (hn : n < 2 ^ 31) : nI n - (1 : Int32) + (-1 : Int32) = nI n - 1 - 1 := by rw [Int32.sub_eq_add_neg (a := nI n - 1)]
theorem x_moveAt (B : BdH h 2 num al b lat) (c : Chn h al (al 3) lat) (hM : al 3 < 4096) {i : Nat} (hi : i < al 3) : ∃ a bf, m_X0_moveAt 2 (nI i) h = some (some a) ∧ At h a (.inr (2, [va_rf bf, .int (nI (mfv al i) - 1), .int (nI (mfc al i) - 1), .int (nI (mfp al i)), .int (if mfv al i = 0 then (-1 : Int32) else nI (mfq al i))])) := by
  have key : ∀ d f q, d < f → i + d < 4096 → Chn h al (i + 1 + d) q → ∃ a bf, m_X0_moveAt_L26 (nI i) h (fun v8 => some v8) f q (nI (i + d)) = some (some a) ∧ At h a (.inr (2, [va_rf bf, .int (nI (mfv al i) - 1), .int (nI (mfc al i) - 1), .int (nI (mfp al i)), .int (if mfv al i = 0 then (-1 : Int32) else nI (mfq al i))])) := by
    intro d
    induction d with
    | zero =>
      intro f q hf hb c
      obtain ⟨f, rfl⟩ : ∃ m, f = m + 1 := ⟨f - 1, by omega⟩
      obtain ⟨a, bf, rfl, A, -⟩ := Chn_top c
      refine ⟨a, bf, ?_, A⟩
      rw [m_X0_moveAt_L26, iLe (by omega) (by omega)]
    | succ d ih =>
      intro f q hf hb c
      obtain ⟨f, rfl⟩ : ∃ m, f = m + 1 := ⟨f - 1, by omega⟩
      obtain ⟨a, bf, rfl, A, c'⟩ := Chn_top (n := i + 1 + d) c
      obtain ⟨a2, bf2, e2, A2⟩ := ih f bf (by omega) (by omega) c'
      refine ⟨a2, bf2, ?_, A2⟩
      rw [m_X0_moveAt_L26, iNle (by omega) (by omega), e_nzS, at_gN A rfl, Option.bind_some]
      simp only [e_nm]
      rw [show i + (d + 1) = (i + d) + 1 by omega, pk_m1]
      exact e2
  obtain ⟨a, bf, e, A⟩ := key (al 3 - (i + 1)) LF lat (by unfold LF; omega) (by omega) (by rw [show i + 1 + (al 3 - (i + 1)) = al 3 by omega]; exact c)
  refine ⟨a, bf, ?_, A⟩
  unfold m_X0_moveAt
  rw [iNeg (by omega), bd_mk B, Option.bind_some, iLt hi (by omega), bd_lt B, Option.bind_some, Option.bind_some]
  simp only [e_nm]
  obtain ⟨m, hm⟩ : ∃ m, al 3 = m + 1 := ⟨al 3 - 1, by omega⟩
  rw [hm, nI_pred]
  rw [show i + (al 3 - (i + 1)) = m by omega] at e
  exact e
theorem x_moveAtX (B : BdH h 2 num al b lat) (hM : al 3 < 4096) {x : Int32} (hx : ¬ (0 ≤ x.toInt ∧ x.toInt < al 3)) : m_X0_moveAt 2 x h = some none := by
  unfold m_X0_moveAt
  by_cases h0 : x < 0
  · rw [if_pos h0]
  · rw [if_neg h0, bd_mk B, Option.bind_some]
    obtain ⟨j, hj, rfl⟩ := nI_of h0
    rw [nI_toInt hj] at hx
    rw [iNlt (by omega) hj]
def mvA (al : Nat → Nat) (i : Nat) : Nat → Int32
  | 0 => nI (i % 2)
  | 1 => nI (mfv al i) - 1
  | 2 => nI (mfc al i) - 1
  | _ => nI (mfp al i)
theorem c_move (g0 : gR h 5 0 0 = some 2) (B : BdH h 2 num al b lat) (c : Chn h al (al 3) lat) (hM : al 3 < 4096) {i j : Nat} (hi : i < al 3) (hj : j ≤ 3) : m_X5_move 0 (nI i) (nI j) h = some (.inl (mvA al i j), h) := by
  obtain ⟨a, bf, e, A⟩ := x_moveAt B c hM hi
  unfold m_X5_move
  rw [g0, Option.bind_some, bd_cv B, e, Option.bind_some, e_nzS]
  have hj' : j = 0 ∨ j = 1 ∨ j = 2 ∨ j = 3 := by omega
  rcases hj' with rfl | rfl | rfl | rfl
  · rw [sw_0, i_rem2 (by omega)]; rfl
  · rw [sw_s (by decide), sw_0, at_gI A rfl, Option.bind_some]; rfl
  · iterate 2 rw [sw_s (by decide)]
    rw [sw_0, at_gI A rfl, Option.bind_some]; rfl
  · iterate 3 rw [sw_s (by decide)]
    rw [sw_0, at_gI A rfl, Option.bind_some]; rfl
theorem c_moveX1 (g0 : gR h 5 0 0 = some 2) (B : BdH h 2 num al b lat) (hM : al 3 < 4096) {x y : Int32} (hx : ¬ (0 ≤ x.toInt ∧ x.toInt < al 3)) : m_X5_move 0 x y h = some (.inr 2, hpush h (.inr (9, [])) 6) := by
  unfold m_X5_move
  rw [g0, Option.bind_some, bd_cv B, x_moveAtX B hM hx, Option.bind_some, e_nzN]
theorem c_moveX2 (g0 : gR h 5 0 0 = some 2) (B : BdH h 2 num al b lat) (c : Chn h al (al 3) lat) (hM : al 3 < 4096) {i : Nat} {y : Int32} (hi : i < al 3) (hy : ¬ (0 ≤ y.toInt ∧ y.toInt ≤ 3)) : m_X5_move 0 (nI i) y h = some (.inr 1, hpush h (.inr (8, [])) 6) := by
  obtain ⟨a, bf, e, A⟩ := x_moveAt B c hM hi
  unfold m_X5_move
  rw [g0, Option.bind_some, bd_cv B, e, Option.bind_some, e_nzS]
  exact sw_out (n := 3) rfl hy
theorem x_counts {a w k : Nat} {bf : Option Nat} (hw : w ≤ 3) (hv : mfv al k ≤ 9) (hq : mfq al k ≤ 9) (A : At h a (.inr (2, [va_rf bf, .int (nI (mfv al k) - 1), .int (nI (mfc al k) - 1), .int (nI (mfp al k)), .int (if mfv al k = 0 then (-1 : Int32) else nI (mfq al k))]))) : m_X2_countsAs a (nI w) h = some (ctW al w k) := by
  have hm : (nI (mfv al k) - 1 = (-1 : Int32)) = (mfv al k = 0) := by
    have := nI_sub1 (a := mfv al k) (b := 0) (by omega) (by decide)
    rw [← i_m1'] at this
    exact propext this
  have hw' : w = 0 ∨ w = 1 ∨ w = 2 ∨ w = 3 := by omega
  unfold m_X2_countsAs
  rcases hw' with rfl | rfl | rfl | rfl
  · rw [sw_0, at_gI A rfl, Option.bind_some]
    rw [ctW_0]
    by_cases h0 : mfv al k = 0
    · rw [if_pos (by rw [hm]; exact h0), decide_eq_false (fun e => e h0)]
    · rw [if_neg (by rw [hm]; exact h0), decide_eq_true h0]
  · rw [sw_s (by decide), sw_0, at_gI A rfl, Option.bind_some]
    rw [ctW_1]
    by_cases h0 : mfv al k = 0
    · rw [if_pos (by rw [hm]; exact h0), decide_eq_true h0]
    · rw [if_neg (by rw [hm]; exact h0), decide_eq_false h0]
  · iterate 2 rw [sw_s (by decide)]
    rw [sw_0, at_gI A rfl, Option.bind_some]
    rw [ctW_2]
    by_cases h0 : mfv al k = 0
    · rw [if_pos (by rw [hm]; exact h0), decide_eq_false (fun e => e.1 h0)]
    · rw [if_neg (by rw [hm]; exact h0), at_gI A rfl, Option.bind_some, if_neg h0]
      by_cases h2 : 2 ≤ mfq al k
      · rw [if_neg (show ¬ nI (mfq al k) < (2 : Int32) from nI_nlt (a := mfq al k) (b := 2) h2 (by omega)), decide_eq_true ⟨h0, h2⟩]
      · rw [if_pos (show nI (mfq al k) < (2 : Int32) from nI_lt (a := mfq al k) (b := 2) (by omega) (by decide)), decide_eq_false (fun e => h2 e.2)]
  · iterate 3 rw [sw_s (by decide)]
    rw [sw_0, at_gI A rfl, Option.bind_some]
    rw [ctW_3]
    by_cases h0 : mfv al k = 0
    · rw [if_pos (by rw [hm]; exact h0), decide_eq_false (fun e => e.1 h0)]
    · rw [if_neg (by rw [hm]; exact h0), at_gI A rfl, Option.bind_some, if_neg h0, iZ (by omega)]
      by_cases h2 : mfq al k = 0
      · rw [if_pos h2, decide_eq_true ⟨h0, h2⟩]
      · rw [if_neg h2, decide_eq_false (fun e => h2 e.2)]
theorem par {k p : Nat} (hk : k < 2 ^ 31) (hp : p ≤ 1) : (nI k &&& (1 : Int32) = nI p) = (k % 2 = p) := by
  rw [show (1 : Int32) = nI 1 from rfl, nI_and, Nat.and_one_is_mod]
  exact propext (nI_eq (by omega) (by omega))
theorem x_movesBy (B : BdH h 2 num al b lat) (c : Chn h al (al 3) lat) (hM : al 3 < 4096) {p w : Nat} (hp : p ≤ 1) (hw : w ≤ 3) : m_X0_movesBy 2 (nI p) (nI w) h = some (nI (acQ al p w (al 3))) := by
  have key : ∀ n f q t, n < f → n < 4096 → Chn h al n q → m_X0_movesBy_L16 (nI p) (nI w) h (fun v9 => some v9) f (nI t) q (nI n - 1) = some (nI (t + acQ al p w n)) := by
    intro n
    induction n with
    | zero =>
      intro f q t hf hb c
      obtain ⟨f, rfl⟩ : ∃ m, f = m + 1 := ⟨f - 1, by omega⟩
      rw [m_X0_movesBy_L16, if_pos (by decide)]
      rfl
    | succ n ih =>
      intro f q t hf hb c
      obtain ⟨f, rfl⟩ : ∃ m, f = m + 1 := ⟨f - 1, by omega⟩
      have hmw := Mw_of _ _ c n (by omega)
      obtain ⟨a, bf, rfl, A, c'⟩ := Chn_top c
      have hs : acQ al p w (n + 1) = acQ al p w n + (if n % 2 = p ∧ ctW al w n = true then 1 else 0) := rfl
      rw [m_X0_movesBy_L16, nI_pred, iNeg (by omega), e_nzS]
      simp only [e_jK, e_nm]
      rw [at_gN A rfl, Option.bind_some, show nI n + (-1 : Int32) = nI n - 1 from (Int32.sub_eq_add_neg ..).symm, at_cv A, x_counts hw hmw.2.1 hmw.2.2.2.2.1 A, Option.bind_some, Option.bind_some, hs]
      by_cases h1 : n % 2 = p
      · rw [if_pos (by rw [par (by omega) hp]; exact h1)]
        by_cases h2 : ctW al w n = true
        · rw [if_pos h2, if_pos ⟨h1, h2⟩, nI_1, ih f bf (t + 1) (by omega) (by omega) c']
          exact congrArg some (congrArg nI (by omega))
        · rw [if_neg h2, if_neg (fun e => h2 e.2), ih f bf t (by omega) (by omega) c']
          rfl
      · rw [if_neg (by rw [par (by omega) hp]; exact h1), if_neg (fun e => h1 e.1), ih f bf t (by omega) (by omega) c']
        rfl
  unfold m_X0_movesBy
  rw [bd_lt B, Option.bind_some, bd_mk B, Option.bind_some]
  simp only [e_nm]
  have := key (al 3) LF lat 0 (by unfold LF; omega) hM c
  rw [Nat.zero_add] at this
  exact this
theorem x_coloursBy (B : BdH h 2 num al b lat) (c : Chn h al (al 3) lat) (hM : al 3 < 4096) {p : Nat} (hp : p ≤ 1) : m_X0_coloursLaidBy 2 (nI p) h = some (nI (acC al p (al 3))) := by
  have key : ∀ n f q t, n < f → n < 4096 → t < 8 → Chn h al n q → m_X0_coloursLaidBy_L15 (nI p) h (fun v8 => some v8) f (nI t) q (nI n - 1) = some (nI (t ||| acC al p n)) := by
    intro n
    induction n with
    | zero =>
      intro f q t hf hb ht c
      obtain ⟨f, rfl⟩ : ∃ m, f = m + 1 := ⟨f - 1, by omega⟩
      rw [m_X0_coloursLaidBy_L15, if_pos (by decide)]
      show some (nI t) = some (nI (t ||| orN 0 _))
      unfold orN
      rw [Nat.or_zero]
    | succ n ih =>
      intro f q t hf hb ht c
      obtain ⟨f, rfl⟩ : ∃ m, f = m + 1 := ⟨f - 1, by omega⟩
      have hmw := Mw_of _ _ c n (by omega)
      obtain ⟨a, bf, rfl, A, c'⟩ := Chn_top c
      have hm : (nI (mfc al n) - 1 = (-1 : Int32)) = (mfc al n = 0) := by
        have := nI_sub1 (a := mfc al n) (b := 0) (by omega) (by decide)
        rw [← i_m1'] at this
        exact propext this
      have hs : acC al p (n + 1) = acC al p n ||| (if n % 2 = p ∧ mfc al n ≠ 0 then 2 ^ (mfc al n - 1) else 0) := rfl
      rw [m_X0_coloursLaidBy_L15, nI_pred, iNeg (by omega), e_nzS]
      simp only [e_jK, e_nm]
      rw [at_gN A rfl, Option.bind_some, show nI n + (-1 : Int32) = nI n - 1 from (Int32.sub_eq_add_neg ..).symm, at_gI A rfl, Option.bind_some, Option.bind_some, Option.bind_some, hs]
      by_cases h1 : n % 2 = p
      · rw [if_pos (by rw [par (by omega) hp]; exact h1)]
        by_cases h2 : mfc al n = 0
        · rw [if_pos (by rw [hm]; exact h2), if_neg (fun e => e.2 h2), Nat.or_zero, ih f bf t (by omega) (by omega) ht c']
        · obtain ⟨y, hy⟩ : ∃ y, mfc al n = y + 1 := ⟨mfc al n - 1, by omega⟩
          have hfc := hmw.2.2.1
          rw [if_neg (by rw [hm]; exact h2), if_pos ⟨h1, h2⟩, hy, nI_pred, Nat.add_sub_cancel, nI_sh (by omega), nI_or, ih f bf _ (by omega) (by omega) (or_lt (n := 3) ht (Nat.pow_lt_pow_right (by decide) (by omega))) c', Nat.or_assoc, Nat.or_comm (2 ^ y)]
      · rw [if_neg (by rw [par (by omega) hp]; exact h1), if_neg (fun e => h1 e.1), Nat.or_zero, ih f bf t (by omega) (by omega) ht c']
  unfold m_X0_coloursLaidBy
  rw [bd_lt B, Option.bind_some, bd_mk B, Option.bind_some]
  simp only [e_nm]
  have := key (al 3) LF lat 0 (by unfold LF; omega) hM (by decide) c
  rw [Nat.zero_or] at this
  exact this
/-- what account answers -/
def acA (al : Nat → Nat) (p w : Nat) : Int32 := if w = 4 then nI (pop (acC al p (al 3))) else nI (acQ al p w (al 3))
theorem c_account (g0 : gR h 5 0 0 = some 2) (B : BdH h 2 num al b lat) (c : Chn h al (al 3) lat) (hM : al 3 < 4096) {p w : Nat} (hp : p ≤ 1) (hw : w ≤ 4) : m_X5_account 0 (nI p) (nI w) h = some (.inl (acA al p w), h) := by
  unfold m_X5_account acA
  have hc8 := acC_lt (al := al) (p := p) (al 3)
  rw [iNeg (by omega), if_pos (show nI p ≤ (1 : Int32) from nI_le (b := 1) hp (by decide)), iNeg (by omega), if_pos (show nI w ≤ (4 : Int32) from nI_le (b := 4) hw (by decide))]
  by_cases h4 : w = 4
  · rw [if_pos h4, if_pos (show nI w = (4 : Int32) by rw [h4]; rfl), g0, Option.bind_some, bd_cv B, x_coloursBy B c hM hp, Option.bind_some, i_bits (by omega), Option.bind_some]
  · rw [if_neg h4, if_neg (show ¬ nI w = (4 : Int32) from fun e => h4 ((nI_eq (b := 4) (by omega) (by decide)).mp e)), g0, Option.bind_some, bd_cv B, x_movesBy B c hM hp (by omega), Option.bind_some]
theorem c_accountX1 {x y : Int32} (hx : ¬ (0 ≤ x.toInt ∧ x.toInt ≤ 1)) : m_X5_account 0 x y h = some (.inr 2, hpush h (.inr (9, [])) 6) := by
  unfold m_X5_account
  by_cases h0 : x < 0
  · rw [if_pos h0]
  · obtain ⟨j, hj, rfl⟩ := nI_of h0
    rw [nI_toInt hj] at hx
    rw [if_neg h0, if_neg (show ¬ nI j ≤ (1 : Int32) from nI_ge (a := 1) (by omega) hj)]
theorem c_accountX2 {p : Nat} {y : Int32} (hp : p ≤ 1) (hy : ¬ (0 ≤ y.toInt ∧ y.toInt ≤ 4)) : m_X5_account 0 (nI p) y h = some (.inr 1, hpush h (.inr (8, [])) 6) := by
  unfold m_X5_account
  rw [iNeg (by omega), if_pos (show nI p ≤ (1 : Int32) from nI_le (b := 1) hp (by decide))]
  by_cases h0 : y < 0
  · rw [if_pos h0]
  · obtain ⟨j, hj, rfl⟩ := nI_of h0
    rw [nI_toInt hj] at hy
    rw [if_neg h0, if_neg (show ¬ nI j ≤ (4 : Int32) from nI_ge (a := 4) (by omega) hj)]
end CH
section RR
variable {v : Nat → Int32} {A : Nat → Nat → Int32} {g : Hp} {al b : Nat → Nat}
theorem y_moved (hz : 31 ≤ g.2.1) (ha : AlF A al) (hm : Mw al (al 3)) (hM : al 3 < 4096) {i j : Nat} (hi : i < al 3) (hj : j ≤ 4) : m_X6_moved 20 (nI i) (nI j) (setR v A g) = some (if j = 4 then nI (mfq al i) else mvA al i j) := by
  have hmw := hm i hi
  have d := mv_dec (t := i % 2) (a := mfv al i) (c := mfc al i) (p := mfp al i) (q := mfq al i) (by omega) (by omega) (by omega) (by omega) (by omega)
  rw [← hmw.1] at d
  have hj' : j = 0 ∨ j = 1 ∨ j = 2 ∨ j = 3 ∨ j = 4 := by omega
  unfold m_X6_moved
  rw [r_a hz, Option.bind_some, show (40 : Int32) = nI 40 from rfl, nI_add, r_a0 hz (by omega), Option.bind_some, ha _ (by omega), d.1, d.2.1, d.2.2.1, d.2.2.2.1, d.2.2.2.2]
  rcases hj' with rfl | rfl | rfl | rfl | rfl
  · rw [if_pos (by decide)]; rfl
  · rw [if_neg (by decide), if_pos (by decide)]; rfl
  · rw [if_neg (by decide), if_neg (by decide), if_pos (by decide)]; rfl
  · rw [if_neg (by decide), if_neg (by decide), if_neg (by decide), if_pos (by decide)]; rfl
  · rw [if_neg (by decide), if_neg (by decide), if_neg (by decide), if_neg (by decide)]; rfl
theorem d_move (hz : 31 ≤ g.2.1) (ha : AlF A al) (hm : Mw al (al 3)) (hM : al 3 < 4096) {i j : Nat} (hi : i < al 3) (hj : j ≤ 3) : m_X6_move 20 (nI i) (nI j) (setR v A g) = some (mvA al i j, setR (upd v 7 0) A g) := by
  unfold m_X6_move
  rw [r_a hz, Option.bind_some, r_al3 hz (AlF_al ha), Option.bind_some, isIn_R _ (by omega), nI_toInt (by omega), decide_eq_true (by omega), Option.bind_some]
  simp only [e_jK]
  rw [if_pos trivial, show (3 : Int32) = nI 3 from rfl, isIn_L _ (by decide), nI_toInt (by omega), decide_eq_true (by omega), Option.bind_some, if_pos rfl]
  refine (pz0 hz).trans ?_
  rw [r_cv hz, y_moved hz ha hm hM hi (by omega), Option.bind_some, if_neg (by omega)]
theorem d_moveX1 (hz : 31 ≤ g.2.1) (ha : AlF A al) (hM : al 3 < 4096) {x y : Int32} (hx : ¬ (0 ≤ x.toInt ∧ x.toInt < al 3)) : m_X6_move 20 x y (setR v A g) = some ((0 : Int32), setR (upd v 7 (nI 1)) A g) := by
  unfold m_X6_move
  rw [r_a hz, Option.bind_some, r_al3 hz (AlF_al ha), Option.bind_some, isIn_R _ (by omega), decide_eq_false hx, Option.bind_some]
  simp only [e_jK]
  rw [if_neg (by decide)]
  exact pzT hz (t := 1) (by decide) (by decide)
theorem d_moveX2 (hz : 31 ≤ g.2.1) (ha : AlF A al) (hM : al 3 < 4096) {i : Nat} {y : Int32} (hi : i < al 3) (hy : ¬ (0 ≤ y.toInt ∧ y.toInt ≤ 3)) : m_X6_move 20 (nI i) y (setR v A g) = some ((0 : Int32), setR (upd v 7 (nI 2)) A g) := by
  unfold m_X6_move
  rw [r_a hz, Option.bind_some, r_al3 hz (AlF_al ha), Option.bind_some, isIn_R _ (by omega), nI_toInt (by omega), decide_eq_true (by omega), Option.bind_some]
  simp only [e_jK]
  rw [if_pos trivial, show (3 : Int32) = nI 3 from rfl, isIn_L _ (by decide), decide_eq_false (show ¬ (0 ≤ y.toInt ∧ y.toInt ≤ ((3 : Nat) : Int)) from hy), Option.bind_some, if_neg (by decide)]
  exact pzT hz (t := 2) (by decide) (by decide)
theorem y_counts (hz : 31 ≤ g.2.1) (ha : AlF A al) (hm : Mw al (al 3)) (hM : al 3 < 4096) {i w : Nat} (hi : i < al 3) (hw : w ≤ 4) : m_X6_counts 20 (nI i) (nI w) (setR v A g) = some (ctW al w i) := by
  have hmw := hm i hi
  have hm1 : (nI (mfv al i) - 1 = (-1 : Int32)) = (mfv al i = 0) := by
    have := nI_sub1 (a := mfv al i) (b := 0) (by omega) (by decide)
    rw [← i_m1'] at this
    exact propext this
  have e1 : m_X6_moved 20 (nI i) (1 : Int32) (setR v A g) = some (nI (mfv al i) - 1) := y_moved (j := 1) hz ha hm hM hi (by decide)
  have e4 : m_X6_moved 20 (nI i) (4 : Int32) (setR v A g) = some (nI (mfq al i)) := y_moved (j := 4) hz ha hm hM hi (by decide)
  unfold m_X6_counts
  rw [r_cv hz, e1, Option.bind_some]
  simp only [e_jK]
  have hw' : w = 0 ∨ w = 1 ∨ w = 2 ∨ w = 3 ∨ w = 4 := by omega
  have hq9 := hmw.2.2.2.2.1
  by_cases h0 : mfv al i = 0
  · rw [if_pos (by rw [hm1]; exact h0)]
    rcases hw' with rfl | rfl | rfl | rfl | rfl
    · rw [if_neg (by decide), if_pos trivial, ctW_0, decide_eq_false (fun e => e h0)]
    · rw [if_pos (by decide), ctW_1, decide_eq_true h0]
    · rw [if_neg (by decide), if_pos trivial, ctW_2, decide_eq_false (fun e => e.1 h0)]
    · rw [if_neg (by decide), if_pos trivial, ctW_3, decide_eq_false (fun e => e.1 h0)]
    · rw [if_neg (by decide), if_pos trivial, ctW_4]
  · rw [if_neg (by rw [hm1]; exact h0)]
    rcases hw' with rfl | rfl | rfl | rfl | rfl
    · rw [if_neg (by decide), if_neg (by decide), if_pos (by decide), ctW_0, decide_eq_true h0]
    · rw [if_pos (by decide), ctW_1, decide_eq_false h0]
    · rw [if_neg (by decide), if_neg (by decide), if_neg (by decide), if_pos (by decide), r_cv hz, e4, Option.bind_some, ctW_2]
      by_cases h2 : 2 ≤ mfq al i
      · rw [if_pos (show (1 : Int32) < nI (mfq al i) from nI_lt (a := 1) (by omega) (by omega)), decide_eq_true ⟨h0, h2⟩]
      · rw [if_neg (show ¬ (1 : Int32) < nI (mfq al i) from nI_nlt (a := 1) (b := mfq al i) (by omega) (by decide)), if_neg (by decide), decide_eq_false (fun e => h2 e.2)]
    · rw [if_neg (by decide), if_neg (by decide), if_neg (by decide), if_neg (by decide), if_pos (by decide), r_cv hz, e4, Option.bind_some, iZ (by omega), ctW_3]
      by_cases h2 : mfq al i = 0
      · rw [if_pos h2, decide_eq_true ⟨h0, h2⟩]
      · rw [if_neg h2, decide_eq_false (fun e => h2 e.2)]
    · rw [if_neg (by decide), if_neg (by decide), if_neg (by decide), if_neg (by decide), if_neg (by decide), ctW_4]
theorem d_account (hz : 31 ≤ g.2.1) (ha : AlF A al) (hm : Mw al (al 3)) (hM : al 3 < 4096) {p w : Nat} (hp : p ≤ 1) (hw : w ≤ 4) : m_X6_account 20 (nI p) (nI w) (setR v A g) = some (acA al p w, setR (upd v 7 0) A g) := by
  have hc8 := acC_lt (al := al) (p := p) (al 3)
  have hle := acQ_le (al := al) (p := p) (w := w) (n := al 3)
  have key := forQ (σ := Unit) (fun f i _ => m_X6_account_L48 20 (nI p) (nI w) (setR (upd v 7 0) A g) (fun v12 v13 => if nI w = (4 : Int32) then (m_X6_bits v13).bind fun x34 => some (x34, setR (upd v 7 0) A g) else some (v12, setR (upd v 7 0) A g)) f (nI (acQ al p w i)) (nI (acC al p i)) (nI i)) (al 3) (fun _ _ => True) (fun r => r = some (acA al p w, setR (upd v 7 0) A g)) (fun f i s hi _ e => ?_) (fun f s _ => ?_) LF 0 () (Nat.zero_le _) (by unfold LF; omega) trivial
  · unfold m_X6_account
    rw [show (1 : Int32) = nI 1 from rfl, isIn_L _ (by decide), nI_toInt (by omega), decide_eq_true (by omega), Option.bind_some]
    simp only [e_jK]
    rw [if_pos trivial, show (4 : Int32) = nI 4 from rfl, isIn_L _ (by decide), nI_toInt (by omega), decide_eq_true (by omega), Option.bind_some, if_pos rfl]
    refine (pz0 hz).trans ?_
    have key' : m_X6_account_L48 20 (nI p) (nI w) (setR (upd v 7 0) A g) (fun v12 v13 => if nI w = (4 : Int32) then (m_X6_bits v13).bind fun x34 => some (x34, setR (upd v 7 0) A g) else some (v12, setR (upd v 7 0) A g)) LF (nI 0) (nI (orN 0 (fun k => if k % 2 = p ∧ mfc al k ≠ 0 then 2 ^ (mfc al k - 1) else 0))) (nI 0) = _ := key
    unfold orN at key'
    exact key'
  · have e' := e () trivial
    show m_X6_account_L48 20 (nI p) (nI w) (setR (upd v 7 0) A g) _ (f + 1) (nI (acQ al p w i)) (nI (acC al p i)) (nI i) = _
    have e' : m_X6_account_L48 20 (nI p) (nI w) (setR (upd v 7 0) A g) (fun v12 v13 => if nI w = (4 : Int32) then (m_X6_bits v13).bind fun x34 => some (x34, setR (upd v 7 0) A g) else some (v12, setR (upd v 7 0) A g)) f (nI (acQ al p w i + (if i % 2 = p ∧ ctW al w i = true then 1 else 0))) (nI (acC al p i ||| (if i % 2 = p ∧ mfc al i ≠ 0 then 2 ^ (mfc al i - 1) else 0))) (nI (i + 1)) = _ := e'
    have hmw := hm i hi
    have hm1 : (nI (mfv al i) - 1 = (-1 : Int32)) = (mfv al i = 0) := by
      have := nI_sub1 (a := mfv al i) (b := 0) (by omega) (by decide)
      rw [← i_m1'] at this
      exact propext this
    have e0 : m_X6_moved 20 (nI i) (0 : Int32) (setR (upd v 7 0) A g) = some (nI (i % 2)) := y_moved (j := 0) hz ha hm hM hi (by decide)
    have e1 : m_X6_moved 20 (nI i) (1 : Int32) (setR (upd v 7 0) A g) = some (nI (mfv al i) - 1) := y_moved (j := 1) hz ha hm hM hi (by decide)
    have e2 : m_X6_moved 20 (nI i) (2 : Int32) (setR (upd v 7 0) A g) = some (nI (mfc al i) - 1) := y_moved (j := 2) hz ha hm hM hi (by decide)
    rw [m_X6_account_L48, r_a hz, Option.bind_some, r_al3 hz (AlF_al ha), Option.bind_some, iNle hi (by omega), r_cv hz, e0, Option.bind_some]
    simp only [e_jK, e_nm]
    by_cases h1 : i % 2 = p
    · rw [if_pos (by rw [h1]), r_cv hz, y_counts hz ha hm hM hi hw, Option.bind_some]
      have e4 : ∀ t : Int32, t = nI (if i % 2 = p ∧ mfc al i ≠ 0 then 2 ^ (mfc al i - 1) else 0) → ∀ bb, bb = ctW al w i → m_X6_account_L48 20 (nI p) (nI w) (setR (upd v 7 0) A g) (fun v12 v13 => if nI w = (4 : Int32) then (m_X6_bits v13).bind fun x34 => some (x34, setR (upd v 7 0) A g) else some (v12, setR (upd v 7 0) A g)) f (nI (acQ al p w i) + bI bb) (nI (acC al p i) ||| t) (nI i + 1) = some (acA al p w, setR (upd v 7 0) A g) := by
        rintro t rfl bb rfl
        have : bI (ctW al w i) = nI (if i % 2 = p ∧ ctW al w i = true then 1 else 0) := by
          cases hcw : ctW al w i
          · rw [if_neg (fun e => by cases e.2)]; rfl
          · rw [if_pos ⟨h1, rfl⟩]; rfl
        rw [this, nI_add, nI_or, nI_1]
        exact e'
      have ht : (if nI (mfv al i) - 1 = (-1 : Int32) then nI 0 else (1 : Int32) <<< ((nI (mfc al i) - 1) &&& 31)) = nI (if i % 2 = p ∧ mfc al i ≠ 0 then 2 ^ (mfc al i - 1) else 0) := by
        by_cases h0 : mfv al i = 0
        · rw [if_pos (by rw [hm1]; exact h0), if_neg (fun e => e.2 (hmw.2.2.2.2.2.mp h0))]
        · have hc0 : mfc al i ≠ 0 := fun e => h0 (hmw.2.2.2.2.2.mpr e)
          obtain ⟨y, hy⟩ : ∃ y, mfc al i = y + 1 := ⟨mfc al i - 1, by omega⟩
          have hfc := hmw.2.2.1
          rw [if_neg (by rw [hm1]; exact h0), if_pos ⟨h1, hc0⟩, hy, nI_pred, Nat.add_sub_cancel, nI_sh (by omega)]
      by_cases hcw : ctW al w i = true
      · rw [if_pos hcw, r_cv hz, e1, Option.bind_some]
        by_cases h0 : nI (mfv al i) - 1 = (-1 : Int32)
        · rw [if_pos h0] at ht ⊢
          exact e4 _ ht true hcw.symm
        · rw [if_neg h0] at ht ⊢
          rw [r_cv hz, e2, Option.bind_some]
          exact e4 _ ht true hcw.symm
      · rw [if_neg hcw, r_cv hz, e1, Option.bind_some]
        by_cases h0 : nI (mfv al i) - 1 = (-1 : Int32)
        · rw [if_pos h0] at ht ⊢
          exact e4 _ ht false (Bool.eq_false_iff.mpr hcw).symm
        · rw [if_neg h0] at ht ⊢
          rw [r_cv hz, e2, Option.bind_some]
          exact e4 _ ht false (Bool.eq_false_iff.mpr hcw).symm
    · rw [if_neg (show ¬ nI (i % 2) = nI p from fun e => h1 ((nI_eq (by omega) (by omega)).mp e)), nI_1]
      rw [if_neg (fun e => h1 e.1), if_neg (fun e => h1 e.1), Nat.add_zero, Nat.or_zero] at e'
      exact e'
  · show m_X6_account_L48 20 (nI p) (nI w) (setR (upd v 7 0) A g) _ (f + 1) (nI (acQ al p w (al 3))) (nI (acC al p (al 3))) (nI (al 3)) = _
    rw [m_X6_account_L48, r_a hz, Option.bind_some, r_al3 hz (AlF_al ha), Option.bind_some, iLe (Nat.le_refl _) (by omega)]
    unfold acA
    by_cases h4 : w = 4
    · rw [if_pos h4, if_pos (show nI w = (4 : Int32) by rw [h4]; rfl), y_bits (by omega), Option.bind_some]
    · rw [if_neg h4, if_neg (show ¬ nI w = (4 : Int32) from fun e => h4 ((nI_eq (b := 4) (by omega) (by decide)).mp e))]
theorem d_accountX1 (hz : 31 ≤ g.2.1) {x y : Int32} (hx : ¬ (0 ≤ x.toInt ∧ x.toInt ≤ 1)) : m_X6_account 20 x y (setR v A g) = some ((0 : Int32), setR (upd v 7 (nI 1)) A g) := by
  unfold m_X6_account
  rw [show (1 : Int32) = nI 1 from rfl, isIn_L _ (by decide), decide_eq_false (show ¬ (0 ≤ x.toInt ∧ x.toInt ≤ ((1 : Nat) : Int)) from hx), Option.bind_some]
  simp only [e_jK]
  rw [if_neg (by decide)]
  exact pzT hz (t := 1) (by decide) (by decide)
theorem d_accountX2 (hz : 31 ≤ g.2.1) {p : Nat} {y : Int32} (hp : p ≤ 1) (hy : ¬ (0 ≤ y.toInt ∧ y.toInt ≤ 4)) : m_X6_account 20 (nI p) y (setR v A g) = some ((0 : Int32), setR (upd v 7 (nI 2)) A g) := by
  unfold m_X6_account
  rw [show (1 : Int32) = nI 1 from rfl, isIn_L _ (by decide), nI_toInt (by omega), decide_eq_true (by omega), Option.bind_some]
  simp only [e_jK]
  rw [if_pos trivial, show (4 : Int32) = nI 4 from rfl, isIn_L _ (by decide), decide_eq_false (show ¬ (0 ≤ y.toInt ∧ y.toInt ≤ ((4 : Nat) : Int)) from hy), Option.bind_some, if_neg (by decide)]
  exact pzT hz (t := 2) (by decide) (by decide)
end RR
