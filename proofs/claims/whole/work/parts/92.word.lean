/-! the two readers: words, numbers, ends and failures -/
def nxk (c : Nat → Nat) (n s : Nat) : Nat := tS c n (tkE c n s)
def CS (fl ea er nu : Int32) (c : Nat → Nat) (n s : Nat) (g : Hp) : Hp := setD fl ea (nI n) er (nI (ckd c n s)) (nI s) (nI (tkE c n s)) nu g
def RS (v : Nat → Int32) (m wr wa : Int32) (c : Nat → Nat) (n s : Nat) (A : Nat → Nat → Int32) (h : Hp) : Hp := setR (tkv v (nI s) (nI (tkE c n s)) (nI (tT c n s)) m wr wa) A h
def nuC (c : Nat → Nat) (n s : Nat) (nu : Int32) : Int32 := if tT c n s = 1 then nI (min (tR c n s) 1000) else nu
def nuR (c : Nat → Nat) (n s : Nat) (m : Int32) : Int32 := if tT c n s = 1 then nI (tR c n s) else m
def NuOk (c : Nat → Nat) (n s : Nat) (nu m : Int32) : Prop := tT c n s = 1 → nu = nI (min (tR c n s) 1000) ∧ m = nI (tR c n s)
theorem NuOk_n {c : Nat → Nat} {n s : Nat} {nu m : Int32} : NuOk c n s (nuC c n s nu) (nuR c n s m) := fun h => ⟨if_pos h, if_pos h⟩
theorem nxk_le {c : Nat → Nat} {n s : Nat} (hs : s ≤ n) : s ≤ nxk c n s ∧ nxk c n s ≤ n := by
  have h1 := tkE_le (c := c) hs
  have h2 := tS_le (c := c) h1.2
  unfold nxk
  omega
theorem tkE_lt {c : Nat → Nat} {n s : Nat} (hs : s < n) : s < tkE c n s := by
  unfold tkE
  rw [if_neg (by omega)]
  obtain ⟨m, hm⟩ : ∃ m, n - s = m + 1 := ⟨n - s - 1, by omega⟩
  by_cases h1 : ltr (c s) = true
  · rw [if_pos h1, hm, spn_s hs h1]
    have := spn_le (P := fun i => ltr (c i)) m (s + 1) (show s + 1 ≤ n by omega)
    omega
  · rw [if_neg h1]
    by_cases h2 : dgi (c s) = true
    · rw [if_pos h2, hm, spn_s hs h2]
      have := spn_le (P := fun i => dgi (c i)) m (s + 1) (show s + 1 ≤ n by omega)
      omega
    · rw [if_neg h2]; omega
theorem tT_lt {c : Nat → Nat} {n s : Nat} (h : tT c n s ≠ 3) : s < n := by
  unfold tT at h
  by_cases h1 : n ≤ s
  · rw [if_pos h1] at h; exact absurd rfl h
  · omega
theorem nxk_lt {c : Nat → Nat} {n s : Nat} (h : tT c n s ≠ 3) : s < nxk c n s := by
  have h1 := tT_lt h
  have h2 := tkE_lt (c := c) h1
  have h3 := tS_le (c := c) (tkE_le (c := c) (Nat.le_of_lt h1)).2
  unfold nxk
  omega
theorem ckd_T {c : Nat → Nat} {n s : Nat} : (ckd c n s = 1 ↔ tT c n s = 0) ∧ (ckd c n s = 2 ↔ tT c n s = 1) ∧ (ckd c n s = 0 ↔ tT c n s = 3) ∧ (ckd c n s = 3 ↔ tT c n s = 2 ∧ c s = 59) ∧ ckd c n s < 5 ∧ tT c n s < 4 := by
  by_cases h1 : n ≤ s
  · have e1 : ckd c n s = 0 := by unfold ckd; rw [if_pos h1]
    have e2 : tT c n s = 3 := by unfold tT; rw [if_pos h1]
    rw [e1, e2]
    exact ⟨by decide, by decide, by decide, ⟨fun e => absurd e (by decide), fun e => absurd e.1 (by decide)⟩, by decide, by decide⟩
  · by_cases h2 : ltr (c s) = true
    · have e1 : ckd c n s = 1 := by unfold ckd; rw [if_neg h1, if_pos h2]
      have e2 : tT c n s = 0 := by unfold tT; rw [if_neg h1, if_pos h2]
      rw [e1, e2]
      exact ⟨by decide, by decide, by decide, ⟨fun e => absurd e (by decide), fun e => absurd e.1 (by decide)⟩, by decide, by decide⟩
    · by_cases h3 : dgi (c s) = true
      · have e1 : ckd c n s = 2 := by unfold ckd; rw [if_neg h1, if_neg h2, if_pos h3]
        have e2 : tT c n s = 1 := by unfold tT; rw [if_neg h1, if_neg h2, if_pos h3]
        rw [e1, e2]
        exact ⟨by decide, by decide, by decide, ⟨fun e => absurd e (by decide), fun e => absurd e.1 (by decide)⟩, by decide, by decide⟩
      · have e2 : tT c n s = 2 := by unfold tT; rw [if_neg h1, if_neg h2, if_neg h3]
        by_cases h4 : c s = 59
        · have e1 : ckd c n s = 3 := by unfold ckd; rw [if_neg h1, if_neg h2, if_neg h3, if_pos h4]
          rw [e1, e2]
          exact ⟨by decide, by decide, by decide, ⟨fun _ => ⟨rfl, h4⟩, fun _ => rfl⟩, by decide, by decide⟩
        · have e1 : ckd c n s = 4 := by unfold ckd; rw [if_neg h1, if_neg h2, if_neg h3, if_neg h4]
          rw [e1, e2]
          exact ⟨by decide, by decide, by decide, ⟨fun e => absurd e (by decide), fun e => absurd e.2 h4⟩, by decide, by decide⟩
def wdc (c : Nat → Nat) (s j : Nat) : Nat → Nat → Bool
  | 0, _ => true
  | f + 1, i => decide (nI (c (s + i)) = (strB j).getD i 0) && wdc c s j f (i + 1)
def wd (c : Nat → Nat) (n s j : Nat) : Bool := decide (tT c n s = 0) && (decide (tkE c n s - s = (strB j).length) && wdc c s j (strB j).length 0)
theorem strB_len : ∀ j, j < 6 → (strB j).length < 32 := by decide +kernel
theorem sLen_N {j : Nat} (hj : j < 6) : sLen j = some (nI (strB j).length) := by
  unfold sLen
  rw [if_pos hj]
  rfl
theorem sChr_N {j i : Nat} (hj : j < 6) (hi : i < (strB j).length) : sChr j (nI i) = some ((strB j).getD i 0) := by
  have := strB_len j hj
  unfold sChr
  rw [nI_clamp (by omega), if_pos ⟨hj, fun e => e.elim (nI_pos (by omega)) (by omega)⟩]
section RDC
variable {g : Hp} {fB : Nat → Int32} {c : Nat → Nat} {n s : Nat} {fl ea er nu : Int32}
theorem x_adv (hL : Lx g fB c n) (hs : s ≤ n) : m_X3_advance 9 (CS fl ea er nu c n s g) = some (CS fl ea er (nuC c n (nxk c n s) nu) c n (nxk c n s) g) := x_advance hL (tkE_le hs).2 rfl
theorem x_fail (hL : Lx g fB c n) {x : Int32} : m_X3_fail 9 x (CS fl ea er nu c n s g) = some (false, CS fl (nI s) x nu c n s g) := by
  have hz := hL.1
  unfold m_X3_fail CS
  rw [d_p5 hz, Option.bind_some, d_7 hz, Option.bind_some, d_p2 hz, Option.bind_some]
theorem x_wdc (hL : Lx g fB c n) {j : Nat} (hj : j < 6) {r1 r2 : Option Bool} : ∀ f i F, f + i = (strB j).length → s + f + i ≤ n → f < F → m_X3_atWord_L28 9 j (CS fl ea er nu c n s g) r1 r2 F (nI i) = if wdc c s j f i = true then r1 else r2 := by
  have hz := hL.1
  have hn := hL.2.2.1
  have hl := strB_len j hj
  intro f
  induction f with
  | zero =>
    intro i F h1 h2 h3
    obtain ⟨F, rfl⟩ : ∃ k, F = k + 1 := ⟨F - 1, by omega⟩
    rw [m_X3_atWord_L28, sLen_N hj, Option.bind_some, iLe (by omega) (by omega), wdc, if_pos rfl]
  | succ f ih =>
    intro i F h1 h2 h3
    obtain ⟨F, rfl⟩ : ∃ k, F = k + 1 := ⟨F - 1, by omega⟩
    rw [m_X3_atWord_L28, sLen_N hj, Option.bind_some, iNle (by omega) (by omega)]
    have e7 : gI (CS fl ea er nu c n s g) 3 9 7 = some (nI s) := d_7 hz
    have ec : ∀ {ρ : Type} {r : Option ρ}, cv (CS fl ea er nu c n s g) 3 9 r = r := fun {ρ} {r} => d_cv hz
    have eb : m_X3_byteAt 9 (nI (s + i)) (CS fl ea er nu c n s g) = some (nI (c (s + i))) := (x_byteAt hL (by omega)).trans (by rw [if_pos (by omega)])
    rw [e7, Option.bind_some, nI_add, ec, eb, Option.bind_some, sChr_N hj (by omega), Option.bind_some, wdc]
    simp only [e_nm]
    by_cases hq : nI (c (s + i)) = (strB j).getD i 0
    · rw [if_pos hq, nI_1, ih (i + 1) F (by omega) (by omega) (by omega), decide_eq_true hq, Bool.true_and]
    · rw [if_neg hq, decide_eq_false hq, Bool.false_and, if_neg (by decide)]
theorem x_word (hL : Lx g fB c n) (hs : s ≤ n) {j : Nat} (hj : j < 6) : m_X3_atWord 9 j (CS fl ea er nu c n s g) = some (wd c n s j) := by
  have hz := hL.1
  have hn := hL.2.2.1
  have hl := strB_len j hj
  have hE := tkE_le (c := c) hs
  have hk := ckd_T (c := c) (n := n) (s := s)
  have e6 : gI (CS fl ea er nu c n s g) 3 9 6 = some (nI (ckd c n s)) := d_6 hz
  have e7 : gI (CS fl ea er nu c n s g) 3 9 7 = some (nI s) := d_7 hz
  have e8 : gI (CS fl ea er nu c n s g) 3 9 8 = some (nI (tkE c n s)) := d_8 hz
  unfold m_X3_atWord
  rw [e6, Option.bind_some]
  unfold wd
  by_cases hT : tT c n s = 0
  · rw [if_pos (show nI (ckd c n s) = (1 : Int32) by rw [hk.1.mpr hT]; rfl), e8, Option.bind_some, e7, Option.bind_some, sLen_N hj, Option.bind_some, pk_sub hE.1, decide_eq_true hT, Bool.true_and]
    by_cases hq : tkE c n s - s = (strB j).length
    · rw [hq, if_pos rfl, decide_eq_true rfl, Bool.true_and, i0, x_wdc hL hj (strB j).length 0 LF rfl (by omega) (by unfold LF; omega)]
      cases wdc c s j (strB j).length 0 <;> rfl
    · rw [iNe hq (by omega) (by omega), decide_eq_false hq, Bool.false_and]
  · rw [if_neg (nI_neL (x := (1 : Int32)) (b := 1) (by omega) (by decide) rfl (fun e => hT (hk.1.mp e))), decide_eq_false hT, Bool.false_and]
theorem x_rWord (hL : Lx g fB c n) (hs : s ≤ n) {j : Nat} (hj : j < 6) : m_X3_readWord 9 j (CS fl ea er nu c n s g) = some (if wd c n s j = true then (true, CS fl ea er (nuC c n (nxk c n s) nu) c n (nxk c n s) g) else (false, CS fl (nI s) (-2 : Int32) nu c n s g)) := by
  have ec : ∀ {ρ : Type} {r : Option ρ}, cv (CS fl ea er nu c n s g) 3 9 r = r := fun {ρ} {r} => d_cv hL.1
  unfold m_X3_readWord
  rw [ec, x_word hL hs hj, Option.bind_some]
  by_cases hw : wd c n s j = true
  · rw [if_pos hw, if_pos hw, ec, x_adv hL hs, Option.bind_some]
  · rw [if_neg hw, if_neg hw, ec, x_fail hL, e_b2]
theorem x_rSemi (hL : Lx g fB c n) (hs : s ≤ n) : m_X3_readSemicolon 9 (CS fl ea er nu c n s g) = some (if tT c n s = 2 ∧ c s = 59 then (true, CS fl ea er (nuC c n (nxk c n s) nu) c n (nxk c n s) g) else (false, CS fl (nI s) (-2 : Int32) nu c n s g)) := by
  have ec : ∀ {ρ : Type} {r : Option ρ}, cv (CS fl ea er nu c n s g) 3 9 r = r := fun {ρ} {r} => d_cv hL.1
  have hk := ckd_T (c := c) (n := n) (s := s)
  have e6 : gI (CS fl ea er nu c n s g) 3 9 6 = some (nI (ckd c n s)) := d_6 hL.1
  unfold m_X3_readSemicolon
  rw [e6, Option.bind_some]
  by_cases hw : tT c n s = 2 ∧ c s = 59
  · rw [if_pos hw, if_pos (show nI (ckd c n s) = (3 : Int32) by rw [hk.2.2.2.1.mpr hw]; rfl), ec, x_adv hL hs, Option.bind_some]
  · rw [if_neg hw, if_neg (nI_neL (x := (3 : Int32)) (b := 3) (by omega) (by decide) rfl (fun e => hw (hk.2.2.2.1.mp e))), ec, x_fail hL, e_b2]
theorem x_rEnd (hL : Lx g fB c n) : m_X3_readEnd 9 (CS fl ea er nu c n s g) = some (if tT c n s = 3 then (true, CS fl ea er nu c n s g) else (false, CS fl (nI s) (-2 : Int32) nu c n s g)) := by
  have ec : ∀ {ρ : Type} {r : Option ρ}, cv (CS fl ea er nu c n s g) 3 9 r = r := fun {ρ} {r} => d_cv hL.1
  have hk := ckd_T (c := c) (n := n) (s := s)
  have e6 : gI (CS fl ea er nu c n s g) 3 9 6 = some (nI (ckd c n s)) := d_6 hL.1
  unfold m_X3_readEnd
  rw [e6, Option.bind_some, iZ (by omega)]
  by_cases hw : tT c n s = 3
  · rw [if_pos hw, if_pos (hk.2.2.1.mpr hw)]
  · rw [if_neg hw, if_neg (fun e => hw (hk.2.2.1.mp e)), ec, x_fail hL, e_b2, if_neg (by decide)]
theorem x_rNum (hL : Lx g fB c n) (hs : s ≤ n) {m : Int32} (hN : NuOk c n s nu m) {lo hi : Nat} (hlo : lo < 2 ^ 31) (hh : hi < 1000) : m_X3_readNumber 9 (nI lo) (nI hi) (CS fl ea er nu c n s g) = some (if tT c n s = 1 then (if lo ≤ tR c n s ∧ tR c n s ≤ hi then (nI (tR c n s), CS fl ea er (nuC c n (nxk c n s) nu) c n (nxk c n s) g) else ((-1 : Int32), CS fl (nI s) (-3 : Int32) nu c n s g)) else ((-1 : Int32), CS fl (nI s) (-2 : Int32) nu c n s g)) := by
  have ec : ∀ {ρ : Type} {r : Option ρ}, cv (CS fl ea er nu c n s g) 3 9 r = r := fun {ρ} {r} => d_cv hL.1
  have hk := ckd_T (c := c) (n := n) (s := s)
  have e6 : gI (CS fl ea er nu c n s g) 3 9 6 = some (nI (ckd c n s)) := d_6 hL.1
  have e9 : gI (CS fl ea er nu c n s g) 3 9 9 = some nu := d_9 hL.1
  have hR := tR_lt (c := c) (n := n) (s := s)
  unfold m_X3_readNumber
  simp only [e_jK]
  rw [e6, Option.bind_some]
  by_cases hT : tT c n s = 1
  · rw [if_pos hT, if_pos (show nI (ckd c n s) = (2 : Int32) by rw [hk.2.1.mpr hT]; rfl), e9.trans (congrArg some (hN hT).1), Option.bind_some]
    by_cases h1 : lo ≤ tR c n s ∧ tR c n s ≤ hi
    · rw [if_pos h1, iNlt (by omega) (by omega), Option.bind_some, iLe (by omega) (by omega), Option.bind_some, ec, x_adv hL hs, Option.bind_some, show min (tR c n s) 1000 = tR c n s by omega]
    · rw [if_neg h1]
      by_cases h2 : min (tR c n s) 1000 < lo
      · rw [iLt h2 hlo, ec, x_fail hL, e_b2]
      · rw [iNlt (by omega) (by omega), Option.bind_some, iNle (by omega) (by omega), ec, x_fail hL, e_b2]
  · rw [if_neg hT, if_neg (nI_neL (x := (2 : Int32)) (b := 2) (by omega) (by decide) rfl (fun e => hT (hk.2.1.mp e))), ec, x_fail hL, e_b2]
end RDC
section RDY
variable {v : Nat → Int32} {A : Nat → Nat → Int32} {h : Hp} {c : Nat → Nat} {n s : Nat} {m wr wa x : Int32}
theorem q_cv (hz : 31 ≤ h.2.1) {ρ : Type} {r : Option ρ} : cv (RS v m wr wa c n s A h) 6 20 r = r := r_cv hz
theorem q_11 (hz : 31 ≤ h.2.1) : gI (RS v m wr wa c n s A h) 6 20 11 = some (nI s) := tg11 hz
theorem q_12 (hz : 31 ≤ h.2.1) : gI (RS v m wr wa c n s A h) 6 20 12 = some (nI (tkE c n s)) := tg12 hz
theorem q_13 (hz : 31 ≤ h.2.1) : gI (RS v m wr wa c n s A h) 6 20 13 = some (nI (tT c n s)) := tg13 hz
theorem q_14 (hz : 31 ≤ h.2.1) : gI (RS v m wr wa c n s A h) 6 20 14 = some m := tg14 hz
theorem q_15 (hz : 31 ≤ h.2.1) : gI (RS v m wr wa c n s A h) 6 20 15 = some wr := tg15 hz
theorem q_16 (hz : 31 ≤ h.2.1) : gI (RS v m wr wa c n s A h) 6 20 16 = some wa := tg16 hz
theorem q_a (hz : 31 ≤ h.2.1) : gR (RS v m wr wa c n s A h) 6 20 0 = some 21 := r_a hz
theorem q_a0 (hz : 31 ≤ h.2.1) {k : Nat} (hk : k < 4136) : aI (RS v m wr wa c n s A h) 0 21 (nI k) = some (A 0 k) := r_a0 hz hk
theorem q_s0 (hz : 31 ≤ h.2.1) {k : Nat} (hk : k < 4136) : sI (RS v m wr wa c n s A h) 0 21 (nI k) x = some (RS v m wr wa c n s (updA A 0 k x) h) := r_s0 hz hk
theorem y_nxt (hL : Ly v A h c n) (hs : s ≤ n) : m_X6_next 20 (RS v m wr wa c n s A h) = some (RS v (nuR c n (nxk c n s) m) wr wa c n (nxk c n s) A h) := y_next hL (tkE_le hs).2 rfl
theorem y_fails (hz : 31 ≤ h.2.1) : m_X6_fails 20 x (RS v m 0 wa c n s A h) = some (RS v m x (nI s) c n s A h) := by
  unfold m_X6_fails RS
  rw [tg15 hz, Option.bind_some, if_pos rfl, tp15 hz, Option.bind_some, tg11 hz, Option.bind_some, tp16 hz, Option.bind_some]
theorem y_failsW (hz : 31 ≤ h.2.1) (hw : wr ≠ 0) : m_X6_fails 20 x (RS v m wr wa c n s A h) = some (RS v m wr wa c n s A h) := by
  unfold m_X6_fails
  rw [q_15 hz, Option.bind_some, if_neg hw]
theorem y_must (hL : Ly v A h c n) (hs : s ≤ n) : m_X6_must 20 true (RS v m 0 wa c n s A h) = some (RS v (nuR c n (nxk c n s) m) 0 wa c n (nxk c n s) A h) := by
  unfold m_X6_must
  simp only [e_jK]
  rw [if_pos trivial, q_15 hL.1, Option.bind_some, if_pos rfl, q_cv hL.1, y_nxt hL hs, Option.bind_some]
theorem y_mustF (hL : Ly v A h c n) : m_X6_must 20 false (RS v m 0 wa c n s A h) = some (RS v m (-2 : Int32) (nI s) c n s A h) := by
  unfold m_X6_must
  simp only [e_jK]
  rw [if_neg (by decide), q_cv hL.1, y_fails hL.1, Option.bind_some, q_15 hL.1, Option.bind_some, if_neg (by decide)]
theorem y_mustW (hL : Ly v A h c n) (hw : wr ≠ 0) {bb : Bool} : m_X6_must 20 bb (RS v m wr wa c n s A h) = some (RS v m wr wa c n s A h) := by
  unfold m_X6_must
  simp only [e_jK]
  cases bb
  · rw [if_neg (by decide), q_cv hL.1, y_failsW hL.1 hw, Option.bind_some, q_15 hL.1, Option.bind_some, if_neg hw]
  · rw [if_pos rfl, q_15 hL.1, Option.bind_some, if_neg hw]
theorem y_takesW (hL : Ly v A h c n) (hw : wr ≠ 0) {a b : Int32} : m_X6_takes 20 a b (RS v m wr wa c n s A h) = some (0, RS v m wr wa c n s A h) := by
  unfold m_X6_takes
  simp only [e_jK]
  rw [q_15 hL.1, Option.bind_some, if_neg hw, Option.bind_some, if_neg hw, Option.bind_some, if_neg hw, Option.bind_some, if_neg hw]
theorem isIn_N {a lo hi : Nat} (ha : a < 2 ^ 31) (hl : lo < 2 ^ 31) (hh : hi < 2 ^ 31) : m_X6_isIn (nI a) (nI lo) (nI hi) = some (decide (lo ≤ a ∧ a ≤ hi)) := by
  unfold m_X6_isIn
  by_cases h1 : a < lo
  · rw [iLt h1 hl, decide_eq_false (by omega)]
  · rw [iNlt (by omega) ha]
    by_cases h2 : hi < a
    · rw [iLt h2 ha, decide_eq_false (by omega)]
    · rw [iNlt (by omega) hh, decide_eq_true (by omega)]
theorem y_takes (hL : Ly v A h c n) (hs : s ≤ n) {nu : Int32} (hN : NuOk c n s nu m) {lo hi : Nat} (hl : lo < 2 ^ 31) (hh : hi < 1000) : m_X6_takes 20 (nI lo) (nI hi) (RS v m 0 wa c n s A h) = some (if tT c n s = 1 then (if lo ≤ tR c n s ∧ tR c n s ≤ hi then (nI (tR c n s), RS v (nuR c n (nxk c n s) m) 0 wa c n (nxk c n s) A h) else (0, RS v m (-3 : Int32) (nI s) c n s A h)) else (0, RS v m (-2 : Int32) (nI s) c n s A h)) := by
  have hz := hL.1
  have hR := tR_lt (c := c) (n := n) (s := s)
  have hk := ckd_T (c := c) (n := n) (s := s)
  unfold m_X6_takes
  simp only [e_jK]
  rw [q_15 hz, Option.bind_some, if_pos rfl, q_13 hz, Option.bind_some]
  by_cases hT : tT c n s = 1
  · rw [if_pos hT, if_pos (show nI (tT c n s) = (1 : Int32) by rw [hT]; rfl), Option.bind_some, if_pos rfl, (q_14 hz).trans (congrArg some (hN hT).2), Option.bind_some, isIn_N (by omega) hl (by omega), Option.bind_some]
    by_cases h1 : lo ≤ tR c n s ∧ tR c n s ≤ hi
    · rw [if_pos h1, decide_eq_true h1, if_pos rfl, Option.bind_some, if_pos rfl, Option.bind_some, Option.bind_some, if_pos rfl, q_cv hz, y_nxt hL hs, Option.bind_some]
    · rw [if_neg h1, decide_eq_false h1, if_neg (by decide), q_cv hz, y_fails hz, Option.bind_some, q_15 hz, Option.bind_some, if_neg (by decide), Option.bind_some, if_neg (by decide)]
  · rw [if_neg hT, if_neg (nI_neL (x := (1 : Int32)) (b := 1) (by omega) (by decide) rfl hT), q_cv hz, y_fails hz, Option.bind_some, q_15 hz, Option.bind_some, if_neg (by decide), Option.bind_some, if_neg (by decide)]
theorem y_mEndW (hL : Ly v A h c n) (hs : s ≤ n) (hw : wr ≠ 0) : m_X6_mustEnd 20 (RS v m wr wa c n s A h) = some (RS v m wr wa c n s A h) := by
  have hz := hL.1
  have hn := hL.2.2.1
  unfold m_X6_mustEnd
  simp only [e_jK]
  have hM := fun {bb : Bool} => y_mustW (m := m) (wa := wa) (s := s) hL hw (bb := bb)
  rw [q_13 hz, Option.bind_some]
  by_cases h2 : nI (tT c n s) = (2 : Int32)
  · rw [if_pos h2, q_11 hz, Option.bind_some, q_cv hz, show m_X6_see 20 (nI s) (RS v m wr wa c n s A h) = _ from y_see hL (by omega), Option.bind_some]
    by_cases h5 : (if s < n then nI (c s) else (-1 : Int32)) = (59 : Int32)
    · rw [if_pos h5, q_cv hz, hM, Option.bind_some]
    · rw [if_neg h5, q_cv hz, hM, Option.bind_some]
  · rw [if_neg h2, q_cv hz, hM, Option.bind_some]
theorem y_mEnd (hL : Ly v A h c n) (hs : s ≤ n) : m_X6_mustEnd 20 (RS v m 0 wa c n s A h) = some (if tT c n s = 2 ∧ c s = 59 then RS v (nuR c n (nxk c n s) m) 0 wa c n (nxk c n s) A h else RS v m (-2 : Int32) (nI s) c n s A h) := by
  have hz := hL.1
  have hn := hL.2.2.1
  have hk := ckd_T (c := c) (n := n) (s := s)
  unfold m_X6_mustEnd
  simp only [e_jK]
  rw [q_13 hz, Option.bind_some]
  by_cases h2 : tT c n s = 2
  · have h3 := tT_lt (show tT c n s ≠ 3 by omega)
    have h4 := (hL.2.2.2 s h3).2
    rw [if_pos (show nI (tT c n s) = (2 : Int32) by rw [h2]; rfl), q_11 hz, Option.bind_some, q_cv hz, show m_X6_see 20 (nI s) (RS v m 0 wa c n s A h) = _ from y_see hL (by omega), if_pos h3, Option.bind_some]
    by_cases h5 : c s = 59
    · rw [if_pos (show nI (c s) = (59 : Int32) by rw [h5]; rfl), q_cv hz, y_must hL hs, Option.bind_some, if_pos ⟨h2, h5⟩]
    · rw [if_neg (nI_neL (x := (59 : Int32)) (b := 59) (by omega) (by decide) rfl h5), q_cv hz, y_mustF hL, Option.bind_some, if_neg (fun e => h5 e.2)]
  · rw [if_neg (nI_neL (x := (2 : Int32)) (b := 2) (by omega) (by decide) rfl h2), q_cv hz, y_mustF hL, Option.bind_some, if_neg (fun e => h2 e.1)]
theorem y_wdc (hL : Ly v A h c n) {j : Nat} (hj : j < 6) {r1 r2 : Option Bool} : ∀ f i F, f + i = (strB j).length → s + f + i ≤ n → f < F → m_X6_isWord_L34 20 j (RS v m wr wa c n s A h) r1 r2 F (nI i) = if wdc c s j f i = true then r1 else r2 := by
  have hz := hL.1
  have hn := hL.2.2.1
  have hl := strB_len j hj
  intro f
  induction f with
  | zero =>
    intro i F h1 h2 h3
    obtain ⟨F, rfl⟩ : ∃ k, F = k + 1 := ⟨F - 1, by omega⟩
    rw [m_X6_isWord_L34, sLen_N hj, Option.bind_some, iLe (by omega) (by omega), wdc, if_pos rfl]
  | succ f ih =>
    intro i F h1 h2 h3
    obtain ⟨F, rfl⟩ : ∃ k, F = k + 1 := ⟨F - 1, by omega⟩
    rw [m_X6_isWord_L34, sLen_N hj, Option.bind_some, iNle (by omega) (by omega)]
    have r : aI (RS v m wr wa c n s A h) 0 27 (nI (s + i)) = some (A 6 (s + i)) := r_aI (i := 6) hz (by decide) (by show s + i < 500; omega)
    rw [show gR (RS v m wr wa c n s A h) 6 20 8 = some 27 from r_27 hz, Option.bind_some, q_11 hz, Option.bind_some, nI_add, r, Option.bind_some, sChr_N hj (by omega), Option.bind_some, wdc, (hL.2.2.2 (s + i) (by omega)).1]
    simp only [e_nm]
    by_cases hq : nI (c (s + i)) = (strB j).getD i 0
    · rw [if_pos hq, nI_1, ih (i + 1) F (by omega) (by omega) (by omega), decide_eq_true hq, Bool.true_and]
    · rw [if_neg hq, decide_eq_false hq, Bool.false_and, if_neg (by decide)]
theorem y_word (hL : Ly v A h c n) (hs : s ≤ n) {j : Nat} (hj : j < 6) : m_X6_isWord 20 j (RS v m 0 wa c n s A h) = some (wd c n s j) := by
  have hz := hL.1
  have hn := hL.2.2.1
  have hl := strB_len j hj
  have hE := tkE_le (c := c) hs
  have hk := ckd_T (c := c) (n := n) (s := s)
  unfold m_X6_isWord
  rw [q_15 hz, Option.bind_some, if_pos rfl, q_13 hz, Option.bind_some, iZ (by omega)]
  unfold wd
  by_cases hT : tT c n s = 0
  · rw [if_pos hT, q_12 hz, Option.bind_some, q_11 hz, Option.bind_some, sLen_N hj, Option.bind_some, pk_sub hE.1, decide_eq_true hT, Bool.true_and]
    by_cases hq : tkE c n s - s = (strB j).length
    · rw [hq, if_pos rfl, decide_eq_true rfl, Bool.true_and, i0, y_wdc hL hj (strB j).length 0 LF rfl (by omega) (by unfold LF; omega)]
      cases wdc c s j (strB j).length 0 <;> rfl
    · rw [iNe hq (by omega) (by omega), decide_eq_false hq, Bool.false_and]
  · rw [if_neg hT, decide_eq_false hT, Bool.false_and]
theorem y_wordW (hL : Ly v A h c n) (hw : wr ≠ 0) {j : Nat} : m_X6_isWord 20 j (RS v m wr wa c n s A h) = some false := by
  unfold m_X6_isWord
  rw [q_15 hL.1, Option.bind_some, if_neg hw]
end RDY
