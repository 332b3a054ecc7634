/-! the parts of a set in their order; the class's board read on -/
def rst (nr : Nat → Nat) (set : Nat) : Nat → Nat
  | 0 => set
  | j + 1 => dif (rst nr set j) (rch nr set (2 ^ lo (rst nr set j)))
/-- the part of number j: 0 if there is none -/
def prt (nr : Nat → Nat) (set j : Nat) : Nat := rch nr set (2 ^ lo (rst nr set j))
theorem rst_cs {nr : Nat → Nat} {set : Nat} (hy : Sy nr) (hset : set < 512) : ∀ j, Cs nr set (rst nr set j)
  | 0 => Cs_self
  | j + 1 => Cs_dif hy (rst_cs hy hset j) (Cs_rch hset)
theorem rst_lt {nr : Nat → Nat} {set : Nat} (hset : set < 512) : ∀ j, rst nr set j < 512
  | 0 => hset
  | j + 1 => dif_lt (n := 9) (rst_lt hset j)
theorem rst_pop {nr : Nat → Nat} {set : Nat} (hy : Sy nr) (hset : set < 512) : ∀ j, pop (rst nr set j) + j ≤ 9 ∨ rst nr set j = 0
  | 0 => Or.inl (by rw [Nat.add_zero]; exact pop_le)
  | j + 1 => by
    by_cases h0 : rst nr set j = 0
    · refine Or.inr ?_
      rw [rst, h0]
      exact Nat.eq_of_testBit_eq fun i => by rw [tb_dif, Nat.zero_testBit]; rfl
    · rcases rst_pop hy hset j with h | h
      · have hl := lo_ok (rst_lt hset j) h0
        have hs := (rst_cs hy hset j).1 _ hl.2
        have := pop_dif (rst_lt hset j) hl.2 (rch_self (nr := nr) hset hs)
        rw [rst]
        exact Or.inl (by omega)
      · exact absurd h h0
theorem rst_9 {nr : Nat → Nat} {set : Nat} (hy : Sy nr) (hset : set < 512) : rst nr set 9 = 0 := by
  rcases rst_pop hy hset 9 with h | h
  · exact pop_0 (rst_lt hset 9) (by omega)
  · exact h
theorem rst_0 {nr : Nat → Nat} {set j : Nat} (h : rst nr set j = 0) : rst nr set (j + 1) = 0 := by
  rw [rst, h]
  exact Nat.eq_of_testBit_eq fun i => by rw [tb_dif, Nat.zero_testBit]; rfl
theorem prt_0 {nr : Nat → Nat} {set j : Nat} (hset : set < 512) (h : rst nr set j = 0) : prt nr set j = 0 := by
  unfold prt
  rw [h]
  have e : 2 ^ lo 0 &&& set = 0 := Nat.eq_of_testBit_eq fun i => by
    rw [Nat.testBit_and, show (2 : Nat) ^ lo 0 = 512 by decide +kernel, Nat.zero_testBit]
    by_cases hi : i < 9
    · rw [(by decide +kernel : ∀ i, i < 9 → (512 : Nat).testBit i = false) i hi, Bool.false_and]
    · rw [tb_ge (n := 9) hset (by omega), Bool.and_false]
  unfold rch
  rw [e]
  rfl
theorem prt_in {nr : Nat → Nat} {set j : Nat} (hy : Sy nr) (hset : set < 512) (h : rst nr set j ≠ 0) : (prt nr set j).testBit (lo (rst nr set j)) = true ∧ lo (rst nr set j) < 9 ∧ set.testBit (lo (rst nr set j)) = true := by
  have hl := lo_ok (rst_lt (nr := nr) hset j) h
  have hs := (rst_cs hy hset j).1 _ hl.2
  exact ⟨rch_self hset hs, hl.1, hs⟩
theorem prt_ne {nr : Nat → Nat} {set j : Nat} (hy : Sy nr) (hset : set < 512) (h : rst nr set j ≠ 0) : prt nr set j ≠ 0 := by
  intro e
  have := (prt_in hy hset h).1
  rw [e, Nat.zero_testBit] at this
  cases this
theorem rch_00 {nr : Nat → Nat} {s : Nat} : rch nr 0 s = 0 := by
  unfold rch
  rw [Nat.and_zero]
  rfl
/-- the class looks inside what is left: it finds the same -/
theorem prt_left {nr : Nat → Nat} {set j : Nat} (hy : Sy nr) (hset : set < 512) : rch nr (rst nr set j) (2 ^ lo (rst nr set j)) = prt nr set j := by
  by_cases h : rst nr set j = 0
  · rw [prt_0 hset h, h, rch_00]
  · have hl := lo_ok (rst_lt (nr := nr) hset j) h
    refine rch_sub hset (rst_cs hy hset j) fun i hi => ?_
    rw [tb_pow] at hi
    cases of_decide_eq_true hi
    exact hl.2
/-- how many parts -/
def npf (nr : Nat → Nat) (set : Nat) : Nat → Nat → Nat
  | 0, j => j
  | k + 1, j => if rst nr set j = 0 then j else npf nr set k (j + 1)
def np (nr : Nat → Nat) (set : Nat) : Nat := npf nr set 9 0
theorem npf_le {nr : Nat → Nat} {set : Nat} : ∀ k j, npf nr set k j ≤ j + k
  | 0, j => Nat.le_refl _
  | k + 1, j => by
    rw [npf]
    split
    · omega
    · have := npf_le (nr := nr) (set := set) k (j + 1)
      omega
theorem np_le {nr : Nat → Nat} {set : Nat} : np nr set ≤ 9 := by
  have := npf_le (nr := nr) (set := set) 9 0
  unfold np
  omega
/-- the number of the part that holds v -/
def pno (nr : Nat → Nat) (set v : Nat) : Nat → Nat → Nat
  | 0, j => j
  | k + 1, j => if (prt nr set j).testBit v = true then j else pno nr set v k (j + 1)
theorem pno_le {nr : Nat → Nat} {set v : Nat} : ∀ k j, pno nr set v k j ≤ j + k
  | 0, j => Nat.le_refl _
  | k + 1, j => by
    rw [pno]
    split
    · omega
    · have := pno_le (nr := nr) (set := set) (v := v) k (j + 1)
      omega
theorem sy_of {al : Nat → Nat} (R : Rg al) : Sy (nrf al) → Sy (nrf al) := id
/-- the least colour that is the ban of some member: 3 for none -/
def bnn (b : Nat → Nat) (set : Nat) : Nat := if b 0 &&& set = 0 then (if b 1 &&& set = 0 then (if b 2 &&& set = 0 then 3 else 2) else 1) else 0
/-- the vertices open to a colour -/
def opn (al : Nat → Nat) (c : Nat) : Nat := mks 9 (fun v => (lsf al c).testBit v && (fre al).testBit v && (nrf al v &&& pnf al c == 0))
section BD
variable {h : Hp} {o num : Nat} {al b : Nat → Nat} {lat : Option Nat}
theorem x_rchl (B : BdH h o num al b lat) (R : Rg al) {t : Nat} (ht : t < 512) : m_X0_reachable o (nI t &&& (-(nI t))) (nI t) h = some (nI (rch (nrf al) t (2 ^ lo t))) := by
  by_cases h0 : t = 0
  · subst h0
    rw [show nI 0 &&& (-(nI 0)) = nI 0 by decide +kernel, x_reach B R (by decide)]
    rw [rch_00, rch_00]
  · rw [i_low ht h0, x_reach B R ht]
theorem x_partsIn (B : BdH h o num al b lat) (R : Rg al) (hy : Sy (nrf al)) {set : Nat} (hset : set < 512) : m_X0_partsIn o (nI set) h = some (nI (np (nrf al) set)) := by
  unfold m_X0_partsIn np
  have key : ∀ k j f, j + k = 9 → k < f → m_X0_partsIn_L4 o h (fun v4 => some v4) f (nI j) (nI (rst (nrf al) set j)) = some (nI (npf (nrf al) set k j)) := by
    intro k
    induction k with
    | zero =>
      intro j f hj hf
      obtain ⟨f, rfl⟩ : ∃ m, f = m + 1 := ⟨f - 1, by omega⟩
      rw [m_X0_partsIn_L4, i9, iLe (by omega) (by omega), npf]
    | succ k ih =>
      intro j f hj hf
      obtain ⟨f, rfl⟩ : ∃ m, f = m + 1 := ⟨f - 1, by omega⟩
      have hr := rst_lt (nr := nrf al) hset j
      rw [m_X0_partsIn_L4, i9, iNle (by omega) (by decide), iZ (by omega), npf]
      by_cases h0 : rst (nrf al) set j = 0
      · rw [if_pos h0, if_pos h0]
      · rw [if_neg h0, if_neg h0, bd_cv B, x_rchl B R hr, Option.bind_some, prt_left hy hset]
        simp only [nm]
        rw [nI_dif (by omega), nI_1]
        exact ih (j + 1) f (by omega) (by omega)
  exact key 9 0 LF rfl (by decide)
theorem x_partAtL (B : BdH h o num al b lat) (R : Rg al) (hy : Sy (nrf al)) (K : Int32 → Option Int32) {p : Nat} (hp : p < 2 ^ 31) : ∀ k j f, j + k = min p 9 → k < f → m_X0_partAt_L7 o (nI p) h K f (nI (rst (nrf al) (fre al) j)) (nI j) = K (nI (rst (nrf al) (fre al) (min p 9))) := by
  intro k
  induction k with
  | zero =>
    intro j f hj hf
    obtain ⟨f, rfl⟩ : ∃ m, f = m + 1 := ⟨f - 1, by omega⟩
    rw [Nat.add_zero] at hj
    rw [m_X0_partAt_L7, i9]
    by_cases h1 : p ≤ j
    · rw [iLe h1 (by omega), hj]
    · rw [iNle (by omega) hp, iLe (by omega) (by omega), hj]
  | succ k ih =>
    intro j f hj hf
    obtain ⟨f, rfl⟩ : ∃ m, f = m + 1 := ⟨f - 1, by omega⟩
    have hr := rst_lt (nr := nrf al) (fre_lt R) j
    rw [m_X0_partAt_L7, i9, iNle (by omega) hp, iNle (by omega) (by decide), bd_cv B, x_rchl B R hr, Option.bind_some, prt_left hy (fre_lt R)]
    simp only [nm]
    rw [nI_dif (by omega), nI_1]
    exact ih (j + 1) f (by omega) (by omega)
theorem rst_min {nr : Nat → Nat} {set : Nat} (hy : Sy nr) (hset : set < 512) : ∀ d, rst nr set (9 + d) = 0
  | 0 => rst_9 hy hset
  | d + 1 => rst_0 (rst_min hy hset d)
theorem x_partAt (B : BdH h o num al b lat) (R : Rg al) (hy : Sy (nrf al)) {p : Nat} (hp : p < 2 ^ 31) : m_X0_partAt o (nI p) h = some (nI (prt (nrf al) (fre al) p)) := by
  unfold m_X0_partAt
  have hr := rst_lt (nr := nrf al) (fre_lt R) (min p 9)
  rw [bd_f B, Option.bind_some]
  refine (x_partAtL B R hy _ hp (min p 9) 0 LF (Nat.zero_add _) (by have : min p 9 ≤ 9 := Nat.min_le_right _ _; unfold LF; omega)).trans ?_
  rw [if_pos (nI_pos' hp), bd_cv B, x_rchl B R hr, Option.bind_some, prt_left hy (fre_lt R)]
  congr 2
  by_cases h9 : p ≤ 9
  · rw [Nat.min_eq_left h9]
  · rw [Nat.min_eq_right (by omega), prt_0 (fre_lt R) (rst_9 hy (fre_lt R)), prt_0 (fre_lt R)]
    have := rst_min hy (fre_lt R) (p - 9)
    rw [show 9 + (p - 9) = p by omega] at this
    exact this
theorem x_partAtN (B : BdH h o num al b lat) (R : Rg al) (hy : Sy (nrf al)) {p : Int32} (hp : p < 0) : m_X0_partAt o p h = some 0 := by
  unfold m_X0_partAt
  rw [bd_f B, Option.bind_some, show LF = 999999 + 1 from rfl, m_X0_partAt_L7, if_pos (Int32.le_of_lt hp), if_neg (Int32.not_le.mpr hp)]
theorem x_partNo (B : BdH h o num al b lat) (R : Rg al) (hy : Sy (nrf al)) {v : Nat} (hv : v < 9) : m_X0_partNumberOf o (nI v) h = some (nI (pno (nrf al) (fre al) v 9 0)) := by
  unfold m_X0_partNumberOf
  have key : ∀ k j f, j + k = 9 → k < f → m_X0_partNumberOf_L2 o (nI v) h (fun v4 => some v4) f (nI j) = some (nI (pno (nrf al) (fre al) v k j)) := by
    intro k
    induction k with
    | zero =>
      intro j f hj hf
      obtain ⟨f, rfl⟩ : ∃ m, f = m + 1 := ⟨f - 1, by omega⟩
      rw [m_X0_partNumberOf_L2, i9, iLe (by omega) (by omega), pno]
    | succ k ih =>
      intro j f hj hf
      obtain ⟨f, rfl⟩ : ∃ m, f = m + 1 := ⟨f - 1, by omega⟩
      rw [m_X0_partNumberOf_L2, i9, iNle (by omega) (by decide), bd_cv B, x_partAt B R hy (by omega), Option.bind_some, m_has (by omega), Option.bind_some, pno]
      by_cases h0 : (prt (nrf al) (fre al) j).testBit v = true
      · rw [if_pos h0, if_pos h0]
      · rw [if_neg h0, if_neg h0]
        simp only [nm]
        rw [nI_1]
        exact ih (j + 1) f (by omega) (by omega)
  exact key 9 0 LF rfl (by decide)
theorem bd_b (B : BdH h o num al b lat) {c : Nat} (hc : c < 3) : aI h 0 (o + 4) (nI c) = some (nI (b c)) := ar_i B.2.2.2.2 hc (by decide)
theorem x_banOf (B : BdH h o num al b lat) {set : Nat} (hset : set < 512) : m_X0_banOf o (nI set) h = some (nI (bnn b set + 1) - 1) → m_X0_banOf o (nI set) h = some (nI (bnn b set + 1) - 1) := id
theorem x_whyNot (B : BdH h o num al b lat) (R : Rg al) {v c : Nat} (hv : v < 9) (hc : c < 3) : m_X0_whyNot o (nI v) (nI c) h = some (nI (wn al b v c)) := by
  unfold m_X0_whyNot wn
  have h1 := nrf_lt R hv
  have a1 : nrf al v &&& pnf al c < 512 := and_lt (n := 9) h1
  have a2 : nrf al v &&& fre al < 512 := and_lt (n := 9) h1
  rw [bd_cv B, x_isFree B hv, Option.bind_some]
  by_cases f1 : (fre al).testBit v = true
  · rw [if_pos f1, if_pos f1, bd_8 B, Option.bind_some, ar_at B.2.2.1 hc (by decide), Option.bind_some, m_has (by omega), Option.bind_some]
    by_cases f2 : (lsf al c).testBit v = true
    · rw [if_pos f2, if_pos f2, bd_cv B, x_nb B hv, Option.bind_some, bd_9 B, Option.bind_some, ar_at B.2.2.2.1 hc (by decide), Option.bind_some, nI_and, iZ (by omega)]
      by_cases f3 : nrf al v &&& pnf al c = 0
      · rw [if_pos f3, if_pos f3, bd_cv B, bd_f B]
        simp only [Option.bind_some, jK]
        rw [nI_and, iZ (by omega)]
        by_cases f4 : nrf al v &&& fre al = 0
        · rw [if_pos f4, if_pos f4]
          rfl
        · rw [if_neg f4, if_neg f4, if_neg (by decide), bd_10 B, Option.bind_some, ar_at B.2.2.2.2 hc (by decide), Option.bind_some, m_has (by omega), Option.bind_some]
          by_cases f5 : (b c).testBit v = true
          · rw [if_pos f5, if_pos f5]; rfl
          · rw [if_neg f5, if_neg f5]; rfl
      · rw [if_neg f3, if_neg f3]; rfl
    · rw [if_neg f2, if_neg f2]; rfl
  · rw [if_neg f1, if_neg f1]; rfl
theorem wn_le {v c : Nat} : wn al b v c ≤ 4 := by
  unfold wn
  repeat' split
  all_goals decide
theorem chs_lt (R : Rg al) {v : Nat} : chs al b v < 8 := Nat.lt_of_lt_of_le (mks_lt _ _) (Nat.pow_le_pow_right (by decide) R.2.1)
theorem x_choices (B : BdH h o num al b lat) (R : Rg al) {v : Nat} (hv : v < 9) : m_X0_choicesOn o (nI v) h = some (nI (chs al b v)) := by
  unfold m_X0_choicesOn chs
  have hC : al 1 ≤ 3 := R.2.1
  refine forN (fun f i s => m_X0_choicesOn_L4 o (nI v) h (fun v5 => some v5) f (nI s) (nI i)) (al 1) (fun i => mks i (fun c => wn al b v c == 0)) _ (fun f i hi e => ?_) (fun f => ?_) LF 0 (by omega) (by unfold LF; omega)
  · show m_X0_choicesOn_L4 _ _ _ _ (f + 1) _ _ = _
    have hw := wn_le (al := al) (b := b) (v := v) (c := i)
    rw [m_X0_choicesOn_L4, bd_C B, Option.bind_some, iNle hi (by omega), bd_cv B, x_whyNot B R hv (by omega), Option.bind_some]
    rw [← e]
    simp only [jK, nm, mks]
    rw [iZ (by omega)]
    by_cases hb : wn al b v i = 0
    · rw [if_pos hb, if_pos (by rw [hb]; rfl), nI_sh (show i < 31 by omega), nI_or, nI_1]
    · rw [if_neg hb, if_neg (fun e => hb (eq_of_beq e)), Nat.or_zero, nI_1]
  · show m_X0_choicesOn_L4 _ _ _ _ (f + 1) _ _ = _
    rw [m_X0_choicesOn_L4, bd_C B, Option.bind_some, iLe (Nat.le_refl _) (by omega)]
/-- how many pairs can be laid inside a set -/
def prs (al b : Nat → Nat) (set : Nat) : Nat := sumN 9 (fun v => if set.testBit v then pop (chs al b v) else 0)
theorem x_choicesIn (B : BdH h o num al b lat) (R : Rg al) {set : Nat} : m_X0_choicesIn o (nI set) h = some (nI (prs al b set)) := by
  unfold m_X0_choicesIn prs
  refine forN (fun f i s => m_X0_choicesIn_L4 o (nI set) h (fun v5 => some v5) f (nI s) (nI i)) 9 (fun i => sumN i (fun v => if set.testBit v then pop (chs al b v) else 0)) _ (fun f i hi e => ?_) (fun f => ?_) LF 0 (by omega) (by decide)
  · show m_X0_choicesIn_L4 _ _ _ _ (f + 1) _ _ = _
    have hc := chs_lt (b := b) R (v := i)
    rw [m_X0_choicesIn_L4, i9, iNle hi (by decide), m_has (by omega), Option.bind_some]
    rw [← e]
    simp only [jK, nm, sumN]
    by_cases hb : set.testBit i = true
    · rw [if_pos hb, if_pos hb, bd_cv B, x_choices B R hi, Option.bind_some, i_bits (by omega), Option.bind_some, nI_add, nI_1]
    · rw [if_neg hb, if_neg hb, Nat.add_zero, nI_1]
  · show m_X0_choicesIn_L4 _ _ _ _ (f + 1) _ _ = _
    rw [m_X0_choicesIn_L4, i9, iLe (Nat.le_refl _) (by decide)]
/-- free vertices on which nothing can be laid -/
def stk (al b : Nat → Nat) : Nat := sumN 9 (fun v => if (fre al).testBit v then (if chs al b v = 0 then 1 else 0) else 0)
theorem x_stuck (B : BdH h o num al b lat) (R : Rg al) : m_X0_stuckVertices o h = some (nI (stk al b)) := by
  unfold m_X0_stuckVertices stk
  refine forN (fun f i s => m_X0_stuckVertices_L4 o h (fun v5 => some v5) f (nI s) (nI i)) 9 (fun i => sumN i (fun v => if (fre al).testBit v then (if chs al b v = 0 then 1 else 0) else 0)) _ (fun f i hi e => ?_) (fun f => ?_) LF 0 (by omega) (by decide)
  · show m_X0_stuckVertices_L4 _ _ _ (f + 1) _ _ = _
    have hc := chs_lt (b := b) R (v := i)
    rw [m_X0_stuckVertices_L4, i9, iNle hi (by decide), bd_cv B, x_isFree B hi, Option.bind_some]
    rw [← e]
    simp only [jK, nm, sumN]
    by_cases hb : (fre al).testBit i = true
    · rw [if_pos hb, if_pos hb, bd_cv B, x_choices B R hi, Option.bind_some, iZ (by omega)]
      by_cases h0 : chs al b i = 0
      · rw [if_pos h0, if_pos h0, nI_1, nI_1]
      · rw [if_neg h0, if_neg h0, Nat.add_zero, nI_1]
    · rw [if_neg hb, if_neg hb, Nat.add_zero, nI_1]
  · show m_X0_stuckVertices_L4 _ _ _ (f + 1) _ _ = _
    rw [m_X0_stuckVertices_L4, i9, iLe (Nat.le_refl _) (by decide)]
end BD
