/-! the reference's board read -/
theorem i13 : (13 : Int32) = nI 13 := rfl
theorem i22 : (22 : Int32) = nI 22 := rfl
theorem i31 : (31 : Int32) = nI 31 := rfl
def orN : Nat → (Nat → Nat) → Nat
  | 0, _ => 0
  | n + 1, g => orN n g ||| g n
theorem tb_orN {g : Nat → Nat} {i : Nat} : ∀ n, (orN n g).testBit i = true ↔ ∃ k, k < n ∧ (g k).testBit i = true
  | 0 => by
    rw [orN, Nat.zero_testBit]
    exact ⟨fun h => (by cases h), fun ⟨k, hk, _⟩ => absurd hk (Nat.not_lt_zero k)⟩
  | n + 1 => by
    rw [orN, Nat.testBit_or, Bool.or_eq_true, tb_orN n]
    constructor
    · rintro (⟨k, hk, h⟩ | h)
      · exact ⟨k, by omega, h⟩
      · exact ⟨n, by omega, h⟩
    · rintro ⟨k, hk, h⟩
      by_cases e : k = n
      · subst e
        exact Or.inr h
      · exact Or.inl ⟨k, by omega, h⟩
theorem bit_eq {a b : Nat} (h : ∀ i, a.testBit i = true ↔ b.testBit i = true) : a = b := Nat.eq_of_testBit_eq fun i => by
  have := h i
  cases hx : a.testBit i <;> cases hy : b.testBit i
  · rfl
  · rw [hx, hy] at this; exact absurd (this.mpr rfl) (by decide)
  · rw [hx, hy] at this; exact absurd (this.mp rfl) (by decide)
  · rfl
theorem ne_0 {s : Nat} : s ≠ 0 ↔ ∃ i, s.testBit i = true := ⟨fun h => Nat.exists_testBit_of_ne_zero h, fun ⟨i, hi⟩ e => by rw [e, Nat.zero_testBit] at hi; cases hi⟩
theorem y_bits {s : Nat} (hs : s < 512) : m_X6_bits (nI s) = some (nI (pop s)) := by
  unfold m_X6_bits
  have dec : ∀ s, s < 512 → s ≠ 0 → (s &&& (s - 1)) < s ∧ pop s = pop (s &&& (s - 1)) + 1 := by decide +kernel
  have key : ∀ m s n f, s ≤ m → s < 512 → m < f → m_X6_bits_L4 (fun v3 => some v3) f (nI n) (nI s) = some (nI (n + pop s)) := by
    intro m
    induction m with
    | zero =>
      intro s n f hm hs hf
      obtain ⟨f, rfl⟩ : ∃ m, f = m + 1 := ⟨f - 1, by omega⟩
      have : s = 0 := by omega
      subst this
      rw [m_X6_bits_L4, if_pos (by decide +kernel), show pop 0 = 0 by decide +kernel, Nat.add_zero]
    | succ m ih =>
      intro s n f hm hs hf
      obtain ⟨f, rfl⟩ : ∃ m, f = m + 1 := ⟨f - 1, by omega⟩
      by_cases h0 : s = 0
      · subst h0
        rw [m_X6_bits_L4, if_pos (by decide +kernel), show pop 0 = 0 by decide +kernel, Nat.add_zero]
      · obtain ⟨d1, d2⟩ := dec s hs h0
        rw [m_X6_bits_L4, if_neg (nI_nle (by omega) (by omega))]
        simp only [nm]
        rw [i1, pk_sub (show 1 ≤ s by omega), nI_and, nI_add, ih _ _ f (by omega) (by omega) (by omega), d2]
        congr 2
        omega
  have := key s s 0 LF (Nat.le_refl _) hs (by unfold LF; omega)
  rw [Nat.zero_add] at this
  exact this
theorem lo_below {s i : Nat} (hs : s < 512) (h : i < lo s) : s.testBit i = false := by
  cases hb : s.testBit i
  · rfl
  · have := lo_min hb (bit_lt hs hb)
    omega
theorem y_low {s : Nat} (hs : s < 512) (h0 : s ≠ 0) : m_X6_lowest (nI s) = some (nI (lo s)) := by
  unfold m_X6_lowest
  obtain ⟨l1, l2⟩ := lo_ok hs h0
  refine forN (fun f i _ => m_X6_lowest_L2 (nI s) (fun v3 => some v3) f (nI i)) (lo s) (fun i => i) _ (fun f i hi e => ?_) (fun f => ?_) LF 0 (Nat.zero_le _) (by unfold LF; omega)
  · show m_X6_lowest_L2 _ _ (f + 1) _ = _
    rw [m_X6_lowest_L2, nI_bit (by omega) (by omega), lo_below hs hi, if_pos (by decide)]
    simp only [nm]
    rw [nI_1]
    exact e
  · show m_X6_lowest_L2 _ _ (f + 1) _ = _
    rw [m_X6_lowest_L2, nI_bit (by omega) (by omega), l2, if_neg (by decide)]
/-- colours on the neighbours -/
def arn (al : Nat → Nat) (v : Nat) : Nat := mks 3 (fun c => !(nrf al v &&& pnf al c == 0))
theorem arn_tb {al : Nat → Nat} {v c : Nat} (R : Rg al) (hv : v < 9) : (arn al v).testBit c = true ↔ ∃ k, k < al 0 ∧ (nrf al v).testBit k = true ∧ al (22 + k) = c + 1 := by
  unfold arn
  rw [tb_mks, Bool.and_eq_true, decide_eq_true_eq]
  constructor
  · rintro ⟨hc, h⟩
    have h1 : nrf al v &&& pnf al c ≠ 0 := fun e => by rw [e] at h; cases h
    obtain ⟨k, hk⟩ := ne_0.mp h1
    rw [Nat.testBit_and, Bool.and_eq_true] at hk
    have hk9 := bit_lt (nrf_lt R hv) hk.1
    rw [pnf_tb hk9] at hk
    exact ⟨k, (R.2.2.2.2.2.1 v k hv (by rw [← nrf_e (al := al) hv]; exact hk.1)).1, hk.1, eq_of_beq hk.2⟩
  · rintro ⟨k, hk, h1, h2⟩
    have hk9 := bit_lt (nrf_lt R hv) h1
    have h3 := (R.2.2.2.2.1 k hk9).2.2.1
    refine ⟨by omega, ?_⟩
    have h4 : nrf al v &&& pnf al c ≠ 0 := ne_0.mpr ⟨k, by rw [Nat.testBit_and, h1, pnf_tb hk9, h2]; simp⟩
    simp [h4]
/-- the class's bans say the same of the free vertices -/
def Bk (al b : Nat → Nat) : Prop := ∀ c, c < 3 → b c < 512 ∧ ∀ v, (fre al).testBit v = true → (b c).testBit v = (al (31 + v) == c + 1)
theorem sy_Rg {al : Nat → Nat} (R : Rg al) : Sy (nrf al) := by
  intro u w h
  by_cases hu : u < 9
  · rw [nrf_e hu] at h
    have h1 := R.2.2.2.2.2.1 u w hu h
    have hN := R.1
    rw [nrf_e (by omega)]
    exact h1.2.2.2
  · rw [nrf, if_neg hu, Nat.zero_testBit] at h; cases h
theorem alone_iff {al : Nat → Nat} (R : Rg al) {v : Nat} (hv : (fre al).testBit v = true) : (pop (rch (nrf al) (fre al) (2 ^ v)) = 1) ↔ nrf al v &&& fre al = 0 := by
  have hf := fre_lt R
  have hv9 := bit_lt hf hv
  have c := rch_cl (nr := nrf al) (s := 2 ^ v) hf
  have pw : ∀ v, v < 9 → pop (2 ^ v) = 1 := by decide +kernel
  constructor
  · intro h
    refine Classical.byContradiction fun hn => ?_
    obtain ⟨w, hw⟩ := ne_0.mp hn
    rw [Nat.testBit_and, Bool.and_eq_true] at hw
    have hvr := rch_self (nr := nrf al) hf hv
    have hwr := c.2.2.1 v w hvr hw.1 hw.2
    have hne := (R.2.2.2.2.2.1 v w hv9 (by rw [← nrf_e (al := al) hv9]; exact hw.1)).2.2.1
    have h2 := pop_add (a := 2 ^ v) (u := w) (pow_lt9 hv9) (bit_lt hf hw.2) (Nat.testBit_two_pow_of_ne (fun e => hne e.symm))
    have h3 : pop (2 ^ v ||| 2 ^ w) ≤ pop (rch (nrf al) (fre al) (2 ^ v)) := pop_sub fun i _ hi => by
      rw [Nat.testBit_or, tb_pow, tb_pow, Bool.or_eq_true, decide_eq_true_eq, decide_eq_true_eq] at hi
      rcases hi with rfl | rfl
      · exact hvr
      · exact hwr
    have := pw v hv9
    omega
  · intro h
    have e : rch (nrf al) (fre al) (2 ^ v) = 2 ^ v := by
      refine Cl_uniq c ⟨fun i hi _ => hi, fun i hi => ?_, fun u w hu hn hw => ?_, fun Y y1 _ i hi => ?_⟩
      · rw [tb_pow] at hi
        cases of_decide_eq_true hi
        exact hv
      · rw [tb_pow] at hu
        cases of_decide_eq_true hu
        have : (nrf al v &&& fre al).testBit w = true := by rw [Nat.testBit_and, hn, hw]; rfl
        rw [h, Nat.zero_testBit] at this
        cases this
      · have hi' := hi
        rw [tb_pow] at hi'
        cases of_decide_eq_true hi'
        exact y1 v hi hv
    rw [e]
    exact pw v hv9
section RR
variable {v : Nat → Int32} {A : Nat → Nat → Int32} {h : Hp} {al b : Nat → Nat}
/-- the array says al -/
def Al (A : Nat → Nat → Int32) (al : Nat → Nat) : Prop := ∀ k, k < 40 → A 0 k = nI (al k)
theorem r_al (hz : 31 ≤ h.2.1) (ha : Al A al) {k : Nat} (hk : k < 40) : aI (setR v A h) 0 21 (nI k) = some (nI (al k)) := by
  rw [r_a0 hz (by omega), ha k hk]
theorem r_nr (hz : 31 ≤ h.2.1) (ha : Al A al) {u : Nat} (hu : u < 9) : aI (setR v A h) 0 21 (nI (13 + u)) = some (nI (nrf al u)) := by
  rw [r_al hz ha (by omega), nrf_e hu]
theorem y_isFree (hz : 31 ≤ h.2.1) (ha : Al A al) (R : Rg al) {u : Nat} (hu : u < 9) : m_X6_isFree 20 (nI u) (setR v A h) = some (al (22 + u) == 0) := by
  unfold m_X6_isFree
  have h3 := (R.2.2.2.2.1 u hu).2.2.1
  rw [r_a hz, Option.bind_some, i22, nI_add, r_al hz ha (by omega), Option.bind_some, iZ (by omega)]
  by_cases h0 : al (22 + u) = 0
  · rw [if_pos h0, h0]; rfl
  · rw [if_neg h0, beq_eq_false_iff_ne.mpr h0]
theorem y_freeSet (hz : 31 ≤ h.2.1) (ha : Al A al) (R : Rg al) : m_X6_freeSet 20 (setR v A h) = some (nI (fre al)) := by
  unfold m_X6_freeSet fre
  have hN : al 0 ≤ 9 := R.1
  refine forN (fun f i s => m_X6_freeSet_L4 20 (setR v A h) (fun v4 => some v4) f (nI s) (nI i)) (al 0) (fun i => mks i (fun v => al (22 + v) == 0)) _ (fun f i hi e => ?_) (fun f => ?_) LF 0 (Nat.zero_le _) (by unfold LF; omega)
  · show m_X6_freeSet_L4 _ _ _ (f + 1) _ _ = _
    rw [m_X6_freeSet_L4, r_a hz, Option.bind_some, i0, r_al hz ha (by omega), Option.bind_some, iNle hi (by omega), r_cv hz, y_isFree hz ha R (by omega), Option.bind_some]
    rw [← e]
    simp only [jK, nm, mks]
    by_cases hb : (al (22 + i) == 0) = true
    · rw [if_pos hb, if_pos hb, nI_sh (show i < 31 by omega), nI_or, nI_1]
    · rw [if_neg hb, if_neg hb, nI_or, nI_1]
  · show m_X6_freeSet_L4 _ _ _ (f + 1) _ _ = _
    rw [m_X6_freeSet_L4, r_a hz, Option.bind_some, i0, r_al hz ha (by omega), Option.bind_some, iLe (Nat.le_refl _) (by omega)]
theorem y_stp (hz : 31 ≤ h.2.1) (ha : Al A al) (R : Rg al) {set X : Nat} (hX : X < 512) (K : Int32 → Option Int32) : m_X6_reached_L19 20 (nI set) (nI X) (setR v A h) K LF (nI X) (0 : Int32) = K (nI (X ||| orN (al 0) (fun k => if X.testBit k then nrf al k &&& set else 0))) := by
  have hN : al 0 ≤ 9 := R.1
  have key := forN (fun f i s => m_X6_reached_L19 20 (nI set) (nI X) (setR v A h) K f (nI s) (nI i)) (al 0) (fun i => X ||| orN i (fun k => if X.testBit k then nrf al k &&& set else 0)) (K (nI (X ||| orN (al 0) (fun k => if X.testBit k then nrf al k &&& set else 0)))) (fun f i hi e => ?_) (fun f => ?_) LF 0 (Nat.zero_le _) (by unfold LF; omega)
  · have e0 : X ||| orN 0 (fun k => if X.testBit k = true then nrf al k &&& set else 0) = X := Nat.or_zero X
    have key' : m_X6_reached_L19 20 (nI set) (nI X) (setR v A h) K LF (nI (X ||| orN 0 (fun k => if X.testBit k = true then nrf al k &&& set else 0))) (nI 0) = _ := key
    rw [e0] at key'
    exact key'
  · show m_X6_reached_L19 _ _ _ _ _ (f + 1) _ _ = _
    rw [m_X6_reached_L19, r_a hz, Option.bind_some, i0, r_al hz ha (by omega), Option.bind_some, iNle hi (by omega), nI_bit (by omega) (by omega)]
    rw [← e]
    simp only [jK, nm, orN, Option.bind_some]
    by_cases hb : X.testBit i = true
    · rw [hb, if_pos (by decide), if_pos rfl, i13, nI_add, r_nr hz ha (by omega), Option.bind_some, nI_and, nI_or, nI_1, Nat.or_assoc]
    · rw [if_neg hb, Bool.eq_false_iff.mpr hb, if_neg (by decide), nI_or, nI_1, Nat.or_zero, Nat.or_zero]
  · show m_X6_reached_L19 _ _ _ _ _ (f + 1) _ _ = _
    rw [m_X6_reached_L19, r_a hz, Option.bind_some, i0, r_al hz ha (by omega), Option.bind_some, iLe (Nat.le_refl _) (by omega)]
theorem y_reached (hz : 31 ≤ h.2.1) (ha : Al A al) (R : Rg al) {set u : Nat} (hset : set < 512) (hN : ∀ i, set.testBit i = true → i < al 0) (hu : set.testBit u = true) : m_X6_reached 20 (nI u) (nI set) (setR v A h) = some (nI (rch (nrf al) set (2 ^ u))) := by
  unfold m_X6_reached
  have hu9 := bit_lt hset hu
  rw [nI_sh (by omega)]
  simp only [nm]
  have step : ∀ X, (∀ i, X.testBit i = true → set.testBit i = true) → ∀ w, (X ||| orN (al 0) (fun k => if X.testBit k then nrf al k &&& set else 0)).testBit w = true ↔ (X.testBit w = true ∨ ∃ k, X.testBit k = true ∧ (nrf al k).testBit w = true ∧ set.testBit w = true) := by
    intro X hX w
    rw [Nat.testBit_or, Bool.or_eq_true, tb_orN]
    refine or_congr Iff.rfl ⟨fun ⟨k, hk, e⟩ => ?_, fun ⟨k, e1, e2, e3⟩ => ⟨k, hN k (hX k e1), ?_⟩⟩
    · by_cases hb : X.testBit k = true
      · rw [if_pos hb, Nat.testBit_and, Bool.and_eq_true] at e
        exact ⟨k, hb, e.1, e.2⟩
      · rw [if_neg hb, Nat.zero_testBit] at e
        cases e
    · rw [if_pos e1, Nat.testBit_and, e2, e3]
      rfl
  have lt512 : ∀ X : Nat, (∀ i, X.testBit i = true → set.testBit i = true) → X < 512 := fun X hX => tb_lt (n := 9) fun i hi => by
    cases h9 : X.testBit i
    · rfl
    · exact absurd (hX i h9) (by rw [tb_ge (n := 9) hset hi]; decide)
  have key : ∀ m X Y f, 9 ≤ pop X + m → m + 2 ≤ f → (∀ i, X.testBit i = true → set.testBit i = true) → X.testBit u = true → Y < 512 →
      (∀ Z : Nat → Prop, Z u → (∀ a w, Z a → (nrf al a).testBit w = true → set.testBit w = true → Z w) → ∀ i, X.testBit i = true → Z i) →
      (X = Y → ∀ a w, X.testBit a = true → (nrf al a).testBit w = true → set.testBit w = true → X.testBit w = true) →
      m_X6_reached_L7 20 (nI set) (setR v A h) (fun v6 => some v6) f (nI X) (nI Y) = some (nI (rch (nrf al) set (2 ^ u))) := by
    have fin : ∀ X, (∀ i, X.testBit i = true → set.testBit i = true) → X.testBit u = true → (∀ Z : Nat → Prop, Z u → (∀ a w, Z a → (nrf al a).testBit w = true → set.testBit w = true → Z w) → ∀ i, X.testBit i = true → Z i) → (∀ a w, X.testBit a = true → (nrf al a).testBit w = true → set.testBit w = true → X.testBit w = true) → X = rch (nrf al) set (2 ^ u) := by
      intro X a1 a2 a3 a4
      refine Cl_uniq (s := 2 ^ u) ⟨fun i hi _ => ?_, a1, a4, fun Z z1 z2 => a3 Z (z1 u Nat.testBit_two_pow_self hu) z2⟩ (rch_cl hset)
      rw [tb_pow] at hi
      cases of_decide_eq_true hi
      exact a2
    intro m
    induction m with
    | zero =>
      intro X Y f hm hf a1 a2 hY a3 a4
      obtain ⟨f, rfl⟩ : ∃ m, f = m + 1 + 1 := ⟨f - 2, by omega⟩
      have hX := lt512 X a1
      rw [m_X6_reached_L7]
      by_cases hXY : X = Y
      · rw [if_pos (by rw [hXY]), fin X a1 a2 a3 (a4 hXY)]
      · rw [if_neg (fun e => hXY ((nI_eq (by omega) (by omega)).mp e)), y_stp hz ha R hX]
        have hX5 := pop_full hX (by omega)
        have e : X ||| orN (al 0) (fun k => if X.testBit k = true then nrf al k &&& set else 0) = X := bit_eq fun w => (step X a1 w).trans ⟨fun e => e.elim id fun ⟨k, _, _, hw⟩ => by
          rw [hX5]
          exact (by decide +kernel : ∀ w, w < 9 → (511 : Nat).testBit w = true) w (bit_lt hset hw), Or.inl⟩
        rw [e, m_X6_reached_L7, if_pos rfl, fin X a1 a2 a3]
        intro a w h1 h2 h3
        rw [hX5]
        exact (by decide +kernel : ∀ w, w < 9 → (511 : Nat).testBit w = true) w (bit_lt hset h3)
    | succ m ih =>
      intro X Y f hm hf a1 a2 hY a3 a4
      obtain ⟨f, rfl⟩ : ∃ m, f = m + 1 + 1 := ⟨f - 2, by omega⟩
      have hX := lt512 X a1
      rw [m_X6_reached_L7]
      by_cases hXY : X = Y
      · rw [if_pos (by rw [hXY]), fin X a1 a2 a3 (a4 hXY)]
      · rw [if_neg (fun e => hXY ((nI_eq (by omega) (by omega)).mp e)), y_stp hz ha R hX]
        have st := step X a1
        generalize hE : X ||| orN (al 0) (fun k => if X.testBit k = true then nrf al k &&& set else 0) = E at st
        by_cases hEX : E = X
        · rw [hEX, m_X6_reached_L7, if_pos rfl, fin X a1 a2 a3]
          intro a w h1 h2 h3
          rw [← hEX]
          exact (st w).mpr (Or.inr ⟨a, h1, h2, h3⟩)
        · have s1 : ∀ i, E.testBit i = true → set.testBit i = true := fun i hi => ((st i).mp hi).elim (a1 i) fun ⟨_, _, _, e⟩ => e
          refine ih E X (f + 1) ?_ (by omega) s1 ((st u).mpr (Or.inl a2)) hX (fun Z z1 z2 i hi => ((st i).mp hi).elim (a3 Z z1 z2 i) fun ⟨k, e1, e2, e3⟩ => z2 k i (a3 Z z1 z2 k e1) e2 e3) (fun e => absurd e hEX)
          obtain ⟨w, hw⟩ : ∃ w, E.testBit w = true ∧ X.testBit w = false := by
            refine Classical.byContradiction fun hn => hEX (bit_eq fun i => ⟨fun hi => ?_, fun hi => (st i).mpr (Or.inl hi)⟩)
            cases hx : X.testBit i
            · exact absurd ⟨i, hi, hx⟩ hn
            · rfl
          have h1 := pop_add hX (bit_lt hset (s1 w hw.1)) hw.2
          have h2 : pop (X ||| 2 ^ w) ≤ pop E := pop_sub fun i _ hi => by
            rw [Nat.testBit_or, tb_pow, Bool.or_eq_true, decide_eq_true_eq] at hi
            rcases hi with hi | rfl
            · exact (st i).mpr (Or.inl hi)
            · exact hw.1
          omega
  refine key 9 (2 ^ u) 0 LF (by omega) (by decide) (fun i hi => ?_) Nat.testBit_two_pow_self (by decide) (fun Z z1 _ i hi => ?_) (fun e => ?_)
  · rw [tb_pow] at hi
    cases of_decide_eq_true hi
    exact hu
  · rw [tb_pow] at hi
    cases of_decide_eq_true hi
    exact z1
  · exact absurd e (Nat.ne_of_gt (Nat.two_pow_pos u))
end RR
