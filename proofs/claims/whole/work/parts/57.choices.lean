/-! what can be laid, on both sides; numbers of a board -/
/-- the colours that the reference lets be laid on u, of a part, with a ban (0: none) -/
def cly (al : Nat → Nat) (u part bb : Nat) : Nat := if bb = 0 ∨ pop part = 1 then dif (al (4 + u)) (arn al u) else dif (dif (al (4 + u)) (arn al u)) (2 ^ (bb - 1))
theorem i_m1' : (-1 : Int32) = nI 0 - 1 := by decide +kernel
theorem nI_sub1 {a b : Nat} (ha : a < 2 ^ 31) (hb : b < 2 ^ 31) : nI a - 1 = nI b - 1 ↔ a = b := by
  constructor
  · intro h
    have : nI a - 1 + 1 = nI b - 1 + 1 := by rw [h]
    rw [Int32.sub_add_cancel, Int32.sub_add_cancel] at this
    exact (nI_eq ha hb).mp this
  · rintro rfl
    rfl
theorem cly_tb {al : Nat → Nat} {u part bb c : Nat} (hb : bb ≤ 3) : (cly al u part bb).testBit c = true ↔ (al (4 + u)).testBit c = true ∧ (arn al u).testBit c = false ∧ (bb = 0 ∨ pop part = 1 ∨ ¬ c + 1 = bb) := by
  unfold cly
  by_cases h : bb = 0 ∨ pop part = 1
  · rw [if_pos h, tb_dif, Bool.and_eq_true, Bool.not_eq_true']
    exact ⟨fun ⟨a, b⟩ => ⟨a, b, h.elim Or.inl (fun e => Or.inr (Or.inl e))⟩, fun ⟨a, b, _⟩ => ⟨a, b⟩⟩
  · rw [if_neg h, tb_dif, tb_dif, tb_pow, Bool.and_eq_true, Bool.and_eq_true, Bool.not_eq_true', Bool.not_eq_true', decide_eq_false_iff_not]
    constructor
    · rintro ⟨⟨a, b⟩, d⟩
      exact ⟨a, b, Or.inr (Or.inr (by omega))⟩
    · rintro ⟨a, b, d⟩
      refine ⟨⟨a, b⟩, ?_⟩
      rcases d with d | d | d
      · exact absurd (Or.inl d) h
      · exact absurd (Or.inr d) h
      · have : bb ≠ 0 := fun e => h (Or.inl e)
        omega
theorem wn_0 {al b : Nat → Nat} {u c : Nat} : wn al b u c = 0 ↔ (fre al).testBit u = true ∧ (lsf al c).testBit u = true ∧ nrf al u &&& pnf al c = 0 ∧ (nrf al u &&& fre al = 0 ∨ (b c).testBit u = false) := by
  unfold wn
  by_cases h1 : (fre al).testBit u = true
  · rw [if_pos h1]
    by_cases h2 : (lsf al c).testBit u = true
    · rw [if_pos h2]
      by_cases h3 : nrf al u &&& pnf al c = 0
      · rw [if_pos h3]
        by_cases h4 : nrf al u &&& fre al = 0
        · rw [if_pos h4]
          exact ⟨fun _ => ⟨h1, h2, h3, Or.inl h4⟩, fun _ => rfl⟩
        · rw [if_neg h4]
          by_cases h5 : (b c).testBit u = true
          · rw [if_pos h5]
            exact ⟨fun e => (by cases e), fun ⟨_, _, _, e⟩ => e.elim (fun e => absurd e h4) (fun e => by rw [h5] at e; cases e)⟩
          · rw [if_neg h5]
            exact ⟨fun _ => ⟨h1, h2, h3, Or.inr (Bool.eq_false_iff.mpr h5)⟩, fun _ => rfl⟩
      · rw [if_neg h3]
        exact ⟨fun e => (by cases e), fun ⟨_, _, e, _⟩ => absurd e h3⟩
    · rw [if_neg h2]
      exact ⟨fun e => (by cases e), fun ⟨_, e, _, _⟩ => absurd e h2⟩
  · rw [if_neg h1]
    exact ⟨fun e => (by cases e), fun ⟨e, _, _, _⟩ => absurd e h1⟩
theorem chs_tb {al b : Nat → Nat} {u c : Nat} : (chs al b u).testBit c = true ↔ c < al 1 ∧ wn al b u c = 0 := by
  unfold chs
  rw [tb_mks, Bool.and_eq_true, decide_eq_true_eq, beq_iff_eq]
theorem chs_nf {al b : Nat → Nat} {u : Nat} (h : (fre al).testBit u = false) : chs al b u = 0 := bit_eq fun c => by
  rw [chs_tb, wn_0, h, Nat.zero_testBit]
  exact ⟨fun ⟨_, e, _⟩ => (by cases e), fun e => by cases e⟩
theorem cly_chs {al b : Nat → Nat} (R : Rg al) (hk : Bk al b) {u : Nat} (hu : (fre al).testBit u = true) : cly al u (rch (nrf al) (fre al) (2 ^ u)) (al (31 + u)) = chs al b u := by
  have hu9 := bit_lt (fre_lt R) hu
  have hr := R.2.2.2.2.1 u hu9
  refine bit_eq fun c => ?_
  rw [cly_tb hr.2.2.2, chs_tb, wn_0, alone_iff R hu]
  constructor
  · rintro ⟨h1, h2, h3⟩
    have hc := R.2.2.2.2.2.2.2 u hu9 c h1
    have hc3 : c < 3 := Nat.lt_of_lt_of_le hc R.2.1
    refine ⟨hc, hu, by rw [lsf_tb hu9]; exact h1, ?_, ?_⟩
    · unfold arn at h2
      rw [tb_mks, decide_eq_true hc3, Bool.true_and, Bool.not_eq_false'] at h2
      exact eq_of_beq h2
    · rw [(hk c hc3).2 u hu]
      rcases h3 with h3 | h3 | h3
      · exact Or.inr (by rw [h3]; rfl)
      · exact Or.inl h3
      · exact Or.inr (beq_eq_false_iff_ne.mpr (fun e => h3 e.symm))
  · rintro ⟨hc, -, h1, h2, h3⟩
    have hc3 : c < 3 := Nat.lt_of_lt_of_le hc R.2.1
    rw [lsf_tb hu9] at h1
    refine ⟨h1, ?_, ?_⟩
    · unfold arn
      rw [tb_mks, decide_eq_true hc3, Bool.true_and, h2]
      rfl
    · rw [(hk c hc3).2 u hu] at h3
      rcases h3 with h3 | h3
      · exact Or.inr (Or.inl h3)
      · exact Or.inr (Or.inr (fun e => by rw [← e] at h3; simp at h3))
theorem cly_lt {al : Nat → Nat} (R : Rg al) {u part bb : Nat} (hu : u < 9) : cly al u part bb < 8 := by
  have h := (R.2.2.2.2.1 u hu).1
  unfold cly
  split
  · exact dif_lt (n := 3) h
  · exact dif_lt (n := 3) (dif_lt (n := 3) h)
section RR
variable {v : Nat → Int32} {A : Nat → Nat → Int32} {h : Hp} {al b : Nat → Nat}
theorem y_canLay (hz : 31 ≤ h.2.1) (ha : Al A al) (R : Rg al) {u part bb : Nat} (hu : u < 9) (hp : part < 512) (hb : bb ≤ 3) : m_X6_canLay 20 (nI u) (nI part) (nI bb - 1) (setR v A h) = some (nI (cly al u part bb)) := by
  unfold m_X6_canLay cly
  have h4 := (R.2.2.2.2.1 u hu).1
  have hd : dif (al (4 + u)) (arn al u) < 8 := dif_lt (n := 3) h4
  have hpp := pop_le (s := part)
  rw [r_a hz, Option.bind_some, i4, nI_add, r_al hz ha (by omega), Option.bind_some, r_cv hz, y_around hz ha R hu, Option.bind_some]
  simp only [nm]
  rw [nI_dif (by omega), i_m1']
  by_cases h0 : bb = 0
  · rw [if_pos ((nI_sub1 (by omega) (by decide)).mpr h0), if_pos (Or.inl h0)]
  · rw [if_neg (fun e => h0 ((nI_sub1 (by omega) (by decide)).mp e)), y_bits hp, Option.bind_some, i1]
    by_cases h1 : pop part = 1
    · rw [if_pos (by rw [h1]), if_pos (Or.inr h1)]
    · rw [if_neg (fun e => h1 ((nI_eq (by omega) (by decide)).mp e)), if_neg (fun e => e.elim h0 h1), pk_sub (by omega), ← i1, nI_sh (by omega), ← i_m1', nI_dif (by omega)]
theorem y_colours (hz : 31 ≤ h.2.1) (ha : Al A al) (R : Rg al) (hk : Bk al b) {u : Nat} (hu : u < al 0) : m_X6_colours 20 (nI u) (setR v A h) = some (nI (chs al b u)) := by
  unfold m_X6_colours
  have hN : al 0 ≤ 9 := R.1
  have hf := fre_lt R
  rw [r_cv hz, y_isFree hz ha R (by omega), Option.bind_some, fre_v hu]
  by_cases h1 : (fre al).testBit u = true
  · rw [if_pos h1, r_cv hz, y_freeSet hz ha R, Option.bind_some, r_cv hz, y_reached hz ha R hf (fun i hi => fre_N hi) h1, Option.bind_some, r_cv hz, y_banOf hz ha (by omega), Option.bind_some, r_cv hz,
      y_canLay hz ha R (by omega) (rch_lt hf) (R.2.2.2.2.1 u (by omega)).2.2.2, Option.bind_some, cly_chs R hk h1]
  · rw [if_neg h1, chs_nf (Bool.eq_false_iff.mpr h1)]
    rfl
theorem y_whyNot (hz : 31 ≤ h.2.1) (ha : Al A al) (R : Rg al) (hk : Bk al b) {u c : Nat} (hu : u < al 0) (hc : c < al 1) : m_X6_whyNot 20 (nI u) (nI c) (setR v A h) = some (nI (wn al b u c)) := by
  unfold m_X6_whyNot
  have hN : al 0 ≤ 9 := R.1
  have hC : al 1 ≤ 3 := R.2.1
  have h4 := (R.2.2.2.2.1 u (by omega)).1
  have ha8 : arn al u < 8 := mks_lt _ 3
  have hc8 := chs_lt (b := b) R (v := u)
  rw [r_cv hz, y_isFree hz ha R (by omega), Option.bind_some, fre_v hu]
  by_cases h1 : (fre al).testBit u = true
  · rw [if_pos h1, r_a hz, Option.bind_some, i4, nI_add, r_al hz ha (by omega), Option.bind_some, nI_bit (by omega) (by omega)]
    by_cases h2 : (al (4 + u)).testBit c = true
    · rw [h2, if_neg (by decide), r_cv hz, y_around hz ha R (by omega), Option.bind_some, nI_bit (by omega) (by omega)]
      by_cases h3 : (arn al u).testBit c = true
      · rw [h3, if_pos (by decide)]
        have h3' : ¬ nrf al u &&& pnf al c = 0 := by
          unfold arn at h3
          rw [tb_mks, Bool.and_eq_true] at h3
          intro e
          rw [e] at h3
          cases h3.2
        unfold wn
        rw [if_pos h1, if_pos (by rw [lsf_tb (by omega)]; exact h2), if_neg h3']
        rfl
      · have h3' : nrf al u &&& pnf al c = 0 := by
          have := Bool.eq_false_iff.mpr h3
          unfold arn at this
          rw [tb_mks, decide_eq_true (by omega), Bool.true_and, Bool.not_eq_false'] at this
          exact eq_of_beq this
        rw [Bool.eq_false_iff.mpr h3, if_neg (by decide), r_cv hz, y_colours hz ha R hk hu, Option.bind_some, nI_bit (by omega) (by omega)]
        by_cases h5 : (chs al b u).testBit c = true
        · rw [h5, if_pos (by decide), (chs_tb.mp h5).2, i0]
        · rw [Bool.eq_false_iff.mpr h5, if_neg (by decide)]
          have hw : ¬ wn al b u c = 0 := fun e => h5 (chs_tb.mpr ⟨hc, e⟩)
          have hw4 : wn al b u c = 4 ∨ wn al b u c = 0 := by
            unfold wn
            rw [if_pos h1, if_pos (by rw [lsf_tb (by omega)]; exact h2), if_pos h3']
            split
            · exact Or.inr rfl
            · split
              · exact Or.inl rfl
              · exact Or.inr rfl
          rw [hw4.resolve_right hw]
    · rw [Bool.eq_false_iff.mpr h2, if_pos (by decide)]
      unfold wn
      rw [if_pos h1, if_neg (by rw [lsf_tb (by omega)]; exact h2)]
      rfl
  · rw [if_neg h1]
    unfold wn
    rw [if_neg h1]
    rfl
theorem prs_fre (R : Rg al) : sumN (al 0) (fun i => pop (chs al b i)) = prs al b (fre al) := by
  unfold prs
  refine sumN_ext R.1 (fun i hi => ?_) (fun i hi hj => ?_)
  · by_cases h1 : (fre al).testBit i = true
    · rw [if_pos h1]
    · rw [if_neg h1, chs_nf (Bool.eq_false_iff.mpr h1)]
      decide +kernel
  · rw [if_neg (fun e => by have := fre_N e; omega)]
theorem y_pairs (hz : 31 ≤ h.2.1) (ha : Al A al) (R : Rg al) (hk : Bk al b) : m_X6_pairs 20 (setR v A h) = some (nI (prs al b (fre al))) := by
  unfold m_X6_pairs
  have hN : al 0 ≤ 9 := R.1
  rw [← prs_fre R]
  refine forN (fun f i s => m_X6_pairs_L4 20 (setR v A h) (fun v4 => some v4) f (nI s) (nI i)) (al 0) (fun i => sumN i (fun i => pop (chs al b i))) _ (fun f i hi e => ?_) (fun f => ?_) LF 0 (Nat.zero_le _) (by unfold LF; omega)
  · show m_X6_pairs_L4 _ _ _ (f + 1) _ _ = _
    have hc8 := chs_lt (b := b) R (v := i)
    rw [m_X6_pairs_L4, r_a hz, Option.bind_some, i0, r_al hz ha (by omega), Option.bind_some, iNle hi (by omega), r_cv hz, y_colours hz ha R hk hi, Option.bind_some, y_bits (by omega), Option.bind_some]
    rw [← e]
    simp only [nm, sumN, nI_add, nI_1]
  · show m_X6_pairs_L4 _ _ _ (f + 1) _ _ = _
    rw [m_X6_pairs_L4, r_a hz, Option.bind_some, i0, r_al hz ha (by omega), Option.bind_some, iLe (Nat.le_refl _) (by omega)]
theorem y_pairsIn (hz : 31 ≤ h.2.1) (ha : Al A al) (R : Rg al) (hk : Bk al b) {set : Nat} (hset : set < 512) (hs : ∀ i, set.testBit i = true → i < al 0) : m_X6_pairsIn 20 (nI set) (setR v A h) = some (nI (prs al b set)) := by
  unfold m_X6_pairsIn prs
  have hN : al 0 ≤ 9 := R.1
  rw [← sumN_ext (f := fun i => if set.testBit i = true then pop (chs al b i) else 0) (n := al 0) hN (fun i hi => rfl) (fun i hi hj => if_neg (fun e => by have := hs i e; omega))]
  refine forN (fun f i s => m_X6_pairsIn_L4 20 (nI set) (setR v A h) (fun v5 => some v5) f (nI s) (nI i)) (al 0) (fun i => sumN i (fun i => if set.testBit i = true then pop (chs al b i) else 0)) _ (fun f i hi e => ?_) (fun f => ?_) LF 0 (Nat.zero_le _) (by unfold LF; omega)
  · show m_X6_pairsIn_L4 _ _ _ _ (f + 1) _ _ = _
    have hc8 := chs_lt (b := b) R (v := i)
    rw [m_X6_pairsIn_L4, r_a hz, Option.bind_some, i0, r_al hz ha (by omega), Option.bind_some, iNle hi (by omega), nI_bit (by omega) (by omega)]
    rw [← e]
    simp only [jK, nm, sumN]
    by_cases hb : set.testBit i = true
    · rw [hb, if_pos (by decide), if_pos rfl, r_cv hz, y_colours hz ha R hk hi, Option.bind_some, y_bits (by omega), Option.bind_some, nI_add, nI_1]
    · rw [if_neg hb, Bool.eq_false_iff.mpr hb, if_neg (by decide), nI_add, nI_1]
  · show m_X6_pairsIn_L4 _ _ _ _ (f + 1) _ _ = _
    rw [m_X6_pairsIn_L4, r_a hz, Option.bind_some, i0, r_al hz ha (by omega), Option.bind_some, iLe (Nat.le_refl _) (by omega)]
theorem y_stuck (hz : 31 ≤ h.2.1) (ha : Al A al) (R : Rg al) (hk : Bk al b) : m_X6_stuck 20 (setR v A h) = some (nI (stk al b)) := by
  unfold m_X6_stuck stk
  have hN : al 0 ≤ 9 := R.1
  rw [← sumN_ext (f := fun i => if (fre al).testBit i = true then (if chs al b i = 0 then 1 else 0) else 0) (n := al 0) hN (fun i hi => rfl) (fun i hi hj => if_neg (fun e => by have := fre_N e; omega))]
  refine forN (fun f i s => m_X6_stuck_L4 20 (setR v A h) (fun v4 => some v4) f (nI s) (nI i)) (al 0) (fun i => sumN i (fun i => if (fre al).testBit i = true then (if chs al b i = 0 then 1 else 0) else 0)) _ (fun f i hi e => ?_) (fun f => ?_) LF 0 (Nat.zero_le _) (by unfold LF; omega)
  · show m_X6_stuck_L4 _ _ _ (f + 1) _ _ = _
    have hc8 := chs_lt (b := b) R (v := i)
    rw [m_X6_stuck_L4, r_a hz, Option.bind_some, i0, r_al hz ha (by omega), Option.bind_some, iNle hi (by omega), r_cv hz, y_isFree hz ha R (by omega), Option.bind_some, fre_v hi]
    rw [← e]
    simp only [jK, nm, sumN]
    by_cases hb : (fre al).testBit i = true
    · rw [if_pos hb, if_pos hb, r_cv hz, y_colours hz ha R hk hi, Option.bind_some, iZ' (by omega)]
      by_cases h0 : chs al b i = 0
      · rw [if_pos h0, if_pos h0, show bI true = nI 1 from rfl, nI_add, nI_1]
      · rw [if_neg h0, if_neg h0, show bI false = nI 0 from rfl, nI_add, nI_1]
    · rw [if_neg hb, if_neg hb, show bI false = nI 0 from rfl, nI_add, nI_1]
  · show m_X6_stuck_L4 _ _ _ (f + 1) _ _ = _
    rw [m_X6_stuck_L4, r_a hz, Option.bind_some, i0, r_al hz ha (by omega), Option.bind_some, iLe (Nat.le_refl _) (by omega)]
theorem prs_lt {set : Nat} : prs al b set ≤ 81 := by
  have := sumN_le (g := fun v => if set.testBit v = true then pop (chs al b v) else 0) (b := 9) (n := 9) (fun i _ => by
    show (if set.testBit i = true then pop (chs al b i) else 0) ≤ 9
    split
    · exact pop_le
    · omega)
  exact this
theorem y_isOver (hz : 31 ≤ h.2.1) (ha : Al A al) (R : Rg al) (hk : Bk al b) : m_X6_isOver 20 (setR v A h) = some (al 2 == 0 && prs al b (fre al) == 0) := by
  unfold m_X6_isOver
  have hp := prs_lt (al := al) (b := b) (set := fre al)
  have h2 := R.2.2.1
  rw [r_cv hz, y_pairs hz ha R hk, Option.bind_some, iZ (by omega)]
  by_cases h0 : prs al b (fre al) = 0
  · rw [if_pos h0, r_a hz, Option.bind_some, i2, r_al hz ha (by omega), Option.bind_some, iZ (by omega), h0]
    by_cases h1 : al 2 = 0
    · rw [if_pos h1, h1]; rfl
    · rw [if_neg h1, beq_eq_false_iff_ne.mpr h1]; rfl
  · rw [if_neg h0, beq_eq_false_iff_ne.mpr h0, Bool.and_false]
end RR
section BD
variable {h : Hp} {o num : Nat} {al b : Nat → Nat} {lat : Option Nat}
theorem x_isOver (B : BdH h o num al b lat) (R : Rg al) : m_X0_isOver o h = some (al 2 == 0 && prs al b (fre al) == 0) := by
  unfold m_X0_isOver
  have hp := prs_lt (al := al) (b := b) (set := fre al)
  have h2 := R.2.2.1
  rw [bd_P B, Option.bind_some, iZ (by omega)]
  by_cases h1 : al 2 = 0
  · rw [if_pos h1, bd_f B, Option.bind_some, bd_cv B, x_choicesIn B R, Option.bind_some, iZ (by omega), h1]
    by_cases h0 : prs al b (fre al) = 0
    · rw [if_pos h0, h0]; rfl
    · rw [if_neg h0, beq_eq_false_iff_ne.mpr h0]; rfl
  · rw [if_neg h1, beq_eq_false_iff_ne.mpr h1, Bool.false_and]
end BD
