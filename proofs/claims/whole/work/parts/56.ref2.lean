/-! the reference's board read on: parts, choices -/
theorem pop_2w {v : Nat} (h : v < 9) : pop (2 ^ v) = 1 := (by decide +kernel : ∀ v, v < 9 → pop (2 ^ v) = 1) v h
theorem sumN_ext {f g : Nat → Nat} {n m : Nat} (h : n ≤ m) (h1 : ∀ i, i < n → f i = g i) (h2 : ∀ i, n ≤ i → i < m → g i = 0) : sumN n f = sumN m g := by
  obtain ⟨d, rfl⟩ : ∃ d, m = n + d := ⟨m - n, by omega⟩
  clear h
  induction d with
  | zero => exact sumN_congr h1
  | succ d ih =>
    rw [← Nat.add_assoc, sumN, ← ih (fun i hi hj => h2 i hi (by omega)), h2 (n + d) (by omega) (by omega)]
    rfl
theorem fre_N {al : Nat → Nat} {i : Nat} (h : (fre al).testBit i = true) : i < al 0 := by
  rw [fre_tb, Bool.and_eq_true, decide_eq_true_eq] at h
  exact h.1
theorem fre_v {al : Nat → Nat} {u : Nat} (hu : u < al 0) : (al (22 + u) == 0) = (fre al).testBit u := by
  rw [fre_tb, decide_eq_true hu, Bool.true_and]
theorem bnn_ok {al b : Nat → Nat} (hk : Bk al b) {set u : Nat} (hs : ∀ i, set.testBit i = true → (fre al).testBit i = true) (hu : set.testBit u = true) (hun : ∀ i, set.testBit i = true → al (31 + i) = al (31 + u)) (hr : al (31 + u) ≤ 3) : bnn b set = if al (31 + u) = 0 then 3 else al (31 + u) - 1 := by
  have z : ∀ c, c < 3 → (b c &&& set = 0 ↔ ¬ al (31 + u) = c + 1) := by
    intro c hc
    constructor
    · intro e h
      have : (b c &&& set).testBit u = true := by
        rw [Nat.testBit_and, hu, (hk c hc).2 u (hs u hu), h]
        simp
      rw [e, Nat.zero_testBit] at this
      cases this
    · intro h
      refine Classical.byContradiction fun hn => ?_
      obtain ⟨i, hi⟩ := ne_0.mp hn
      rw [Nat.testBit_and, Bool.and_eq_true] at hi
      obtain ⟨g1, g2⟩ := hi
      rw [(hk c hc).2 i (hs i g2), hun i g2] at g1
      exact h (eq_of_beq g1)
  unfold bnn
  have z0 := z 0 (by decide)
  have z1 := z 1 (by decide)
  have z2 := z 2 (by decide)
  by_cases e0 : al (31 + u) = 1
  · rw [if_neg (fun e => z0.mp e e0), if_neg (by omega)]
    omega
  · rw [if_pos (z0.mpr e0)]
    by_cases e1 : al (31 + u) = 2
    · rw [if_neg (fun e => z1.mp e e1), if_neg (by omega)]
      omega
    · rw [if_pos (z1.mpr e1)]
      by_cases e2 : al (31 + u) = 3
      · rw [if_neg (fun e => z2.mp e e2), if_neg (by omega)]
        omega
      · rw [if_pos (z2.mpr e2), if_pos (by omega)]
section RR
variable {v : Nat → Int32} {A : Nat → Nat → Int32} {h : Hp} {al b : Nat → Nat}
theorem y_prt (hz : 31 ≤ h.2.1) (ha : Al A al) (R : Rg al) (hy : Sy (nrf al)) {set j : Nat} (hset : set < 512) (hN : ∀ i, set.testBit i = true → i < al 0) (h0 : rst (nrf al) set j ≠ 0) : m_X6_reached 20 (nI (lo (rst (nrf al) set j))) (nI set) (setR v A h) = some (nI (prt (nrf al) set j)) :=
  y_reached hz ha R hset hN (prt_in hy hset h0).2.2
theorem y_partsIn (hz : 31 ≤ h.2.1) (ha : Al A al) (R : Rg al) (hy : Sy (nrf al)) {set : Nat} (hset : set < 512) (hN : ∀ i, set.testBit i = true → i < al 0) : m_X6_partsIn 20 (nI set) (setR v A h) = some (nI (np (nrf al) set)) := by
  unfold m_X6_partsIn np
  have key : ∀ k j f, j + k = 9 → k < f → m_X6_partsIn_L4 20 (nI set) (setR v A h) (fun v5 => some v5) f (nI j) (nI (rst (nrf al) set j)) = some (nI (npf (nrf al) set k j)) := by
    intro k
    induction k with
    | zero =>
      intro j f hj hf
      obtain ⟨f, rfl⟩ : ∃ m, f = m + 1 := ⟨f - 1, by omega⟩
      rw [Nat.add_zero] at hj
      subst hj
      rw [m_X6_partsIn_L4, rst_9 hy hset, if_pos (by decide +kernel), npf]
    | succ k ih =>
      intro j f hj hf
      obtain ⟨f, rfl⟩ : ∃ m, f = m + 1 := ⟨f - 1, by omega⟩
      have hr := rst_lt (nr := nrf al) hset j
      rw [m_X6_partsIn_L4, npf]
      by_cases h0 : rst (nrf al) set j = 0
      · rw [if_pos h0, h0, if_pos (by decide +kernel)]
      · rw [if_neg h0, if_neg (nI_nle (by omega) (by omega))]
        simp only [nm]
        rw [y_low hr h0, Option.bind_some, r_cv hz, y_prt hz ha R hy hset hN h0, Option.bind_some, nI_dif (by omega), nI_1]
        exact ih (j + 1) f (by omega) (by omega)
  exact key 9 0 LF rfl (by decide)
theorem y_partSet (hz : 31 ≤ h.2.1) (ha : Al A al) (R : Rg al) (hy : Sy (nrf al)) {p : Nat} (hp : p < 2 ^ 31) : m_X6_partSet 20 (nI p) (setR v A h) = some (nI (prt (nrf al) (fre al) p)) := by
  unfold m_X6_partSet
  have hf := fre_lt R
  have hN : ∀ i, (fre al).testBit i = true → i < al 0 := fun i hi => fre_N hi
  rw [r_cv hz, y_freeSet hz ha R, Option.bind_some]
  have key : ∀ (K : Int32 → Option Int32) k j f, j + k = min p 9 → k < f → m_X6_partSet_L10 20 (nI p) (nI (fre al)) (setR v A h) K f (nI (rst (nrf al) (fre al) j)) (nI j) = K (nI (rst (nrf al) (fre al) (min p 9))) := by
    intro K k
    induction k with
    | zero =>
      intro j f hj hf
      obtain ⟨f, rfl⟩ : ∃ m, f = m + 1 := ⟨f - 1, by omega⟩
      rw [Nat.add_zero] at hj
      rw [m_X6_partSet_L10]
      by_cases h1 : p ≤ j
      · rw [iLe h1 (by omega), hj]
      · have h9 : j = 9 := by omega
        rw [iNle (by omega) hp, if_pos (by rw [h9, rst_9 hy (fre_lt R)]; decide +kernel), hj]
    | succ k ih =>
      intro j f hj hf9
      obtain ⟨f, rfl⟩ : ∃ m, f = m + 1 := ⟨f - 1, by omega⟩
      have hr := rst_lt (nr := nrf al) hf j
      rw [m_X6_partSet_L10, iNle (by omega) hp]
      by_cases h0 : rst (nrf al) (fre al) j = 0
      · have e : rst (nrf al) (fre al) (min p 9) = 0 := by
          have : ∀ d, rst (nrf al) (fre al) (j + d) = 0 := fun d => by
            induction d with
            | zero => exact h0
            | succ d ih => exact rst_0 ih
          have h2 := this (min p 9 - j)
          rw [show j + (min p 9 - j) = min p 9 by omega] at h2
          exact h2
        rw [h0, if_pos (by decide +kernel), e]
      · rw [if_neg (nI_nle (by omega) (by omega)), y_low hr h0, Option.bind_some, r_cv hz, y_prt hz ha R hy hf hN h0, Option.bind_some]
        simp only [nm]
        rw [nI_dif (by omega), nI_1]
        exact ih (j + 1) f (by omega) (by omega)
  refine (key _ (min p 9) 0 LF (Nat.zero_add _) (by have : min p 9 ≤ 9 := Nat.min_le_right _ _; unfold LF; omega)).trans ?_
  have hr := rst_lt (nr := nrf al) hf (min p 9)
  have e9 : prt (nrf al) (fre al) (min p 9) = prt (nrf al) (fre al) p := by
    by_cases h9 : p ≤ 9
    · rw [Nat.min_eq_left h9]
    · rw [Nat.min_eq_right (by omega), prt_0 hf (rst_9 hy hf), prt_0 hf]
      have := rst_min hy hf (p - 9)
      rw [show 9 + (p - 9) = p by omega] at this
      exact this
  rw [iZ (by omega), ← e9]
  by_cases h0 : rst (nrf al) (fre al) (min p 9) = 0
  · rw [if_pos h0, prt_0 hf h0]
    rfl
  · rw [if_neg h0, y_low hr h0, Option.bind_some, r_cv hz, y_prt hz ha R hy hf hN h0]
    rfl
theorem y_partOf (hz : 31 ≤ h.2.1) (ha : Al A al) (R : Rg al) (hy : Sy (nrf al)) {u : Nat} (hu : (fre al).testBit u = true) : m_X6_partOf 20 (nI u) (setR v A h) = some (nI (pno (nrf al) (fre al) u 9 0)) := by
  unfold m_X6_partOf
  have hf := fre_lt R
  have hN : ∀ i, (fre al).testBit i = true → i < al 0 := fun i hi => fre_N hi
  have hu9 := bit_lt hf hu
  rw [r_cv hz, y_freeSet hz ha R, Option.bind_some]
  have key : ∀ k j f, j + k = 9 → k < f → (rst (nrf al) (fre al) j).testBit u = true → m_X6_partOf_L10 20 (nI u) (nI (fre al)) (setR v A h) (fun v7 => some v7) f (nI j) (nI (rst (nrf al) (fre al) j)) = some (nI (pno (nrf al) (fre al) u k j)) := by
    intro k
    induction k with
    | zero =>
      intro j f hj hf9 hb
      rw [Nat.add_zero] at hj
      rw [hj, rst_9 hy hf, Nat.zero_testBit] at hb
      cases hb
    | succ k ih =>
      intro j f hj hf9 hb
      obtain ⟨f, rfl⟩ : ∃ m, f = m + 1 := ⟨f - 1, by omega⟩
      have hr := rst_lt (nr := nrf al) hf j
      have h0 : rst (nrf al) (fre al) j ≠ 0 := ne_0.mpr ⟨u, hb⟩
      have hp9 : prt (nrf al) (fre al) j < 512 := rch_lt hf
      rw [m_X6_partOf_L10, y_low hr h0, Option.bind_some, r_cv hz, y_prt hz ha R hy hf hN h0, Option.bind_some, nI_bit (by omega) (by omega), pno]
      by_cases hc : (prt (nrf al) (fre al) j).testBit u = true
      · rw [if_pos hc, hc, if_neg (by decide)]
      · rw [if_neg hc, Bool.eq_false_iff.mpr hc, if_pos (by decide), Option.bind_some, r_cv hz, y_prt hz ha R hy hf hN h0, Option.bind_some]
        simp only [nm]
        rw [nI_dif (by omega), nI_1]
        refine ih (j + 1) f (by omega) (by omega) ?_
        rw [rst, tb_dif, hb]
        show (true && !(prt (nrf al) (fre al) j).testBit u) = true
        rw [Bool.eq_false_iff.mpr hc]
        rfl
  exact key 9 0 LF rfl (by decide) hu
theorem y_areNext (hz : 31 ≤ h.2.1) (ha : Al A al) (R : Rg al) {u w : Nat} (hu : u < 9) (hw : w < 31) : m_X6_areNext 20 (nI u) (nI w) (setR v A h) = some ((nrf al u).testBit w) := by
  unfold m_X6_areNext
  have h1 := nrf_lt R hu
  rw [r_a hz, Option.bind_some, i13, nI_add, r_nr hz ha hu, Option.bind_some, nI_bit (by omega) hw]
  cases hb : (nrf al u).testBit w
  · rw [if_neg (by decide)]
  · rw [if_pos (by decide)]
theorem y_colourOf (hz : 31 ≤ h.2.1) (ha : Al A al) {u : Nat} (hu : u < 9) : m_X6_colourOf 20 (nI u) (setR v A h) = some (nI (al (22 + u)) - 1) := by
  unfold m_X6_colourOf
  rw [r_a hz, Option.bind_some, i22, nI_add, r_al hz ha (by omega)]
  rfl
theorem y_banOf (hz : 31 ≤ h.2.1) (ha : Al A al) {u : Nat} (hu : u < 9) : m_X6_banOf 20 (nI u) (setR v A h) = some (nI (al (31 + u)) - 1) := by
  unfold m_X6_banOf
  rw [r_a hz, Option.bind_some, i31, nI_add, r_al hz ha (by omega)]
  rfl
/-- the colours met so far -/
def arp (al : Nat → Nat) (u n : Nat) : Nat := mks 3 (fun c => (List.range n).any (fun k => (nrf al u).testBit k && (al (22 + k) == c + 1)))
theorem arp_s {al : Nat → Nat} {u n : Nat} (c0 : Nat) (hc : al (22 + n) = c0) (hr : c0 ≤ 3) : arp al u (n + 1) = if (nrf al u).testBit n = true then (if c0 = 0 then arp al u n else arp al u n ||| 2 ^ (c0 - 1)) else arp al u n := by
  refine Nat.eq_of_testBit_eq fun i => ?_
  have e : ∀ m, (arp al u m).testBit i = (decide (i < 3) && (List.range m).any (fun k => (nrf al u).testBit k && (al (22 + k) == i + 1))) := fun m => tb_mks _ _ _
  rw [e, List.range_succ, List.any_append, List.any_cons, List.any_nil, Bool.or_false, hc]
  by_cases hb : (nrf al u).testBit n = true
  · rw [if_pos hb, hb, Bool.true_and]
    by_cases h0 : c0 = 0
    · rw [if_pos h0, e, h0]
      simp
    · rw [if_neg h0, Nat.testBit_or, e, tb_pow]
      by_cases hi : i < 3
      · rw [decide_eq_true hi, Bool.true_and, Bool.true_and]
        congr 1
        by_cases h2 : c0 = i + 1
        · rw [h2]
          simp
        · rw [beq_eq_false_iff_ne.mpr h2, decide_eq_false (by omega)]
      · rw [decide_eq_false hi, Bool.false_and, Bool.false_and, decide_eq_false (by omega)]
        rfl
  · rw [if_neg hb, e, Bool.eq_false_iff.mpr hb, Bool.false_and, Bool.or_false]
theorem arp_N {al : Nat → Nat} (R : Rg al) {u : Nat} (hu : u < 9) : arp al u (al 0) = arn al u := by
  refine bit_eq fun c => ?_
  rw [arn_tb R hu]
  unfold arp
  rw [tb_mks, Bool.and_eq_true, decide_eq_true_eq, List.any_eq_true]
  constructor
  · rintro ⟨-, k, hk, e⟩
    rw [Bool.and_eq_true] at e
    exact ⟨k, List.mem_range.mp hk, e.1, eq_of_beq e.2⟩
  · rintro ⟨k, hk, e1, e2⟩
    have h3 := (R.2.2.2.2.1 k (bit_lt (nrf_lt R hu) e1)).2.2.1
    exact ⟨by omega, k, List.mem_range.mpr hk, by rw [e1, e2]; simp⟩
theorem arp_lt {al : Nat → Nat} {u n : Nat} : arp al u n < 8 := mks_lt _ 3
theorem y_around (hz : 31 ≤ h.2.1) (ha : Al A al) (R : Rg al) {u : Nat} (hu : u < 9) : m_X6_around 20 (nI u) (setR v A h) = some (nI (arn al u)) := by
  unfold m_X6_around
  have hN : al 0 ≤ 9 := R.1
  rw [← arp_N R hu]
  have e0 : arp al u 0 = 0 := Nat.eq_of_testBit_eq fun i => by
    unfold arp
    rw [tb_mks, Nat.zero_testBit]
    simp
  have key := forN (fun f i s => m_X6_around_L4 20 (nI u) (setR v A h) (fun v5 => some v5) f (nI s) (nI i)) (al 0) (fun i => arp al u i) (some (nI (arp al u (al 0)))) (fun f i hi e => ?_) (fun f => ?_) LF 0 (Nat.zero_le _) (by unfold LF; omega)
  · have key' : m_X6_around_L4 20 (nI u) (setR v A h) (fun v5 => some v5) LF (nI (arp al u 0)) (nI 0) = _ := key
    rw [e0] at key'
    exact key'
  · show m_X6_around_L4 _ _ _ _ (f + 1) _ _ = _
    have h3 := (R.2.2.2.2.1 i (by omega)).2.2.1
    rw [m_X6_around_L4, r_a hz, Option.bind_some, i0, r_al hz ha (by omega), Option.bind_some, iNle hi (by omega), r_cv hz, y_areNext hz ha R hu (by omega), Option.bind_some]
    rw [← e, arp_s _ rfl h3]
    simp only [jK, nm]
    by_cases hb : (nrf al u).testBit i = true
    · rw [if_pos hb, if_pos hb, r_cv hz, y_isFree hz ha R (by omega), Option.bind_some]
      by_cases h0 : al (22 + i) = 0
      · rw [if_pos h0, h0, if_pos (by decide), nI_1]
      · rw [if_neg h0, beq_eq_false_iff_ne.mpr h0, if_neg (by decide), r_cv hz, y_colourOf hz ha (by omega), Option.bind_some, i1, pk_sub (by omega), ← i1, nI_sh (by omega), nI_or, nI_1]
    · rw [if_neg hb, if_neg hb, nI_1]
  · show m_X6_around_L4 _ _ _ _ (f + 1) _ _ = _
    rw [m_X6_around_L4, r_a hz, Option.bind_some, i0, r_al hz ha (by omega), Option.bind_some, iLe (Nat.le_refl _) (by omega)]
end RR
