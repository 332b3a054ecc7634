/-! the reference's knownOf, closed -/
def sOf (al : Nat → Nat) (p bb u : Nat) : Nat := if p.testBit u = true then cly al u p bb else 0
theorem sOf_tb {al : Nat → Nat} {p bb u c : Nat} : (sOf al p bb u).testBit c = (p.testBit u && (cly al u p bb).testBit c) := by
  unfold sOf
  by_cases h : p.testBit u = true
  · rw [if_pos h, h, Bool.true_and]
  · rw [if_neg h, Bool.eq_false_iff.mpr h, Nat.zero_testBit, Bool.false_and]
def gaU (al : Nat → Nat) (p bb k : Nat) : An := itN k (fun i a => itN (al 1) (fun c a => if (sOf al p bb i).testBit c then stp3 a (thk al p i c) else a) a) (0, 0, 10)
section RR
variable {v : Nat → Int32} {A : Nat → Nat → Int32} {h : Hp} {al : Nat → Nat} {rc : Nat → Int32 → Int32 → Hp → Option (Int32 × Hp)} {n : Nat}
theorem gaU_bq {p bb k : Nat} (C : Cfg al p bb) (hk : k ≤ al 0) : Bq (gaU al p bb k) := by
  have hN := C.1.1
  have h9 := pop_le (s := p)
  refine Bq_it (f := fun i c => (sOf al p bb i).testBit c) (X := fun i c => thk al p i c) (n := k) (m := al 1) (a := (0, 0, 10)) ⟨by decide, by decide, by decide⟩ fun i hi c hc hf => ?_
  rw [sOf_tb, Bool.and_eq_true] at hf
  have hX := thk_bd C hf.1 hc
  exact ⟨by have := hX.1; omega, by have := hX.2.1; omega, by have := hX.2.2; omega⟩
theorem y_out (hz : 31 ≤ h.2.1) (hrc : RC v h rc n) {p bb : Nat} {x1 : Int32} (C : Cfg al p bb) (hn : pop p ≤ n + 1) (K : Int32 → Int32 → Int32 → Hp → Option (Int32 × Hp)) :
    ∀ m u f (A : Nat → Nat → Int32), u + m = al 0 → m < f → Al A al → MK al (A 7) →
    ∃ M, MK al M ∧ m_X6_knownOf_L36 rc 20 (nI p) (nI bb - 1) x1 K f (nI (gaU al p bb u).1) (nI (gaU al p bb u).2.1) (shI (gaU al p bb u).2.2) (nI u) (setR v A h) =
      K (nI (gaU al p bb (al 0)).1) (nI (gaU al p bb (al 0)).2.1) (shI (gaU al p bb (al 0)).2.2) (setR v (wK A M) h) := by
  obtain ⟨R, F, hp, c1, c2, c3⟩ := id C
  have hC := R.2.1
  have hN := R.1
  intro m
  induction m with
  | zero =>
    intro u f A hu hf ha hm
    obtain ⟨f, rfl⟩ : ∃ m, f = m + 1 := ⟨f - 1, by omega⟩
    rw [Nat.add_zero] at hu
    subst hu
    refine ⟨A 7, hm, ?_⟩
    rw [m_X6_knownOf_L36, r_a hz, Option.bind_some, r_al0 hz ha, Option.bind_some, iLe (Nat.le_refl _) (by omega), wK_self]
  | succ m ih =>
    intro u f A hu hf ha hm
    obtain ⟨f, rfl⟩ : ∃ m, f = m + 1 := ⟨f - 1, by omega⟩
    have hq := gaU_bq C (show u ≤ al 0 by omega)
    have hs8 : sOf al p bb u < 8 := by
      unfold sOf
      split
      · exact cly_lt R (by omega)
      · decide
    obtain ⟨M, hM, e1⟩ := y_in (x1 := x1) hz hrc C (u := u) (s := sOf al p bb u) (by omega) hn hs8 (fun c hc => by rw [sOf_tb, Bool.and_eq_true] at hc; exact hc.1) (fun v30 v31 v32 h33 => nm (nI u + 1) fun x60 => m_X6_knownOf_L36 rc 20 (nI p) (nI bb - 1) x1 K f v30 v31 v32 x60 h33) (gaU al p bb u) hq (al 1) 0 LF A (by omega) (by unfold LF; omega) ha hm hq
    obtain ⟨M', hM', e2⟩ := ih (u + 1) f (wK A M) (by omega) (by omega) (Al_wK ha) (by rw [wK_7]; exact hM)
    refine ⟨M', hM', ?_⟩
    rw [wK_wK] at e2
    rw [← e2]
    have e3 : m_X6_knownOf_L74 rc 20 (nI p) (nI bb - 1) x1 (nI u) (nI (sOf al p bb u)) (fun v30 v31 v32 h33 => nm (nI u + 1) fun x60 => m_X6_knownOf_L36 rc 20 (nI p) (nI bb - 1) x1 K f v30 v31 v32 x60 h33) LF (nI (gaU al p bb u).1) (nI (gaU al p bb u).2.1) (shI (gaU al p bb u).2.2) (0 : Int32) (setR v A h) = m_X6_knownOf_L36 rc 20 (nI p) (nI bb - 1) x1 K f (nI (gaU al p bb (u + 1)).1) (nI (gaU al p bb (u + 1)).2.1) (shI (gaU al p bb (u + 1)).2.2) (nI (u + 1)) (setR v (wK A M) h) := by
      refine e1.trans ?_
      simp only [nm]
      rw [nI_1]
      rfl
    rw [← e3, m_X6_knownOf_L36, r_a hz, Option.bind_some, r_al0 hz ha, Option.bind_some, iNle (by omega) (by omega), nI_bit (by omega) (by omega)]
    simp only [jK]
    unfold sOf
    by_cases hpu : p.testBit u = true
    · rw [hpu, if_pos (by decide), if_pos rfl, r_cv hz, y_canLay hz ha R (by omega) hp (by omega), Option.bind_some]
    · rw [if_neg hpu, Bool.eq_false_iff.mpr hpu, if_neg (by decide)]
      rfl
theorem gaU_gA {p bb : Nat} (C : Cfg al p bb) : gA al p bb = fin3 (gaU al p bb (al 0)) := by
  rw [gA_eq C]
  congr 1
  unfold gat gaU
  refine itN_congr fun i a _ => itN_congr fun c a _ => ?_
  rw [sOf_tb]
  rfl
theorem gaU_fin {p bb : Nat} (C : Cfg al p bb) : (mex (gaU al p bb (al 0)).1 = (gA al p bb).1) ∧ ((gaU al p bb (al 0)).2.1 = (gA al p bb).2.1) ∧ (if shI (gaU al p bb (al 0)).2.2 = (-1 : Int32) then (0 : Int32) else shI (gaU al p bb (al 0)).2.2) = nI (gA al p bb).2.2 := by
  rw [gaU_gA C]
  have h9 := pop_le (s := p)
  have hX : ∀ i, i < al 0 → ∀ c, c < al 1 → (sOf al p bb i).testBit c = true → Bd3 (thk al p i c) 8 := fun i hi c hc hf => by
    rw [sOf_tb, Bool.and_eq_true] at hf
    have hX := thk_bd C hf.1 hc
    exact ⟨by have := hX.1; omega, by have := hX.2.1; omega, by have := hX.2.2; omega⟩
  have g1 : ∀ k, (gaU al p bb (al 0)).1.testBit k = true ↔ (0 : Nat).testBit k = true ∨ ∃ i, i < al 0 ∧ ∃ j, j < al 1 ∧ ((sOf al p bb i).testBit j = true ∧ (thk al p i j).1 = k) := fun k => gat_1 (L := fun i c => (sOf al p bb i).testBit c) (X := fun i c => thk al p i c) (a := (0, 0, 10))
  have g2 : ∀ k, (gaU al p bb (al 0)).2.1 ≤ k ↔ 0 ≤ k ∧ ∀ i, i < al 0 → ∀ j, j < al 1 → ((sOf al p bb i).testBit j = true → (thk al p i j).2.1 + 1 ≤ k) := fun k => gat_2 (L := fun i c => (sOf al p bb i).testBit c) (X := fun i c => thk al p i c) (a := (0, 0, 10))
  have g3 : ∀ k, k ≤ (gaU al p bb (al 0)).2.2 ↔ k ≤ 10 ∧ ∀ i, i < al 0 → ∀ j, j < al 1 → ((sOf al p bb i).testBit j = true → k ≤ (thk al p i j).2.2 + 1) := fun k => gat_3 (L := fun i c => (sOf al p bb i).testBit c) (X := fun i c => thk al p i c) (a := (0, 0, 10))
  have hq := gaU_bq C (Nat.le_refl (al 0))
  unfold fin3
  by_cases h0 : (gaU al p bb (al 0)).1 = 0
  · rw [if_pos h0, h0]
    have no : ∀ i, i < al 0 → ∀ j, j < al 1 → ¬ (sOf al p bb i).testBit j = true := fun i hi j hj hf => by
      have := (g1 (thk al p i j).1).mpr (Or.inr ⟨i, hi, j, hj, hf, rfl⟩)
      rw [h0, Nat.zero_testBit] at this
      cases this
    have e2 : (gaU al p bb (al 0)).2.1 = 0 := Nat.le_zero.mp ((g2 0).mpr ⟨Nat.le_refl _, fun i hi j hj hf => absurd hf (no i hi j hj)⟩)
    have e3 : (gaU al p bb (al 0)).2.2 = 10 := Nat.le_antisymm hq.2.2 ((g3 10).mpr ⟨Nat.le_refl _, fun i hi j hj hf => absurd hf (no i hi j hj)⟩)
    rw [e2, e3]
    refine ⟨by decide +kernel, rfl, by decide +kernel⟩
  · rw [if_neg h0]
    refine ⟨rfl, rfl, ?_⟩
    obtain ⟨k, hk⟩ := ne_0.mp h0
    rcases (g1 k).mp hk with e | ⟨i, hi, j, hj, hf, e⟩
    · rw [Nat.zero_testBit] at e
      cases e
    · have h1 := ((g3 _).mp (Nat.le_refl (gaU al p bb (al 0)).2.2)).2 i hi j hj hf
      have h2 := (hX i hi j hj hf).2.2
      have d : ∀ s, s < 10 → (if shI s = (-1 : Int32) then (0 : Int32) else shI s) = nI s := by decide +kernel
      exact d _ (by omega)
theorem y_knownB (hz : 31 ≤ h.2.1) (hrc : RC v h rc n) : RC v h (m_X6_knownOf_B rc) (n + 1) := by
  intro A al p bb ha hm C hn _
  obtain ⟨R, F, hp, c1, c2, c3⟩ := id C
  have hcd := cod_lt (p := p) F R c3
  rcases hm al p bb (fun k _ _ _ => rfl) C with h1 | h1
  · obtain ⟨M, hM, e⟩ := y_out (x1 := nI (cod al p bb)) hz hrc C hn (fun v12 v13 v14 h15 => (gR h15 6 20 18).bind fun a64 => (m_X6_lowest (v12 ^^^ (-1 : Int32))).bind fun x65 => jK (κ := Int32 → Option (Int32 × Hp)) (fun v66 => ((sI h15 0 a64 (nI (cod al p bb)) ((x65 ||| (v13 <<< ((5 : Int32) &&& 31))) ||| (v66 <<< ((10 : Int32) &&& 31)))).bind fun h68 => (gR h68 6 20 18).bind fun a69 => (aI h68 0 a69 (nI (cod al p bb))).bind fun x70 => some (x70, h68))) fun k67 => if v14 = (-1 : Int32) then k67 (0 : Int32) else k67 v14) (al 0) 0 LF A (Nat.zero_add _) (by have := R.1; unfold LF; omega) ha hm
    refine ⟨upd M (cod al p bb) (nI (pr (gA al p bb))), MK_set hM (fun k _ _ _ => rfl) C, ?_⟩
    unfold m_X6_knownOf_B
    rw [r_cv hz, y_placeOf hz ha R F hp c3, Option.bind_some, r_28 hz, Option.bind_some, r_k hz hcd, Option.bind_some, h1, if_pos rfl]
    refine e.trans ?_
    have hq := gaU_bq C (Nat.le_refl (al 0))
    have hbd := gA_bd C
    have h9 := pop_le (s := p)
    have hgA := gaU_gA C
    have hpd := pr_dec (gA al p bb).1 (by have := hbd.1; omega) (gA al p bb).2.1 (by have := hbd.2.1; omega) (gA al p bb).2.2 (by have := hbd.2.2; omega)
    have hp4 : (nI (gA al p bb).1 ||| (nI (gA al p bb).2.1 <<< ((5 : Int32) &&& 31))) ||| (nI (gA al p bb).2.2 <<< ((10 : Int32) &&& 31)) = nI (pr (gA al p bb)) := hpd.2.2.2.1
    have hx : (mex (gaU al p bb (al 0)).1 = (gA al p bb).1) ∧ ((gaU al p bb (al 0)).2.1 = (gA al p bb).2.1) ∧ (if shI (gaU al p bb (al 0)).2.2 = (-1 : Int32) then (0 : Int32) else shI (gaU al p bb (al 0)).2.2) = nI (gA al p bb).2.2 := gaU_fin C
    rw [r_28 hz, Option.bind_some, y_mex hq.1, Option.bind_some, hx.1, hx.2.1]
    simp only [jK]
    have fin : ∀ t : Int32, t = nI (gA al p bb).2.2 → ((sI (setR v (wK A M) h) 0 28 (nI (cod al p bb)) ((nI (gA al p bb).1 ||| (nI (gA al p bb).2.1 <<< ((5 : Int32) &&& 31))) ||| (t <<< ((10 : Int32) &&& 31)))).bind fun h68 => (gR h68 6 20 18).bind fun a69 => (aI h68 0 a69 (nI (cod al p bb))).bind fun x70 => some (x70, h68)) = some (nI (pr (gA al p bb)), setR v (wK A (upd M (cod al p bb) (nI (pr (gA al p bb))))) h) := by
      intro t ht
      rw [ht, hp4, r_sk hz hcd, wK_7, wK_wK, Option.bind_some, r_28 hz, Option.bind_some, r_k hz hcd, wK_7, Option.bind_some]
      unfold upd
      rw [if_pos rfl]
    have hx3 := hx.2.2
    by_cases q : shI (gaU al p bb (al 0)).2.2 = (-1 : Int32)
    · rw [if_pos q] at hx3 ⊢
      exact fin 0 hx3
    · rw [if_neg q] at hx3 ⊢
      exact fin _ hx3
  · refine ⟨A 7, hm, ?_⟩
    have hbd := gA_bd C
    have h9 := pop_le (s := p)
    have hpd := pr_dec (gA al p bb).1 (by have := hbd.1; omega) (gA al p bb).2.1 (by have := hbd.2.1; omega) (gA al p bb).2.2 (by have := hbd.2.2; omega)
    have hne : ¬ nI (pr (gA al p bb)) = (-1 : Int32) := hpd.2.2.2.2
    unfold m_X6_knownOf_B
    rw [r_cv hz, y_placeOf hz ha R F hp c3, Option.bind_some, r_28 hz, Option.bind_some, r_k hz hcd, Option.bind_some, h1, if_neg hne, wK_self]
    simp only [Option.bind_some, r_28 hz, r_k hz hcd, h1]
theorem y_known (hz : 31 ≤ h.2.1) : ∀ d, RC v h (m_X6_knownOf d) d
  | 0 => fun A al p bb _ _ C hn h0 => absurd (pop_0 C.2.2.1 (Nat.le_zero.mp hn)) h0
  | d + 1 => y_knownB hz (y_known hz d)
/-- any part at all -/
theorem y_knownRD (hz : 31 ≤ h.2.1) {p bb : Nat} (ha : Al A al) (hm : MK al (A 7)) (C : Cfg al p bb) (h0 : p ≠ 0) : ∃ M, MK al M ∧ m_X6_knownOf RD 20 (nI p) (nI bb - 1) (setR v A h) = some (nI (pr (gA al p bb)), setR v (wK A M) h) :=
  y_known hz RD A al p bb ha hm C (Nat.le_trans pop_le (by decide)) h0
end RR
