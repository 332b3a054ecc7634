/-! the reference's knownOf -/
theorem Bq_it {f : Nat → Nat → Bool} {X : Nat → Nat → An} {n m : Nat} {a : An} (ha : Bq a) (hX : ∀ i, i < n → ∀ j, j < m → f i j = true → Bd3 (X i j) 8) : Bq (gat n m f X a) := by
  have inner : ∀ i, i < n → ∀ k, k ≤ m → ∀ a, Bq a → Bq (itN k (fun j a => if f i j = true then stp3 a (X i j) else a) a) := by
    intro i hi k
    induction k with
    | zero => intro _ a ha; exact ha
    | succ k ih =>
      intro hk a ha
      rw [itN]
      by_cases h : f i k = true
      · rw [if_pos h]
        exact Bq_stp (ih (by omega) a ha) (hX i hi k (by omega) h)
      · rw [if_neg h]
        exact ih (by omega) a ha
  have outer : ∀ k, k ≤ n → Bq (itN k (fun i a => itN m (fun j a => if f i j = true then stp3 a (X i j) else a) a) a) := by
    intro k
    induction k with
    | zero => intro _; exact ha
    | succ k ih =>
      intro hk
      rw [itN]
      exact inner k (by omega) m (Nat.le_refl _) _ (ih (by omega))
  exact outer n (Nat.le_refl _)
section RR
variable {v : Nat → Int32} {A : Nat → Nat → Int32} {h : Hp} {al : Nat → Nat} {rc : Nat → Int32 → Int32 → Hp → Option (Int32 × Hp)} {n : Nat}
/-- what laying c on u in thought is answered with -/
def thk (al : Nat → Nat) (p u c : Nat) : An := pcs (nrf al) (dif p (2 ^ u)) (fun q => gA (onv al u c) q (c + 1))
theorem thk_bd {p bb u c : Nat} (C : Cfg al p bb) (hu : p.testBit u = true) (hc : c < al 1) : Bd3 (thk al p u c) (pop p - 1) := by
  have e := pop_v hu C.2.2.1
  rw [show pop p - 1 = pop (dif p (2 ^ u)) by omega]
  exact pcs_bd (sy_Rg C.1) (dif_lt (n := 9) C.2.2.1) fun j hj => gA_bd (Cfg_onv C hu hc hj)
theorem y_in (hz : 31 ≤ h.2.1) (hrc : RC v h rc n) {p bb u s : Nat} {x1 : Int32} (C : Cfg al p bb) (hu9 : u < al 0) (hn : pop p ≤ n + 1) (hs8 : s < 8) (hs : ∀ c, s.testBit c = true → p.testBit u = true) (K : Int32 → Int32 → Int32 → Hp → Option (Int32 × Hp)) (a0 : An) (hq : Bq a0) :
    ∀ m c f (A : Nat → Nat → Int32), c + m = al 1 → m < f → Al A al → MK al (A 7) → Bq (itN c (fun c a => if s.testBit c then stp3 a (thk al p u c) else a) a0) →
    ∃ M, MK al M ∧ m_X6_knownOf_L74 rc 20 (nI p) (nI bb - 1) x1 (nI u) (nI s) K f (nI (itN c (fun c a => if s.testBit c then stp3 a (thk al p u c) else a) a0).1) (nI (itN c (fun c a => if s.testBit c then stp3 a (thk al p u c) else a) a0).2.1) (shI (itN c (fun c a => if s.testBit c then stp3 a (thk al p u c) else a) a0).2.2) (nI c) (setR v A h) =
      K (nI (itN (al 1) (fun c a => if s.testBit c then stp3 a (thk al p u c) else a) a0).1) (nI (itN (al 1) (fun c a => if s.testBit c then stp3 a (thk al p u c) else a) a0).2.1) (shI (itN (al 1) (fun c a => if s.testBit c then stp3 a (thk al p u c) else a) a0).2.2) (setR v (wK A M) h) := by
  obtain ⟨R, F, hp, c1, c2, c3⟩ := id C
  have hC := R.2.1
  have hN := R.1
  intro m
  induction m with
  | zero =>
    intro c f A hc hf ha hm hb
    obtain ⟨f, rfl⟩ : ∃ m, f = m + 1 := ⟨f - 1, by omega⟩
    rw [Nat.add_zero] at hc
    subst hc
    refine ⟨A 7, hm, ?_⟩
    rw [m_X6_knownOf_L74, r_a hz, Option.bind_some, r_al1 hz ha, Option.bind_some, iLe (Nat.le_refl _) (by omega), wK_self]
  | succ m ih =>
    intro c f A hc hf ha hm hb
    obtain ⟨f, rfl⟩ : ∃ m, f = m + 1 := ⟨f - 1, by omega⟩
    by_cases hsc : s.testBit c = true
    · have hu := hs c hsc
      have hX := thk_bd C hu (show c < al 1 by omega)
      have hpv := pop_v hu hp
      have h9 := pop_le (s := p)
      have hX8 : Bd3 (thk al p u c) 8 := ⟨by have := hX.1; omega, by have := hX.2.1; omega, by have := hX.2.2; omega⟩
      have hA0 : A 0 (22 + u) = 0 := by rw [ha _ (by omega), (c1 u hu).2]; rfl
      have hd : dif p (2 ^ u) < 512 := dif_lt (n := 9) hp
      obtain ⟨M, hM, et⟩ := y_together (al := onv al u c) (A := updA A 0 (22 + u) (nI (c + 1))) hz hrc (set := dif p (2 ^ u)) (bb := c + 1) (Al_onv ha) (MK_sg (by unfold updA; rw [if_neg (by decide)]; exact hm) Sg_onv) (Rg_onv R hu9 (by omega)) hd (fun i hi => by
        rw [tb_dif, Bool.and_eq_true] at hi
        rw [show onv al u c 0 = al 0 from if_neg (by omega)]
        exact (c1 i hi.1).1) (fun j hj => by
        rw [Sg_nr Sg_onv] at hj ⊢
        exact Cfg_onv C hu (by omega) hj) (by omega)
      have hb' := Bq_stp hb hX8
      have ihh := ih (c + 1) f (wK A M) (by omega) (by omega) (Al_wK ha) (by rw [wK_7]; exact MK_sg hM (Sg_symm Sg_onv)) (by rw [itN, if_pos hsc]; exact hb')
      obtain ⟨M', hM', ek⟩ := ihh
      refine ⟨M', hM', ?_⟩
      rw [wK_wK, itN, if_pos hsc] at ek
      generalize hS : itN c (fun c a => if s.testBit c = true then stp3 a (thk al p u c) else a) a0 = S at ek hb hb' ⊢
      have e1 : m_X6_together rc 20 (nI p &&& (((1 : Int32) <<< (nI u &&& 31)) ^^^ (-1 : Int32))) (nI c) (setR v (updA A 0 (22 + u) (nI c + 1)) h) = some (nI (pr (thk al p u c)), setR v (wK (updA A 0 (22 + u) (nI (c + 1))) M) h) := by
        rw [nI_sh (by omega), nI_dif (by omega), nI_1, ← nI_pred c, et]
        unfold thk
        rw [Sg_nr Sg_onv]
      have hpd := pr_dec (thk al p u c).1 (by have := hX8.1; omega) (thk al p u c).2.1 (by have := hX8.2.1; omega) (thk al p u c).2.2 (by have := hX8.2.2; omega)
      have p1 : nI (pr (thk al p u c)) &&& (31 : Int32) = nI (thk al p u c).1 := hpd.1
      have p2 : (nI (pr (thk al p u c)) >>> ((5 : Int32) &&& 31)) &&& (31 : Int32) = nI (thk al p u c).2.1 := hpd.2.1
      have p3 : nI (pr (thk al p u c)) >>> ((10 : Int32) &&& 31) = nI (thk al p u c).2.2 := hpd.2.2.1
      have e2 : ∀ t, (1 : Int32) + nI t = nI (t + 1) := fun t => by rw [i1, nI_add, Nat.add_comm]
      rw [m_X6_knownOf_L74, r_a hz, Option.bind_some, r_al1 hz ha, Option.bind_some, iNle (by omega) (by omega), nI_bit (by omega) (by omega), hsc]
      simp only [jK]
      rw [if_neg (by decide)]
      simp only [nm, Option.bind_some, i22, nI_add, r_s0 hz (show 22 + u < 4136 by omega), r_cv hz, e1, b2, r_a hz]
      rw [show (0 : Int32) = nI 0 from rfl] at hA0
      have e3 : updA (wK (updA A 0 (22 + u) (nI (c + 1))) M) 0 (22 + u) (0 : Int32) = wK A M := back_onv hA0
      rw [e3, p1, p2, p3, e2, e2, nI_sh (show (thk al p u c).1 < 31 by have := hX8.1; omega), nI_or, nI_1]
      have l1 := lo_step (l := S.2.1) (t := (thk al p u c).2.1 + 1) hb.2.1 (by have := hX8.2.1; omega)
      have l2 := shI_step (s := S.2.2) (t := (thk al p u c).2.2 + 1) hb.2.2 (by have := hX8.2.2; omega)
      have ek' : m_X6_knownOf_L74 rc 20 (nI p) (nI bb - 1) x1 (nI u) (nI s) K f (nI (S.1 ||| 2 ^ (thk al p u c).1)) (nI (max S.2.1 ((thk al p u c).2.1 + 1))) (shI (min S.2.2 ((thk al p u c).2.2 + 1))) (nI (c + 1)) (setR v (wK A M) h) = _ := ek
      rw [← l1, ← l2] at ek'
      rw [← ek']
      by_cases q1 : nI ((thk al p u c).2.1 + 1) ≤ nI S.2.1
      · rw [if_pos q1, if_pos q1]
        by_cases q2 : shI S.2.2 = (-1 : Int32)
        · rw [if_pos q2, if_pos q2]
        · rw [if_neg q2, if_neg q2]
          by_cases q3 : shI S.2.2 ≤ nI ((thk al p u c).2.2 + 1)
          · rw [if_pos q3, if_pos q3]
          · rw [if_neg q3, if_neg q3]
      · rw [if_neg q1, if_neg q1]
        by_cases q2 : shI S.2.2 = (-1 : Int32)
        · rw [if_pos q2, if_pos q2]
        · rw [if_neg q2, if_neg q2]
          by_cases q3 : shI S.2.2 ≤ nI ((thk al p u c).2.2 + 1)
          · rw [if_pos q3, if_pos q3]
          · rw [if_neg q3, if_neg q3]
    · obtain ⟨M', hM', ek⟩ := ih (c + 1) f A (by omega) (by omega) ha hm (by rw [itN, if_neg hsc]; exact hb)
      refine ⟨M', hM', ?_⟩
      rw [itN, if_neg hsc] at ek
      rw [m_X6_knownOf_L74, r_a hz, Option.bind_some, r_al1 hz ha, Option.bind_some, iNle (by omega) (by omega), nI_bit (by omega) (by omega), Bool.eq_false_iff.mpr hsc]
      simp only [jK]
      rw [if_pos (by decide)]
      simp only [nm]
      rw [nI_1]
      exact ek
end RR
