/-! the reference's recursion over parts -/
/-- rc answers right on every part of at most n members -/
def RC (v : Nat → Int32) (h : Hp) (rc : Nat → Int32 → Int32 → Hp → Option (Int32 × Hp)) (n : Nat) : Prop := ∀ A al p bb, Al A al → MK al (A 7) → Cfg al p bb → pop p ≤ n → p ≠ 0 → ∃ M, MK al M ∧ rc 20 (nI p) (nI bb - 1) (setR v A h) = some (nI (pr (gA al p bb)), setR v (wK A M) h)
theorem gA_bd {al : Nat → Nat} {p bb : Nat} (C : Cfg al p bb) : Bd3 (gA al p bb) (pop p) := gr_bd (sy_Rg C.1) 10 _ _ _ (Op_opf C.2.2.1)
section RR
variable {v : Nat → Int32} {A : Nat → Nat → Int32} {h : Hp} {al : Nat → Nat} {rc : Nat → Int32 → Int32 → Hp → Option (Int32 × Hp)} {n : Nat}
theorem r_28 (hz : 31 ≤ h.2.1) : gR (setR v A h) 6 20 18 = some 28 := at_gR (rAt hz) rfl
theorem r_k (hz : 31 ≤ h.2.1) {k : Nat} (hk : k < 80000) : aI (setR v A h) 0 28 (nI k) = some (A 7 k) := r_aI (i := 7) hz (by decide) hk
theorem r_sk (hz : 31 ≤ h.2.1) {k : Nat} {x : Int32} (hk : k < 80000) : sI (setR v A h) 0 28 (nI k) x = some (setR v (wK A (upd (A 7) k x)) h) := by
  rw [← updA_7]
  exact r_sI (i := 7) hz (by decide) hk rfl
theorem y_together (hz : 31 ≤ h.2.1) (hrc : RC v h rc n) {set bb : Nat} (ha : Al A al) (hm : MK al (A 7)) (R : Rg al) (hset : set < 512) (hN : ∀ i, set.testBit i = true → i < al 0) (hc : ∀ j, rst (nrf al) set j ≠ 0 → Cfg al (prt (nrf al) set j) bb) (hn : pop set ≤ n) :
    ∃ M, MK al M ∧ m_X6_together rc 20 (nI set) (nI bb - 1) (setR v A h) = some (nI (pr (pcs (nrf al) set (fun q => gA al q bb))), setR v (wK A M) h) := by
  have hy := sy_Rg R
  have h9 := pop_le (s := set)
  have hG : ∀ j, rst (nrf al) set j ≠ 0 → Bd3 (gA al (prt (nrf al) set j) bb) (pop (prt (nrf al) set j)) := fun j hj => gA_bd (hc j hj)
  have key : ∀ (K : Int32 → Int32 → Int32 → Hp → Option (Int32 × Hp)) k j f (a : An) (A : Nat → Nat → Int32), j + k = 9 → k < f → Bd3 a (pop set - pop (rst (nrf al) set j)) → pop (rst (nrf al) set j) ≤ pop set → Al A al → MK al (A 7) →
      ∃ M, MK al M ∧ m_X6_together_L11 rc 20 (nI set) (nI bb - 1) K f (nI a.1) (nI a.2.1) (nI a.2.2) (nI (rst (nrf al) set j)) (setR v A h) = K (nI (pcsF (nrf al) set (fun q => gA al q bb) k j a).1) (nI (pcsF (nrf al) set (fun q => gA al q bb) k j a).2.1) (nI (pcsF (nrf al) set (fun q => gA al q bb) k j a).2.2) (setR v (wK A M) h) := by
    intro K k
    induction k with
    | zero =>
      intro j f a A hj hf hb hle ha hm
      obtain ⟨f, rfl⟩ : ∃ m, f = m + 1 := ⟨f - 1, by omega⟩
      rw [Nat.add_zero] at hj
      subst hj
      refine ⟨A 7, hm, ?_⟩
      rw [m_X6_together_L11, rst_9 hy hset, if_pos (by decide +kernel), wK_self, pcsF]
    | succ k ih =>
      intro j f a A hj hf hb hle ha hm
      obtain ⟨f, rfl⟩ : ∃ m, f = m + 1 := ⟨f - 1, by omega⟩
      have hr := rst_lt (nr := nrf al) hset j
      by_cases h0 : rst (nrf al) set j = 0
      · refine ⟨A 7, hm, ?_⟩
        rw [m_X6_together_L11, h0, if_pos (by decide +kernel), wK_self, pcsF, if_pos h0]
      · have e := pop_split (prt_sub (nr := nrf al) (j := j) hy hset)
        have e' : pop (rst (nrf al) set (j + 1)) + pop (prt (nrf al) set j) = pop (rst (nrf al) set j) := e
        obtain ⟨M, hM, er⟩ := hrc A al (prt (nrf al) set j) bb ha hm (hc j h0) (by omega) (prt_ne hy hset h0)
        have hg := hG j h0
        have hp := pr_dec (gA al (prt (nrf al) set j) bb).1 (by have := hg.1; omega) (gA al (prt (nrf al) set j) bb).2.1 (by have := hg.2.1; omega) (gA al (prt (nrf al) set j) bb).2.2 (by have := hg.2.2; omega)
        have hcb := cmb_bd hb hg (by omega)
        obtain ⟨M', hM', ek⟩ := ih (j + 1) f (cmb a (gA al (prt (nrf al) set j) bb)) (wK A M) (by omega) (by omega) (by
          rw [show pop set - pop (rst (nrf al) set (j + 1)) = pop set - pop (rst (nrf al) set j) + pop (prt (nrf al) set j) by omega]
          exact hcb) (by omega) (Al_wK ha) (by rw [wK_7]; exact hM)
        refine ⟨M', hM', ?_⟩
        rw [wK_wK] at ek
        rw [m_X6_together_L11, if_neg (nI_nle (by omega) (by omega)), y_low hr h0, Option.bind_some, r_cv hz, y_prt hz ha R hy hset hN h0, Option.bind_some, r_cv hz, er, pcsF, if_neg h0, ← ek]
        simp only [b2, Option.bind_some, nm]
        have p1 : nI (pr (gA al (prt (nrf al) set j) bb)) &&& (31 : Int32) = nI (gA al (prt (nrf al) set j) bb).1 := hp.1
        have p2 : (nI (pr (gA al (prt (nrf al) set j) bb)) >>> ((5 : Int32) &&& 31)) &&& (31 : Int32) = nI (gA al (prt (nrf al) set j) bb).2.1 := hp.2.1
        have p3 : nI (pr (gA al (prt (nrf al) set j) bb)) >>> ((10 : Int32) &&& 31) = nI (gA al (prt (nrf al) set j) bb).2.2 := hp.2.2.1
        rw [p1, p2, p3, nI_xor, nI_add, nI_add, nI_dif (by omega)]
        rfl
  unfold m_X6_together
  obtain ⟨M, hM, e⟩ := key (fun v8 v9 v10 h11 => some (((v8 ||| (v9 <<< ((5 : Int32) &&& 31))) ||| (v10 <<< ((10 : Int32) &&& 31))), h11)) 9 0 LF (0, 0, 0) A rfl (by decide) ⟨Nat.zero_le _, Nat.zero_le _, Nat.zero_le _⟩ (Nat.le_refl _) ha hm
  refine ⟨M, hM, ?_⟩
  have hb := pcs_bd (G := fun q => gA al q bb) hy hset hG
  have hp := pr_dec (pcs (nrf al) set (fun q => gA al q bb)).1 (by have := hb.1; omega) (pcs (nrf al) set (fun q => gA al q bb)).2.1 (by have := hb.2.1; omega) (pcs (nrf al) set (fun q => gA al q bb)).2.2 (by have := hb.2.2; omega)
  have hp4 : (nI (pcs (nrf al) set (fun q => gA al q bb)).1 ||| (nI (pcs (nrf al) set (fun q => gA al q bb)).2.1 <<< ((5 : Int32) &&& 31))) ||| (nI (pcs (nrf al) set (fun q => gA al q bb)).2.2 <<< ((10 : Int32) &&& 31)) = nI (pr (pcs (nrf al) set (fun q => gA al q bb))) := hp.2.2.2.1
  rw [← hp4]
  exact e
end RR
