/-! the reference's whole board -/
theorem Cfg_fre {al : Nat → Nat} (R : Rg al) (F : Fw al) {j : Nat} (hj : rst (nrf al) (fre al) j ≠ 0) : Cfg al (prt (nrf al) (fre al) j) (al (31 + lo (prt (nrf al) (fre al) j))) := by
  have hf := fre_lt R
  have cl := rch_cl (nr := nrf al) (set := fre al) (s := 2 ^ lo (rst (nrf al) (fre al) j)) hf
  have hne := prt_ne (sy_Rg R) hf hj
  have hl := lo_ok (rch_lt hf : prt (nrf al) (fre al) j < 512) hne
  refine ⟨R, F, rch_lt hf, fun i hi => ?_, fun u w hu hn hw e => ?_, (F.2.2 _ hl.1).2⟩
  · have := cl.2.1 i hi
    rw [fre_tb, Bool.and_eq_true, decide_eq_true_eq, beq_iff_eq] at this
    exact this
  · have hu9 := bit_lt (rch_lt hf) hu
    rw [nrf_e hu9] at hn
    have h1 := R.2.2.2.2.2.1 u w hu9 hn
    rw [← nrf_e (al := al) hu9] at hn
    have hw2 : (fre al).testBit w = true := by
      rw [fre_tb, e, decide_eq_true h1.1]
      rfl
    have e2 : (prt (nrf al) (fre al) j).testBit w = true := cl.2.2.1 u w hu hn hw2
    rw [e2] at hw
    cases hw
section RR
variable {v : Nat → Int32} {A : Nat → Nat → Int32} {h : Hp} {al : Nat → Nat}
/-- all parts of a board together -/
def brd (al : Nat → Nat) : An := pcs (nrf al) (fre al) (fun q => gA al q (al (31 + lo q)))
theorem y_board (hz : 31 ≤ h.2.1) (ha : Al A al) (hm : MK al (A 7)) (R : Rg al) (F : Fw al) : ∃ M, MK al M ∧ m_X6_board 20 (setR v A h) = some (nI (pr (brd al)), setR v (wK A M) h) := by
  unfold brd
  have hy := sy_Rg R
  have hset := fre_lt R
  have hN : ∀ i, (fre al).testBit i = true → i < al 0 := fun i hi => fre_N hi
  have hc := fun j hj => Cfg_fre R F (j := j) hj
  have h9 := pop_le (s := fre al)
  have hG : ∀ j, rst (nrf al) (fre al) j ≠ 0 → Bd3 (gA al (prt (nrf al) (fre al) j) (al (31 + lo (prt (nrf al) (fre al) j)))) (pop (prt (nrf al) (fre al) j)) := fun j hj => gA_bd (hc j hj)
  have key : ∀ (K : Int32 → Int32 → Int32 → Hp → Option (Int32 × Hp)) k j f (a : An) (A : Nat → Nat → Int32), j + k = 9 → k < f → Bd3 a (pop (fre al) - pop (rst (nrf al) (fre al) j)) → pop (rst (nrf al) (fre al) j) ≤ pop (fre al) → Al A al → MK al (A 7) →
      ∃ M, MK al M ∧ m_X6_board_L16 20 (nI (fre al)) K f (nI a.1) (nI a.2.1) (nI a.2.2) (nI (rst (nrf al) (fre al) j)) (setR v A h) = K (nI (pcsF (nrf al) (fre al) (fun q => gA al q (al (31 + lo q))) k j a).1) (nI (pcsF (nrf al) (fre al) (fun q => gA al q (al (31 + lo q))) k j a).2.1) (nI (pcsF (nrf al) (fre al) (fun q => gA al q (al (31 + lo q))) k j a).2.2) (setR v (wK A M) h) := by
    intro K k
    induction k with
    | zero =>
      intro j f a A hj hf hb hle ha hm
      obtain ⟨f, rfl⟩ : ∃ m, f = m + 1 := ⟨f - 1, by omega⟩
      rw [Nat.add_zero] at hj
      subst hj
      refine ⟨A 7, hm, ?_⟩
      rw [m_X6_board_L16, rst_9 hy hset, if_pos (by decide +kernel), wK_self, pcsF]
    | succ k ih =>
      intro j f a A hj hf hb hle ha hm
      obtain ⟨f, rfl⟩ : ∃ m, f = m + 1 := ⟨f - 1, by omega⟩
      have hr := rst_lt (nr := nrf al) hset j
      by_cases h0 : rst (nrf al) (fre al) j = 0
      · refine ⟨A 7, hm, ?_⟩
        rw [m_X6_board_L16, h0, if_pos (by decide +kernel), wK_self, pcsF, if_pos h0]
      · have e := pop_split (prt_sub (nr := nrf al) (j := j) hy hset)
        have e' : pop (rst (nrf al) (fre al) (j + 1)) + pop (prt (nrf al) (fre al) j) = pop (rst (nrf al) (fre al) j) := e
        obtain ⟨M, hM, er⟩ := y_knownRD hz ha hm (hc j h0) (prt_ne hy hset h0)
        have hg := hG j h0
        have hp := pr_dec (gA al (prt (nrf al) (fre al) j) (al (31 + lo (prt (nrf al) (fre al) j)))).1 (by have := hg.1; omega) (gA al (prt (nrf al) (fre al) j) (al (31 + lo (prt (nrf al) (fre al) j)))).2.1 (by have := hg.2.1; omega) (gA al (prt (nrf al) (fre al) j) (al (31 + lo (prt (nrf al) (fre al) j)))).2.2 (by have := hg.2.2; omega)
        have hcb := cmb_bd hb hg (by omega)
        obtain ⟨M', hM', ek⟩ := ih (j + 1) f (cmb a (gA al (prt (nrf al) (fre al) j) (al (31 + lo (prt (nrf al) (fre al) j))))) (wK A M) (by omega) (by omega) (by
          rw [show pop (fre al) - pop (rst (nrf al) (fre al) (j + 1)) = pop (fre al) - pop (rst (nrf al) (fre al) j) + pop (prt (nrf al) (fre al) j) by omega]
          exact hcb) (by omega) (Al_wK ha) (by rw [wK_7]; exact hM)
        refine ⟨M', hM', ?_⟩
        rw [wK_wK] at ek
        rw [m_X6_board_L16, if_neg (nI_nle (by omega) (by omega)), y_low hr h0, Option.bind_some, r_cv hz, y_prt hz ha R hy hset hN h0, Option.bind_some, y_low (s := prt (nrf al) (fre al) j) (rch_lt hset) (prt_ne hy hset h0), Option.bind_some, r_cv hz, y_banOf hz ha (lo_ok (s := prt (nrf al) (fre al) j) (rch_lt hset) (prt_ne hy hset h0)).1, Option.bind_some, r_cv hz, er, pcsF, if_neg h0, ← ek]
        simp only [b2, Option.bind_some, nm]
        have p1 : nI (pr (gA al (prt (nrf al) (fre al) j) (al (31 + lo (prt (nrf al) (fre al) j))))) &&& (31 : Int32) = nI (gA al (prt (nrf al) (fre al) j) (al (31 + lo (prt (nrf al) (fre al) j)))).1 := hp.1
        have p2 : (nI (pr (gA al (prt (nrf al) (fre al) j) (al (31 + lo (prt (nrf al) (fre al) j))))) >>> ((5 : Int32) &&& 31)) &&& (31 : Int32) = nI (gA al (prt (nrf al) (fre al) j) (al (31 + lo (prt (nrf al) (fre al) j)))).2.1 := hp.2.1
        have p3 : nI (pr (gA al (prt (nrf al) (fre al) j) (al (31 + lo (prt (nrf al) (fre al) j))))) >>> ((10 : Int32) &&& 31) = nI (gA al (prt (nrf al) (fre al) j) (al (31 + lo (prt (nrf al) (fre al) j)))).2.2 := hp.2.2.1
        rw [p1, p2, p3, nI_xor, nI_add, nI_add, nI_dif (by omega)]
        rfl
  unfold m_X6_board
  rw [r_cv hz, y_freeSet hz ha R, Option.bind_some]
  obtain ⟨M, hM, e⟩ := key (fun v8 v9 v10 h11 => some (((v8 ||| (v9 <<< ((5 : Int32) &&& 31))) ||| (v10 <<< ((10 : Int32) &&& 31))), h11)) 9 0 LF (0, 0, 0) A rfl (by decide) ⟨Nat.zero_le _, Nat.zero_le _, Nat.zero_le _⟩ (Nat.le_refl _) ha hm
  refine ⟨M, hM, ?_⟩
  have hb := pcs_bd (G := fun q => gA al q (al (31 + lo q))) hy hset hG
  have hp := pr_dec (pcs (nrf al) (fre al) (fun q => gA al q (al (31 + lo q)))).1 (by have := hb.1; omega) (pcs (nrf al) (fre al) (fun q => gA al q (al (31 + lo q)))).2.1 (by have := hb.2.1; omega) (pcs (nrf al) (fre al) (fun q => gA al q (al (31 + lo q)))).2.2 (by have := hb.2.2; omega)
  have hp4 : (nI (pcs (nrf al) (fre al) (fun q => gA al q (al (31 + lo q)))).1 ||| (nI (pcs (nrf al) (fre al) (fun q => gA al q (al (31 + lo q)))).2.1 <<< ((5 : Int32) &&& 31))) ||| (nI (pcs (nrf al) (fre al) (fun q => gA al q (al (31 + lo q)))).2.2 <<< ((10 : Int32) &&& 31)) = nI (pr (pcs (nrf al) (fre al) (fun q => gA al q (al (31 + lo q))))) := hp.2.2.2.1
  rw [← hp4]
  exact e
end RR
