/-! a lay on the board of numbers; boardIf put together -/
def ly (al : Nat → Nat) (u c : Nat) : Nat → Nat := fun k => if k = 22 + u then c + 1 else if 31 ≤ k ∧ k < 31 + al 0 ∧ (rch (nrf al) (fre al) (2 ^ u)).testBit (k - 31) = true then c + 1 else al k
def wq (A : Nat → Nat → Int32) (M B : Nat → Int32) : Nat → Nat → Int32 := fun j => if j = 7 then M else if j = 8 then B else A j
theorem wq_7 {A : Nat → Nat → Int32} {M B : Nat → Int32} : wq A M B 7 = M := if_pos rfl
theorem wq_8 {A : Nat → Nat → Int32} {M B : Nat → Int32} : wq A M B 8 = B := (if_neg (by decide)).trans (if_pos rfl)
theorem wq_o {A : Nat → Nat → Int32} {M B : Nat → Int32} {j : Nat} (h7 : j ≠ 7) (h8 : j ≠ 8) : wq A M B j = A j := (if_neg h7).trans (if_neg h8)
theorem wq_wq {A : Nat → Nat → Int32} {M B M' B' : Nat → Int32} : wq (wq A M B) M' B' = wq A M' B' := funext fun j => by
  unfold wq
  by_cases h : j = 7
  · rw [if_pos h, if_pos h]
  · by_cases h8 : j = 8
    · simp only [if_neg h, if_pos h8]
    · simp only [if_neg h, if_neg h8]
theorem wq_self {A : Nat → Nat → Int32} : wq A (A 7) (A 8) = A := funext fun j => by
  unfold wq
  by_cases h : j = 7
  · rw [if_pos h, h]
  · by_cases h8 : j = 8
    · rw [if_neg h, if_pos h8, h8]
    · rw [if_neg h, if_neg h8]
theorem wK_wq {A : Nat → Nat → Int32} {M : Nat → Int32} : wK A M = wq A M (A 8) := funext fun j => by
  unfold wK wq
  by_cases h : j = 7
  · rw [if_pos h, if_pos h]
  · by_cases h8 : j = 8
    · rw [if_neg h, if_neg h, if_pos h8, h8]
    · rw [if_neg h, if_neg h, if_neg h8]
theorem Al_wq {A : Nat → Nat → Int32} {M B : Nat → Int32} {al : Nat → Nat} (h : Al A al) : Al (wq A M B) al := fun k hk => by rw [wq_o (by decide) (by decide)]; exact h k hk
section LY
variable {al : Nat → Nat} {u c : Nat}
theorem ly_low {k : Nat} (hk : k < 22) : ly al u c k = al k := by
  unfold ly
  rw [if_neg (by omega), if_neg (by omega)]
theorem ly_on {w : Nat} (hw : w < 9) : ly al u c (22 + w) = if w = u then c + 1 else al (22 + w) := by
  unfold ly
  by_cases h : w = u
  · rw [if_pos (by omega), if_pos h]
  · rw [if_neg (by omega), if_neg h, if_neg (by omega)]
theorem prt_fre (R : Rg al) {w : Nat} (h : (rch (nrf al) (fre al) (2 ^ u)).testBit w = true) : (fre al).testBit w = true := (rch_cl (fre_lt R)).2.1 w h
theorem ly_ban (R : Rg al) (hu : u < 9) {w : Nat} : ly al u c (31 + w) = if (rch (nrf al) (fre al) (2 ^ u)).testBit w = true then c + 1 else al (31 + w) := by
  unfold ly
  rw [if_neg (by omega), Nat.add_sub_cancel_left]
  by_cases h : (rch (nrf al) (fre al) (2 ^ u)).testBit w = true
  · have := fre_N (prt_fre R h)
    rw [if_pos ⟨by omega, by omega, h⟩, if_pos h]
  · rw [if_neg (fun e => h e.2.2), if_neg h]
theorem Sg_ly : Sg al (ly al u c) := fun k h _ _ => ly_low h
theorem Rg_ly (R : Rg al) (hu : u < al 0) (hc : c < 3) : Rg (ly al u c) := by
  have R' := R
  obtain ⟨r0, r1, r2, r3, r4, r5, r6, r7⟩ := R
  refine ⟨by rw [ly_low (by omega)]; exact r0, by rw [ly_low (by omega)]; exact r1, by rw [ly_low (by omega)]; exact r2, by rw [ly_low (by omega)]; exact r3, fun v hv => ?_, fun v w hv => ?_, fun v hv => ?_, fun v hv => ?_⟩
  · rw [ly_low (k := 4 + v) (by omega), ly_low (k := 13 + v) (by omega), ly_on hv, ly_ban R' (by omega)]
    refine ⟨(r4 v hv).1, (r4 v hv).2.1, ?_, ?_⟩
    · split
      · omega
      · exact (r4 v hv).2.2.1
    · split
      · omega
      · exact (r4 v hv).2.2.2
  · rw [ly_low (k := 13 + v) (by omega), ly_low (k := 0) (by omega)]
    intro hw
    have h1 := r5 v w hv hw
    rw [ly_low (k := 13 + w) (by omega)]
    exact h1
  · rw [ly_low (k := 0) (by omega), ly_low (k := 4 + v) (by omega), ly_on hv]
    intro h0
    rw [if_neg (by omega)]
    exact r6 v hv h0
  · rw [ly_low (k := 4 + v) (by omega), ly_low (k := 1) (by omega)]
    exact r7 v hv
theorem Fw_ly (F : Fw al) (R : Rg al) (hu : u < al 0) (hc : c < al 1) : Fw (ly al u c) := by
  obtain ⟨f1, f2, f3⟩ := F
  have h9 := R.1
  refine ⟨by rw [ly_low (k := 0) (by omega), ly_low (k := 1) (by omega)]; exact f1, by rw [ly_low (k := 1) (by omega)]; exact f2, fun v hv => ?_⟩
  rw [ly_low (k := 1) (by omega), ly_on hv, ly_ban R (by omega)]
  refine ⟨?_, ?_⟩
  · split
    · omega
    · exact (f3 v hv).1
  · split
    · omega
    · exact (f3 v hv).2
theorem fre_ly (R : Rg al) : fre (ly al u c) = dif (fre al) (2 ^ u) := Nat.eq_of_testBit_eq fun i => by
  rw [tb_dif, tb_pow, fre_tb, fre_tb, ly_low (k := 0) (by omega)]
  by_cases hi : i < al 0
  · have := R.1
    rw [ly_on (by omega)]
    by_cases h : i = u
    · rw [if_pos h, h]
      simp
    · rw [if_neg h, decide_eq_false (show ¬ u = i from fun e => h e.symm)]
      simp
  · rw [decide_eq_false hi]
    rfl
theorem nr_ly : nrf (ly al u c) = nrf al := Sg_nr Sg_ly
/-- what isn't told by moves, passes and bans is the same -/
def Lw (al al' : Nat → Nat) : Prop := ∀ k, k < 31 → k ≠ 2 → k ≠ 3 → al' k = al k
theorem Lw_sg {al al' : Nat → Nat} (h : Lw al al') : Sg al al' := fun k a b c => h k (by omega) b c
theorem Lw_arn {al al' : Nat → Nat} (h : Lw al al') : arn al' = arn al := funext fun v => mks_congr fun c _ => by
  have e : pnf al' c = pnf al c := mks_congr fun i hi => by rw [h (22 + i) (by omega) (by omega) (by omega)]
  rw [e, Sg_nr (Lw_sg h)]
theorem Lw_opf {al al' : Nat → Nat} (h : Lw al al') : opf al' = opf al := funext fun p => funext fun c => mks_congr fun v hv => by
  rw [h (4 + v) (by omega) (by omega) (by omega), Lw_arn h]
theorem Lw_gA {al al' : Nat → Nat} (h : Lw al al') : gA al' = gA al := funext fun p => funext fun bb => by
  unfold gA
  rw [Lw_opf h, Sg_nr (Lw_sg h)]
theorem Lw_fre {al al' : Nat → Nat} (h : Lw al al') (R : Rg al) : fre al' = fre al := by
  unfold fre
  rw [h 0 (by omega) (by omega) (by omega)]
  exact mks_congr fun i hi => by rw [h (22 + i) (by have := R.1; omega) (by omega) (by omega)]
theorem Lw_ly (hu : u < 9) : Lw (onv al u c) (ly al u c) := fun k hk _ _ => by
  unfold ly onv
  by_cases h : k = 22 + u
  · rw [if_pos h, if_pos h]
  · rw [if_neg h, if_neg h, if_neg (by omega)]
end LY
section RR
variable {v : Nat → Int32} {A : Nat → Nat → Int32} {h : Hp} {al : Nat → Nat}
theorem y_boardIf (hz : 31 ≤ h.2.1) (ha : Al A al) (hm : MK al (A 7)) (R : Rg al) (F : Fw al) {u c : Nat} (hu : (fre al).testBit u = true) (hc : c < al 1) : ∃ M B, MK al M ∧ m_X6_boardIf 20 (nI u) (nI c) (setR v A h) = some (nI (pr (brd (ly al u c))), setR v (wq A M B) h) := by
  have hu0 : u < al 0 := fre_N hu
  have hN := R.1
  have hC := R.2.1
  have h22 : al (22 + u) = 0 := by
    have h1 := hu
    rw [fre_tb, Bool.and_eq_true, beq_iff_eq] at h1
    exact h1.2
  have h0 : A 0 (22 + u) = 0 := by
    rw [ha _ (by omega), h22]
    rfl
  have ha1 : Al (updA (st31 (sv8 A 9) (rch (nrf al) (fre al) (2 ^ u)) (nI (c + 1)) (al 0)) 0 (22 + u) (nI (c + 1))) (ly al u c) := fun k hk => by
    show (if k = 22 + u then nI (c + 1) else if 31 ≤ k ∧ k < 31 + al 0 ∧ (rch (nrf al) (fre al) (2 ^ u)).testBit (k - 31) = true then nI (c + 1) else A 0 k) = nI (ly al u c k)
    unfold ly
    by_cases h1 : k = 22 + u
    · rw [if_pos h1, if_pos h1]
    · rw [if_neg h1, if_neg h1]
      by_cases h2 : 31 ≤ k ∧ k < 31 + al 0 ∧ (rch (nrf al) (fre al) (2 ^ u)).testBit (k - 31) = true
      · rw [if_pos h2, if_pos h2]
      · rw [if_neg h2, if_neg h2, ha k hk]
  have hm1 : MK (ly al u c) ((updA (st31 (sv8 A 9) (rch (nrf al) (fre al) (2 ^ u)) (nI (c + 1)) (al 0)) 0 (22 + u) (nI (c + 1))) 7) := MK_sg hm Sg_ly
  obtain ⟨M, hM, eb⟩ := y_board (v := v) hz ha1 hm1 (Rg_ly R hu0 (by omega)) (Fw_ly F R hu0 hc)
  refine ⟨M, sv8 A 9 8, MK_sg hM (Sg_symm Sg_ly), ?_⟩
  unfold m_X6_boardIf
  rw [r_cv hz, y_freeSet hz ha R, Option.bind_some, r_cv hz, y_reached hz ha R (fre_lt R) (fun i hi => fre_N hi) hu, Option.bind_some, y_save hz]
  rw [y_ban46 hz (show sv8 A 9 0 0 = nI (al 0) from ha 0 (by decide)) hN (rch_lt (fre_lt R))]
  rw [r_a hz, Option.bind_some, i22, nI_add, nI_1, r_s0 hz (by omega), Option.bind_some, r_cv hz, eb]
  simp only [b2, Option.bind_some]
  rw [r_a hz, Option.bind_some, r_s0 hz (by omega), Option.bind_some, y_back hz, bif_back hN (by omega) h0, wK_wq]
  have e : wq (sv8 A 9) M (sv8 A 9 8) = wq A M (sv8 A 9 8) := funext fun j => by
    unfold wq
    by_cases h7 : j = 7
    · rw [if_pos h7, if_pos h7]
    · by_cases h8 : j = 8
      · rw [if_neg h7, if_neg h7, if_pos h8, if_pos h8]
      · rw [if_neg h7, if_neg h7, if_neg h8, if_neg h8]
        exact if_neg h8
  rw [e]
end RR
