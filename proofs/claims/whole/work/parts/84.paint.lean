/-! a lay and a pass on the board of numbers, the move noted; the class's paint and spendPass -/
def lyN (al : Nat → Nat) (u c : Nat) : Nat → Nat := fun k => if k = 3 then al 3 + 1 else if k = 40 + al 3 then mvP (al 3 % 2) (u + 1) (c + 1) (np (nrf al) (dif (fre al) (2 ^ u))) (np (nrf al) (dif (rch (nrf al) (fre al) (2 ^ u)) (2 ^ u))) else ly al u c k
def psN (al : Nat → Nat) : Nat → Nat := fun k => if k = 2 then al 2 - 1 else if k = 3 then al 3 + 1 else if k = 40 + al 3 then mvP (al 3 % 2) 0 0 (np (nrf al) (fre al)) 0 else al k
def sp2 (al : Nat → Nat) (p : Nat) : Nat → Nat := fun k => if k = 2 then p else al k
/-- the same but for passes and moves -/
def Lq (al al' : Nat → Nat) : Prop := ∀ k, k < 40 → k ≠ 2 → k ≠ 3 → al' k = al k
section LQ
variable {al al' b : Nat → Nat}
theorem Lq_w (h : Lq al al') : Lw al al' := fun k a b c => h k (by omega) b c
theorem nrf_q (h : Lq al al') : nrf al' = nrf al := Sg_nr (Lw_sg (Lq_w h))
theorem fre_q (h : Lq al al') (R : Rg al) : fre al' = fre al := Lw_fre (Lq_w h) R
theorem lsf_q (h : Lq al al') : lsf al' = lsf al := funext fun c => mks_congr fun i hi => by rw [h (4 + i) (by omega) (by omega) (by omega)]
theorem pnf_q (h : Lq al al') : pnf al' = pnf al := funext fun c => mks_congr fun i hi => by rw [h (22 + i) (by omega) (by omega) (by omega)]
theorem Rg_q (h : Lq al al') (R : Rg al) (h2 : al' 2 ≤ 9) (h3 : al' 3 < 4096) : Rg al' := by
  obtain ⟨r0, r1, r2, r3, r4, r5, r6, r7⟩ := R
  have k : ∀ j, j < 40 → j ≠ 2 → j ≠ 3 → al' j = al j := h
  refine ⟨by rw [k 0 (by omega) (by omega) (by omega)]; exact r0, by rw [k 1 (by omega) (by omega) (by omega)]; exact r1, h2, h3, fun v hv => ?_, fun v w hv => ?_, fun v hv => ?_, fun v hv => ?_⟩
  · rw [k (4 + v) (by omega) (by omega) (by omega), k (13 + v) (by omega) (by omega) (by omega), k (22 + v) (by omega) (by omega) (by omega), k (31 + v) (by omega) (by omega) (by omega)]
    exact r4 v hv
  · rw [k (13 + v) (by omega) (by omega) (by omega), k 0 (by omega) (by omega) (by omega)]
    intro hw
    have h1 := r5 v w hv hw
    rw [k (13 + w) (by omega) (by omega) (by omega)]
    exact h1
  · rw [k 0 (by omega) (by omega) (by omega), k (4 + v) (by omega) (by omega) (by omega), k (22 + v) (by omega) (by omega) (by omega)]
    exact r6 v hv
  · rw [k (4 + v) (by omega) (by omega) (by omega), k 1 (by omega) (by omega) (by omega)]
    exact r7 v hv
theorem Fw_q (h : Lq al al') (F : Fw al) : Fw al' := by
  obtain ⟨f1, f2, f3⟩ := F
  refine ⟨by rw [h 0 (by omega) (by omega) (by omega), h 1 (by omega) (by omega) (by omega)]; exact f1, by rw [h 1 (by omega) (by omega) (by omega)]; exact f2, fun v hv => ?_⟩
  rw [h 1 (by omega) (by omega) (by omega), h (22 + v) (by omega) (by omega) (by omega), h (31 + v) (by omega) (by omega) (by omega)]
  exact f3 v hv
theorem Ub_q (h : Lq al al') (R : Rg al) (U : Ub al) : Ub al' := by
  intro u w hu hw
  rw [fre_q h R] at hu
  rw [nrf_q h, fre_q h R] at hw
  have h9 := R.1
  have hu0 := (fre_0 hu).1
  have hw0 := (fre_0 (prt_fre R hw)).1
  rw [h (31 + w) (by omega) (by omega) (by omega), h (31 + u) (by omega) (by omega) (by omega)]
  exact U u w hu hw
theorem Bk_q (h : Lq al al') (R : Rg al) (hk : Bk al b) : Bk al' b := by
  intro c hc
  refine ⟨(hk c hc).1, fun v hv => ?_⟩
  rw [fre_q h R] at hv
  have h9 := R.1
  have hv0 := (fre_0 hv).1
  rw [h (31 + v) (by omega) (by omega) (by omega)]
  exact (hk c hc).2 v hv
end LQ
def WfB (al : Nat → Nat) : Prop := Rg al ∧ Fw al ∧ Ub al
section LN
variable {al b : Nat → Nat} {u c : Nat}
theorem Lq_lyN : Lq (ly al u c) (lyN al u c) := fun k hk _ h3 => by
  unfold lyN
  rw [if_neg h3, if_neg (by omega)]
theorem lyN_3 : lyN al u c 3 = al 3 + 1 := if_pos rfl
theorem lyN_2 : lyN al u c 2 = al 2 := by
  unfold lyN
  rw [if_neg (by omega), if_neg (by omega), ly_low (by omega)]
theorem lyN_m : lyN al u c (40 + al 3) = mvP (al 3 % 2) (u + 1) (c + 1) (np (nrf al) (dif (fre al) (2 ^ u))) (np (nrf al) (dif (rch (nrf al) (fre al) (2 ^ u)) (2 ^ u))) := by
  unfold lyN
  rw [if_neg (by omega), if_pos rfl]
theorem ly_hi (h9 : al 0 ≤ 9) (hu : u < 9) {k : Nat} (hk : 40 ≤ k) : ly al u c k = al k := by
  unfold ly
  rw [if_neg (by omega), if_neg (by omega)]
theorem lyN_hi (h9 : al 0 ≤ 9) (hu : u < 9) {k : Nat} (hk : k < al 3) : lyN al u c (40 + k) = al (40 + k) := by
  unfold lyN
  rw [if_neg (by omega), if_neg (by omega), ly_hi h9 hu (by omega)]
theorem Lq_psN : Lq al (psN al) := fun k hk h2 h3 => by
  unfold psN
  rw [if_neg h2, if_neg h3, if_neg (by omega)]
theorem psN_2 : psN al 2 = al 2 - 1 := if_pos rfl
theorem psN_3 : psN al 3 = al 3 + 1 := by
  unfold psN
  rw [if_neg (by omega), if_pos rfl]
theorem psN_m : psN al (40 + al 3) = mvP (al 3 % 2) 0 0 (np (nrf al) (fre al)) 0 := by
  unfold psN
  rw [if_neg (by omega), if_neg (by omega), if_pos rfl]
theorem psN_hi {k : Nat} (hk : k < al 3) : psN al (40 + k) = al (40 + k) := by
  unfold psN
  rw [if_neg (by omega), if_neg (by omega), if_neg (by omega)]
theorem Lq_sp2 {p : Nat} : Lq al (sp2 al p) := fun k hk h2 h3 => if_neg h2
theorem rch_mono {nr : Nat → Nat} {s s' x : Nat} (hs : s < 512) (hs' : s' < 512) (h : ∀ i, s'.testBit i = true → s.testBit i = true) {i : Nat} (hi : (rch nr s' x).testBit i = true) : (rch nr s x).testBit i = true := by
  have c := rch_cl (nr := nr) (s := x) hs
  exact ((rch_cl (nr := nr) (s := x) hs').2.2.2 (fun j => (rch nr s x).testBit j = true) (fun j a b => c.1 j a (h j b)) (fun a w ha hn hw => c.2.2.1 a w ha hn (h w hw))) i hi
theorem Ub_ly (R : Rg al) (U : Ub al) (hu : (fre al).testBit u = true) : Ub (ly al u c) := by
  intro v w hv hw
  have hf := fre_lt R
  have h9 := R.1
  have hu9 : u < 9 := by have := (fre_0 hu).1; omega
  rw [fre_ly R] at hv
  rw [nr_ly, fre_ly R] at hw
  have hvf := (tb_dp.mp hv).1
  have hw' := rch_mono hf (dif_l9 hf) (fun i hi => (tb_dp.mp hi).1) hw
  rw [ly_ban R hu9, ly_ban R hu9]
  by_cases hp : (rch (nrf al) (fre al) (2 ^ u)).testBit v = true
  · have e := rch_mem (sy_Rg R) hf hu hp
    rw [e] at hw'
    rw [if_pos hp, if_pos hw']
  · have hpw : ¬ (rch (nrf al) (fre al) (2 ^ u)).testBit w = true := fun q => hp (by
      have e1 := rch_mem (sy_Rg R) hf hu q
      have e2 := rch_mem (sy_Rg R) hf hvf hw'
      rw [← e1, e2]
      exact rch_self hf hvf)
    rw [if_neg hp, if_neg hpw]
    exact U v w hvf hw'
theorem WfB_lyN (W : WfB al) (hu : (fre al).testBit u = true) (hc : c < al 1) (h3 : al 3 + 1 < 4096) : WfB (lyN al u c) := by
  obtain ⟨R, F, U⟩ := W
  have hu0 := (fre_0 hu).1
  have h1 := R.2.1
  have R1 := Rg_ly (c := c) R hu0 (by omega)
  exact ⟨Rg_q Lq_lyN R1 (by rw [lyN_2]; exact R.2.2.1) (by rw [lyN_3]; exact h3), Fw_q Lq_lyN (Fw_ly F R hu0 hc), Ub_q Lq_lyN R1 (Ub_ly R U hu)⟩
theorem WfB_psN (W : WfB al) (h3 : al 3 + 1 < 4096) : WfB (psN al) := by
  obtain ⟨R, F, U⟩ := W
  have h2 := R.2.2.1
  exact ⟨Rg_q Lq_psN R (by rw [psN_2]; omega) (by rw [psN_3]; exact h3), Fw_q Lq_psN F, Ub_q Lq_psN R U⟩
theorem WfB_sp2 {p : Nat} (W : WfB al) (hp : p ≤ 9) : WfB (sp2 al p) := by
  obtain ⟨R, F, U⟩ := W
  exact ⟨Rg_q Lq_sp2 R (by show p ≤ 9; exact hp) (by show al 3 < 4096; exact R.2.2.2.1), Fw_q Lq_sp2 F, Ub_q Lq_sp2 R U⟩
theorem fre_lyN (R : Rg al) (hu : (fre al).testBit u = true) (hc : c < 3) : fre (lyN al u c) = dif (fre al) (2 ^ u) := (fre_q Lq_lyN (Rg_ly R (fre_0 hu).1 hc)).trans (fre_ly R)
theorem nrf_lyN : nrf (lyN al u c) = nrf al := (nrf_q Lq_lyN).trans nr_ly
/-- the class's bans behind a lay -/
def bly (al b : Nat → Nat) (u c : Nat) : Nat → Nat := fun k => dif (b k) (dif (rch (nrf al) (fre al) (2 ^ u)) (2 ^ u)) ||| (if k = c then dif (rch (nrf al) (fre al) (2 ^ u)) (2 ^ u) else 0)
theorem Bk_ly (R : Rg al) (hk : Bk al b) (hu : (fre al).testBit u = true) : Bk (ly al u c) (bly al b u c) := by
  intro k hk3
  have hf := fre_lt R
  have h9 := R.1
  have hu9 : u < 9 := by have := (fre_0 hu).1; omega
  have hP : rch (nrf al) (fre al) (2 ^ u) < 512 := rch_lt hf
  refine ⟨or_l9 (dif_l9 (hk k hk3).1) (by split; exact dif_l9 hP; decide), fun v hv => ?_⟩
  rw [fre_ly R] at hv
  obtain ⟨hv1, hv2⟩ := tb_dp.mp hv
  rw [ly_ban R hu9]
  show (dif (b k) (dif (rch (nrf al) (fre al) (2 ^ u)) (2 ^ u)) ||| (if k = c then dif (rch (nrf al) (fre al) (2 ^ u)) (2 ^ u) else 0)).testBit v = _
  rw [Nat.testBit_or, tb_dif, (hk k hk3).2 v hv1]
  by_cases hp : (rch (nrf al) (fre al) (2 ^ u)).testBit v = true
  · have hr : (dif (rch (nrf al) (fre al) (2 ^ u)) (2 ^ u)).testBit v = true := tb_dp.mpr ⟨hp, hv2⟩
    rw [if_pos hp, hr, Bool.not_true, Bool.and_false, Bool.false_or]
    by_cases hkc : k = c
    · rw [if_pos hkc, hr, hkc]
      exact (beq_self_eq_true _).symm
    · rw [if_neg hkc, Nat.zero_testBit]
      exact (beq_eq_false_iff_ne.mpr (by omega)).symm
  · have hr : (dif (rch (nrf al) (fre al) (2 ^ u)) (2 ^ u)).testBit v = false := by
      cases e : (dif (rch (nrf al) (fre al) (2 ^ u)) (2 ^ u)).testBit v
      · rfl
      · exact absurd (tb_dp.mp e).1 hp
    rw [if_neg hp, hr, Bool.not_false, Bool.and_true]
    by_cases hkc : k = c
    · rw [if_pos hkc, hr, Bool.or_false]
    · rw [if_neg hkc, Nat.zero_testBit, Bool.or_false]
theorem pnf_ly (hu : u < 9) (h0 : al (22 + u) = 0) : ∀ k, pnf (ly al u c) k = pnf al k ||| (if k = c then 2 ^ u else 0) := fun k => Nat.eq_of_testBit_eq fun i => by
  by_cases hi : i < 9
  · rw [Nat.testBit_or, pnf_tb hi, pnf_tb hi, ly_on hi]
    by_cases hiu : i = u
    · rw [if_pos hiu, hiu, h0]
      by_cases hkc : k = c
      · rw [if_pos hkc, hkc, Nat.testBit_two_pow_self, Bool.or_true]
        exact beq_self_eq_true _
      · rw [if_neg hkc, Nat.zero_testBit, Bool.or_false, beq_eq_false_iff_ne.mpr (show c + 1 ≠ k + 1 by omega)]
        exact (beq_eq_false_iff_ne.mpr (by omega)).symm
    · rw [if_neg hiu]
      have : (if k = c then 2 ^ u else 0).testBit i = false := by
        split
        · rw [tb_pow]
          exact decide_eq_false (fun e => hiu e.symm)
        · exact Nat.zero_testBit i
      rw [this, Bool.or_false]
  · rw [tb_ge (n := 9) pnf_lt (by omega), tb_ge (n := 9) (or_l9 pnf_lt (by split; exact pow_lt9 hu; decide)) (by omega)]
theorem lsf_ly : lsf (ly al u c) = lsf al := funext fun k => mks_congr fun i hi => by rw [ly_low (by omega)]
end LN
section PT
variable {h : Hp} {o num : Nat} {al b : Nat → Nat} {lat : Option Nat}
theorem x_paintL {u6 u7 : Int32} {r : Nat} {n c v p f m : Int32} {q : Option Nat} {x : Nat → Int32} (O : At h o (bo o n c v p f m q)) (A : At h (o + 4) (.inl (0, 3, .inl x))) (hx : ∀ k, k < 3 → x k = nI (b k) ∧ b k < 512) (K : Hp → Option Hp) : ∃ y, (∀ k, k < 3 → y k = nI (dif (b k) r)) ∧ m_X0_paint_L29 o u6 u7 (nI r) K LF (0 : Int32) h = K (hset h (o + 4) (.inl (0, 3, .inl y))) := by
  refine ⟨fun k => if k < 3 then nI (dif (b k) r) else x k, fun k hk => if_pos hk, ?_⟩
  have key := forQ (σ := Unit) (fun g i _ => m_X0_paint_L29 o u6 u7 (nI r) K g (nI i) (hset h (o + 4) (.inl (0, 3, .inl (fun k => if k < i then nI (dif (b k) r) else x k))))) 3 (fun _ _ => True) (fun R => R = K (hset h (o + 4) (.inl (0, 3, .inl (fun k => if k < 3 then nI (dif (b k) r) else x k))))) (fun g i s hi _ e => ?_) (fun g s _ => ?_) LF 0 () (Nat.zero_le _) (by decide) trivial
  · have key' : m_X0_paint_L29 o u6 u7 (nI r) K LF (nI 0) (hset h (o + 4) (.inl (0, 3, .inl (fun k => if k < 0 then nI (dif (b k) r) else x k)))) = _ := key
    have e0 : (fun k => if k < 0 then nI (dif (b k) r) else x k) = x := funext fun k => if_neg (Nat.not_lt_zero k)
    rw [e0, hset_self A] at key'
    exact key'
  · have e' : m_X0_paint_L29 o u6 u7 (nI r) K g (nI (i + 1)) (hset h (o + 4) (.inl (0, 3, .inl (fun k => if k < i + 1 then nI (dif (b k) r) else x k)))) = _ := e () trivial
    show m_X0_paint_L29 o u6 u7 (nI r) K (g + 1) (nI i) (hset h (o + 4) (.inl (0, 3, .inl (fun k => if k < i then nI (dif (b k) r) else x k)))) = _
    have O' := at_set_ne (b := o + 4) (c' := (.inl (0, 3, .inl (fun k => if k < i then nI (dif (b k) r) else x k)) : Ac)) O (by omega)
    have A' := at_set_eq (c' := (.inl (0, 3, .inl (fun k => if k < i then nI (dif (b k) r) else x k)) : Ac)) A
    have hi' : (if i < i then nI (dif (b i) r) else x i) = nI (b i) := (if_neg (Nat.lt_irrefl i)).trans (hx i hi).1
    have hb := (hx i hi).2
    rw [m_X0_paint_L29, bg_10 O', Option.bind_some, at_aN A', Option.bind_some, iNle hi (by decide), Option.bind_some, at_aI A' hi (by decide), Option.bind_some, hi', nI_dif (by omega), at_sI A' hi (by decide), Option.bind_some, hset_hset, nar_0]
    simp only [e_nm]
    rw [nI_1]
    have eq : upd (fun k => if k < i then nI (dif (b k) r) else x k) i (nI (dif (b i) r)) = fun k => if k < i + 1 then nI (dif (b k) r) else x k := funext fun k => by
      show (if k = i then nI (dif (b i) r) else if k < i then nI (dif (b k) r) else x k) = if k < i + 1 then nI (dif (b k) r) else x k
      by_cases h1 : k = i
      · rw [if_pos h1, if_pos (by omega), h1]
      · rw [if_neg h1]
        by_cases h2 : k < i
        · rw [if_pos h2, if_pos (by omega)]
        · rw [if_neg h2, if_neg (by omega)]
    rw [eq]
    exact e'
  · show m_X0_paint_L29 o u6 u7 (nI r) K (g + 1) (nI 3) (hset h (o + 4) (.inl (0, 3, .inl (fun k => if k < 3 then nI (dif (b k) r) else x k)))) = _
    rw [m_X0_paint_L29, bg_10 (at_set_ne O (by omega)), Option.bind_some, at_aN (at_set_eq A), Option.bind_some, iLe (Nat.le_refl _) (by decide)]
/-- a new move, written -/
theorem x_moveI {a : Nat} {bf : Option Nat} {p q r s : Int32} (A : At h a (.inr (2, [.null, .int 0, .int 0, .int 0, .int 0]))) : m_X2_init a bf p q r s h = some (hset h a (.inr (2, [va_rf bf, .int p, .int q, .int r, .int s]))) := by
  have p1 : pV h 2 a 0 (va_rf bf) = some (hset h a (.inr (2, [va_rf bf, .int 0, .int 0, .int 0, .int 0]))) := at_pV A (Nat.le_of_ble_eq_true rfl)
  have p2 : pV (hset h a (.inr (2, [va_rf bf, .int 0, .int 0, .int 0, .int 0]))) 2 a 1 (.int p) = some (hset (hset h a (.inr (2, [va_rf bf, .int 0, .int 0, .int 0, .int 0]))) a (.inr (2, [va_rf bf, .int p, .int 0, .int 0, .int 0]))) := at_pV (at_set_eq A) (Nat.le_of_ble_eq_true rfl)
  have p3 : pV (hset h a (.inr (2, [va_rf bf, .int p, .int 0, .int 0, .int 0]))) 2 a 2 (.int q) = some (hset (hset h a (.inr (2, [va_rf bf, .int p, .int 0, .int 0, .int 0]))) a (.inr (2, [va_rf bf, .int p, .int q, .int 0, .int 0]))) := at_pV (at_set_eq A) (Nat.le_of_ble_eq_true rfl)
  have p4 : pV (hset h a (.inr (2, [va_rf bf, .int p, .int q, .int 0, .int 0]))) 2 a 3 (.int r) = some (hset (hset h a (.inr (2, [va_rf bf, .int p, .int q, .int 0, .int 0]))) a (.inr (2, [va_rf bf, .int p, .int q, .int r, .int 0]))) := at_pV (at_set_eq A) (Nat.le_of_ble_eq_true rfl)
  have p5 : pV (hset h a (.inr (2, [va_rf bf, .int p, .int q, .int r, .int 0]))) 2 a 4 (.int s) = some (hset (hset h a (.inr (2, [va_rf bf, .int p, .int q, .int r, .int 0]))) a (.inr (2, [va_rf bf, .int p, .int q, .int r, .int s]))) := at_pV (at_set_eq A) (Nat.le_of_ble_eq_true rfl)
  unfold m_X2_init
  rw [p1, Option.bind_some, p2, Option.bind_some, hset_hset, p3, Option.bind_some, hset_hset, p4, Option.bind_some, hset_hset, p5, Option.bind_some, hset_hset]
theorem InB_mv (B : BdH h o num al b lat) : ∀ a fs, 32 ≤ a → At h a (.inr (2, fs)) → ¬ InB o a := fun a fs _ ha hin => by
  unfold InB at hin
  obtain ⟨b0, ⟨x1, b1, -⟩, ⟨x2, b2, -⟩, ⟨x3, b3, -⟩, ⟨x4, b4, -⟩⟩ := B
  have ha2 := ha.2
  have hx : a = o ∨ a = o + 1 ∨ a = o + 2 ∨ a = o + 3 ∨ a = o + 4 := by omega
  rcases hx with e | e | e | e | e
  · rw [e, b0.2] at ha2; cases ha2
  · rw [e, b1.2] at ha2; cases ha2
  · rw [e, b2.2] at ha2; cases ha2
  · rw [e, b3.2] at ha2; cases ha2
  · rw [e, b4.2] at ha2; cases ha2
theorem x_paint {u c : Nat} (B : BdH h o num al b lat) (W : WfB al) (hk : Bk al b) (hu : (fre al).testBit u = true) (hc : c < al 1) (h32 : 32 ≤ h.2.1) (Ch : Chn h al (al 3) lat) : ∃ h' b', m_X0_paint o (nI u) (nI c) h = some h' ∧ BdH h' o num (lyN al u c) b' (some h.2.1) ∧ Bk (lyN al u c) b' ∧ Chn h' (lyN al u c) (al 3 + 1) (some h.2.1) ∧ Fr h h' (InB o) 1 5 := by
  obtain ⟨R, F, U⟩ := W
  have hf := fre_lt R
  have h9 := R.1
  have hC := R.2.1
  obtain ⟨hu0, h220⟩ := fre_0 hu
  have hu9 : u < 9 := by omega
  have h2u := pow_lt9 hu9
  have hP : rch (nrf al) (fre al) (2 ^ u) < 512 := rch_lt hf
  have R1 := Rg_ly (c := c) R hu0 (by omega)
  obtain ⟨b0, ⟨x1, b1, e1⟩, ⟨x2, b2, e2⟩, ⟨x3, b3, e3⟩, ⟨x4, b4, e4⟩⟩ := id B
  have b0' : At h o (bo o (nI num) (nI (al 1)) (nI (al 0)) (nI (al 2)) (nI (fre al)) (nI (al 3)) lat) := b0
  unfold m_X0_paint
  rw [bd_cv B, x_partWith B R hu9, Option.bind_some]
  simp only [e_nm]
  rw [nI_sh (by omega), nI_dif (by omega), bg_4 b0', Option.bind_some, nI_dif (by omega), bp_4 b0', Option.bind_some]
  generalize hH4 : hset h o (bo o (nI num) (nI (al 1)) (nI (al 0)) (nI (al 2)) (nI (dif (fre al) (2 ^ u))) (nI (al 3)) lat) = H4
  have F4 : Fr h H4 (InB o) 0 0 := by rw [← hH4]; exact Fr_set ⟨Nat.le_refl _, by omega⟩
  have o4 : At H4 o (bo o (nI num) (nI (al 1)) (nI (al 0)) (nI (al 2)) (nI (dif (fre al) (2 ^ u))) (nI (al 3)) lat) := by rw [← hH4]; exact at_set_eq b0'
  have b1 : At H4 (o + 1) (.inl (0, 9, .inl x1)) := by rw [← hH4]; exact at_set_ne b1 (by omega)
  have b2 : At H4 (o + 2) (.inl (0, 3, .inl x2)) := by rw [← hH4]; exact at_set_ne b2 (by omega)
  have b3 : At H4 (o + 3) (.inl (0, 3, .inl x3)) := by rw [← hH4]; exact at_set_ne b3 (by omega)
  have b4 : At H4 (o + 4) (.inl (0, 3, .inl x4)) := by rw [← hH4]; exact at_set_ne b4 (by omega)
  obtain ⟨y, hy, ey⟩ := x_paintL (u6 := nI u) (u7 := nI c) (r := dif (rch (nrf al) (fre al) (2 ^ u)) (2 ^ u)) (b := b) o4 b4 (fun k hk3 => ⟨e4 k hk3, (hk k hk3).1⟩) (fun h10 => (gR h10 0 o 10).bind fun a18 => (m_X5_add a18 (nI c) (nI (dif (rch (nrf al) (fre al) (2 ^ u)) (2 ^ u))) h10).bind fun h19 => (gR h19 0 o 9).bind fun a20 => (m_X5_add a20 (nI c) (nI (2 ^ u)) h19).bind fun h21 => nw h21 (.inr (2, [.null, .int 0, .int 0, .int 0, .int 0])) 5 fun a22 h23 => (gN h23 0 o 6).bind fun q24 => (gI h23 0 o 4).bind fun x25 => cv h23 0 o <| (m_X0_partsIn o x25 h23).bind fun x26 => cv h23 0 o <| (m_X0_partsIn o (nI (dif (rch (nrf al) (fre al) (2 ^ u)) (2 ^ u))) h23).bind fun x27 => (m_X2_init a22 q24 (nI u) (nI c) x26 x27 h23).bind fun h28 => (pV h28 0 o 6 (.ref a22)).bind fun h29 => (gI h29 0 o 5).bind fun x30 => (pV h29 0 o 5 (.int (x30 + (1 : Int32)))).bind fun h31 => some h31)
  rw [ey]
  have o10 := at_set_ne (b := o + 4) (c' := (.inl (0, 3, .inl y) : Ac)) o4 (by omega)
  have a10 := at_set_eq (c' := (.inl (0, 3, .inl y) : Ac)) b4
  rw [bg_10 o10, Option.bind_some, x_add a10 (show c < 3 by omega) (by decide), Option.bind_some, hset_hset]
  generalize hz : upd y c (y c ||| nI (dif (rch (nrf al) (fre al) (2 ^ u)) (2 ^ u))) = z
  have ez : ∀ k, k < 3 → z k = nI (bly al b u c k) := fun k hk3 => by
    rw [← hz]
    show (if k = c then _ else y k) = nI (dif (b k) _ ||| (if k = c then _ else 0))
    by_cases e : k = c
    · rw [if_pos e, if_pos e, ← e, hy k hk3, nI_or]
    · rw [if_neg e, if_neg e, hy k hk3, Nat.or_zero]
  generalize hH19 : hset H4 (o + 4) (.inl (0, 3, .inl z)) = H19
  have F19 : Fr h H19 (InB o) 0 0 := by rw [← hH19]; exact Fr_trans F4 (Fr_set ⟨by omega, by omega⟩)
  have o19 : At H19 o (bo o (nI num) (nI (al 1)) (nI (al 0)) (nI (al 2)) (nI (dif (fre al) (2 ^ u))) (nI (al 3)) lat) := by rw [← hH19]; exact at_set_ne o4 (by omega)
  have b1 : At H19 (o + 1) (.inl (0, 9, .inl x1)) := by rw [← hH19]; exact at_set_ne b1 (by omega)
  have b2 : At H19 (o + 2) (.inl (0, 3, .inl x2)) := by rw [← hH19]; exact at_set_ne b2 (by omega)
  have b3 : At H19 (o + 3) (.inl (0, 3, .inl x3)) := by rw [← hH19]; exact at_set_ne b3 (by omega)
  have b4 : At H19 (o + 4) (.inl (0, 3, .inl z)) := by rw [← hH19]; exact at_set_eq b4
  rw [bg_9 o19, Option.bind_some, x_add b3 (show c < 3 by omega) (by decide), Option.bind_some, e_nw]
  generalize hz3 : upd x3 c (x3 c ||| nI (2 ^ u)) = z3
  have ez3 : ∀ k, k < 3 → z3 k = nI (pnf (ly al u c) k) := fun k hk3 => by
    rw [← hz3, pnf_ly hu9 h220]
    show (if k = c then _ else x3 k) = nI (pnf al k ||| (if k = c then _ else 0))
    by_cases e : k = c
    · rw [if_pos e, if_pos e, ← e, e3 k hk3, nI_or]
    · rw [if_neg e, if_neg e, e3 k hk3, Nat.or_zero]
  generalize hH23 : hpush (hset H19 (o + 3) (.inl (0, 3, .inl z3))) (.inr (2, [.null, .int 0, .int 0, .int 0, .int 0])) 5 = H23
  have hsz : (hset H19 (o + 3) (.inl (0, 3, .inl z3))).2.1 = h.2.1 := by
    have : H19.2.1 = h.2.1 := by rw [← hH19, ← hH4]; rfl
    exact this
  rw [hsz]
  have F23 : Fr h H23 (InB o) 1 5 := by rw [← hH23]; exact Fr_trans (Fr_trans F19 (Fr_set ⟨by omega, by omega⟩)) Fr_push
  have o23 : At H23 o (bo o (nI num) (nI (al 1)) (nI (al 0)) (nI (al 2)) (nI (dif (fre al) (2 ^ u))) (nI (al 3)) lat) := by rw [← hH23]; exact at_push (at_set_ne o19 (by omega))
  have b1 : At H23 (o + 1) (.inl (0, 9, .inl x1)) := by rw [← hH23]; exact at_push (at_set_ne b1 (by omega))
  have b2 : At H23 (o + 2) (.inl (0, 3, .inl x2)) := by rw [← hH23]; exact at_push (at_set_ne b2 (by omega))
  have b3 : At H23 (o + 3) (.inl (0, 3, .inl z3)) := by rw [← hH23]; exact at_push (at_set_eq b3)
  have b4 : At H23 (o + 4) (.inl (0, 3, .inl z)) := by rw [← hH23]; exact at_push (at_set_ne b4 (by omega))
  have m23 : At H23 h.2.1 (.inr (2, [.null, .int 0, .int 0, .int 0, .int 0])) := by rw [← hH23, ← hsz]; exact at_new
  have B23 : BdH H23 o num (ly al u c) (bly al b u c) lat := by
    refine ⟨?_, ⟨x1, b1, fun k hk => ?_⟩, ⟨x2, b2, fun k hk => ?_⟩, ⟨z3, b3, ez3⟩, ⟨z, b4, ez⟩⟩
    · rw [ly_low (k := 1) (by omega), ly_low (k := 0) (by omega), ly_low (k := 2) (by omega), ly_low (k := 3) (by omega), fre_ly R]
      exact o23
    · rw [nr_ly]
      exact e1 k hk
    · rw [lsf_ly]
      exact e2 k hk
  have hnp1 := x_partsIn B23 R1 (sy_Rg R1) (set := dif (fre al) (2 ^ u)) (dif_l9 hf)
  have hnp2 := x_partsIn B23 R1 (sy_Rg R1) (set := dif (rch (nrf al) (fre al) (2 ^ u)) (2 ^ u)) (dif_l9 hP)
  rw [nr_ly] at hnp1 hnp2
  rw [bg_6 o23, Option.bind_some, bg_4 o23, Option.bind_some, bd_cv B23, hnp1, Option.bind_some, bd_cv B23, hnp2, Option.bind_some, x_moveI m23, Option.bind_some]
  generalize hnpa : np (nrf al) (dif (fre al) (2 ^ u)) = npa
  generalize hnpb : np (nrf al) (dif (rch (nrf al) (fre al) (2 ^ u)) (2 ^ u)) = npb
  have hone : o ≠ h.2.1 := fun e => by have := b0.1; omega
  have ho4 : o + 4 < h.2.1 := by
    obtain ⟨y4, b4, -⟩ := B.2.2.2.2
    exact b4.1
  generalize hH28 : hset H23 h.2.1 (.inr (2, [va_rf lat, .int (nI u), .int (nI c), .int (nI npa), .int (nI npb)])) = H28
  have o28 : At H28 o (bo o (nI num) (nI (al 1)) (nI (al 0)) (nI (al 2)) (nI (dif (fre al) (2 ^ u))) (nI (al 3)) lat) := by rw [← hH28]; exact at_set_ne o23 hone
  have b1 : At H28 (o + 1) (.inl (0, 9, .inl x1)) := by rw [← hH28]; exact at_set_ne b1 (by omega)
  have b2 : At H28 (o + 2) (.inl (0, 3, .inl x2)) := by rw [← hH28]; exact at_set_ne b2 (by omega)
  have b3 : At H28 (o + 3) (.inl (0, 3, .inl z3)) := by rw [← hH28]; exact at_set_ne b3 (by omega)
  have b4 : At H28 (o + 4) (.inl (0, 3, .inl z)) := by rw [← hH28]; exact at_set_ne b4 (by omega)
  have m28 : At H28 h.2.1 (.inr (2, [va_rf lat, .int (nI u), .int (nI c), .int (nI npa), .int (nI npb)])) := by rw [← hH28]; exact at_set_eq m23
  have F28 : Fr h H28 (InB o) 1 5 := by
    rw [← hH28]
    obtain ⟨f1, f2, f3, f4⟩ := F23
    exact ⟨f1, f2, f3, fun a ha hs => (if_neg (by omega)).trans (f4 a ha hs)⟩
  have p6 : pV H28 0 o 6 (.ref h.2.1) = some (hset H28 o (bo o (nI num) (nI (al 1)) (nI (al 0)) (nI (al 2)) (nI (dif (fre al) (2 ^ u))) (nI (al 3)) (some h.2.1))) := bp_6 (q' := some h.2.1) o28
  rw [p6, Option.bind_some, bg_5 (at_set_eq o28), Option.bind_some, bp_5 (at_set_eq o28), Option.bind_some, hset_hset, nI_1]
  have Fz : Fr h (hset H28 o (bo o (nI num) (nI (al 1)) (nI (al 0)) (nI (al 2)) (nI (dif (fre al) (2 ^ u))) (nI (al 3 + 1)) (some h.2.1))) (InB o) 1 5 := Fr_trans F28 (Fr_set ⟨Nat.le_refl _, by omega⟩)
  refine ⟨_, bly al b u c, rfl, ⟨?_, ⟨x1, at_set_ne b1 (by omega), fun k hk => ?_⟩, ⟨x2, at_set_ne b2 (by omega), fun k hk => ?_⟩, ⟨z3, at_set_ne b3 (by omega), fun k hk => ?_⟩, ⟨z, at_set_ne b4 (by omega), ez⟩⟩, Bk_q Lq_lyN R1 (Bk_ly R hk hu), ⟨h.2.1, lat, u + 1, c + 1, npa, npb, rfl, h32, ?_, ?_, by omega, by omega, by rw [← hnpa]; exact np_le, by rw [← hnpb]; exact np_le, by omega, ?_⟩, Fz⟩
  · rw [lyN_3, lyN_2, Lq_lyN 1 (by omega) (by omega) (by omega), Lq_lyN 0 (by omega) (by omega) (by omega), ly_low (k := 1) (by omega), ly_low (k := 0) (by omega), fre_lyN R hu (by omega)]
    exact at_set_eq o28
  · rw [nrf_lyN]
    exact e1 k hk
  · rw [lsf_q Lq_lyN, lsf_ly]
    exact e2 k hk
  · rw [pnf_q Lq_lyN]
    exact ez3 k hk
  · rw [nI_pred, nI_pred, if_neg (by omega)]
    exact at_set_ne m28 (fun e => hone e.symm)
  · rw [lyN_m, hnpa, hnpb]
  · exact Chn_al _ _ (fun k hk => lyN_hi h9 hu9 hk) (Chn_fr Fz (InB_mv B) _ _ Ch)
theorem x_spend (B : BdH h o num al b lat) (W : WfB al) (hk : Bk al b) (h0 : al 2 ≠ 0) (h32 : 32 ≤ h.2.1) (Ch : Chn h al (al 3) lat) : ∃ h', m_X0_spendPass o h = some h' ∧ BdH h' o num (psN al) b (some h.2.1) ∧ Bk (psN al) b ∧ Chn h' (psN al) (al 3 + 1) (some h.2.1) ∧ Fr h h' (InB o) 1 5 := by
  obtain ⟨R, F, U⟩ := W
  have hf := fre_lt R
  obtain ⟨t, ht⟩ : ∃ t, al 2 = t + 1 := ⟨al 2 - 1, by omega⟩
  obtain ⟨b0, ⟨x1, b1, e1⟩, ⟨x2, b2, e2⟩, ⟨x3, b3, e3⟩, ⟨x4, b4, e4⟩⟩ := id B
  have b0' : At h o (bo o (nI num) (nI (al 1)) (nI (al 0)) (nI (al 2)) (nI (fre al)) (nI (al 3)) lat) := b0
  have ho4 : o + 4 < h.2.1 := b4.1
  have hone : o ≠ h.2.1 := by omega
  unfold m_X0_spendPass
  rw [bg_3 b0', Option.bind_some, bp_3 b0', Option.bind_some, e_nw, ht, nI_pred]
  have b0h : At h o (bo o (nI num) (nI (al 1)) (nI (al 0)) (nI (t + 1)) (nI (fre al)) (nI (al 3)) lat) := by rw [← ht]; exact b0'
  generalize hH4 : hpush (hset h o (bo o (nI num) (nI (al 1)) (nI (al 0)) (nI t) (nI (fre al)) (nI (al 3)) lat)) (.inr (2, [.null, .int 0, .int 0, .int 0, .int 0])) 5 = H4
  have F4 : Fr h H4 (InB o) 1 5 := by rw [← hH4]; exact Fr_trans (Fr_set ⟨Nat.le_refl _, by omega⟩) Fr_push
  have o4 : At H4 o (bo o (nI num) (nI (al 1)) (nI (al 0)) (nI t) (nI (fre al)) (nI (al 3)) lat) := by rw [← hH4]; exact at_push (at_set_eq b0')
  have b1 : At H4 (o + 1) (.inl (0, 9, .inl x1)) := by rw [← hH4]; exact at_push (at_set_ne b1 (by omega))
  have b2 : At H4 (o + 2) (.inl (0, 3, .inl x2)) := by rw [← hH4]; exact at_push (at_set_ne b2 (by omega))
  have b3 : At H4 (o + 3) (.inl (0, 3, .inl x3)) := by rw [← hH4]; exact at_push (at_set_ne b3 (by omega))
  have b4 : At H4 (o + 4) (.inl (0, 3, .inl x4)) := by rw [← hH4]; exact at_push (at_set_ne b4 (by omega))
  have m4 : At H4 h.2.1 (.inr (2, [.null, .int 0, .int 0, .int 0, .int 0])) := by rw [← hH4]; exact at_new
  show ∃ h', ((gN H4 0 o 6).bind fun q5 => (gI H4 0 o 4).bind fun x6 => cv H4 0 o <| (m_X0_partsIn o x6 H4).bind fun x7 => (m_X2_init h.2.1 q5 (-1 : Int32) (-1 : Int32) x7 (-1 : Int32) H4).bind fun h8 => (pV h8 0 o 6 (.ref h.2.1)).bind fun h9 => (gI h9 0 o 5).bind fun x10 => (pV h9 0 o 5 (.int (x10 + (1 : Int32)))).bind fun h11 => some h11) = some h' ∧ _
  have R2 : Rg (sp2 al t) := Rg_q Lq_sp2 R (by have := R.2.2.1; show t ≤ 9; omega) (by show al 3 < 4096; exact R.2.2.2.1)
  have B4 : BdH H4 o num (sp2 al t) b lat := by
    refine ⟨?_, ⟨x1, b1, fun k hk => ?_⟩, ⟨x2, b2, fun k hk => ?_⟩, ⟨x3, b3, fun k hk => ?_⟩, ⟨x4, b4, e4⟩⟩
    · rw [fre_q Lq_sp2 R]
      exact o4
    · rw [nrf_q Lq_sp2]
      exact e1 k hk
    · rw [lsf_q Lq_sp2]
      exact e2 k hk
    · rw [pnf_q Lq_sp2]
      exact e3 k hk
  have hnp := x_partsIn B4 R2 (sy_Rg R2) (set := fre al) hf
  rw [nrf_q Lq_sp2] at hnp
  rw [bg_6 o4, Option.bind_some, bg_4 o4, Option.bind_some, bd_cv B4, hnp, Option.bind_some, x_moveI m4, Option.bind_some]
  generalize hnpa : np (nrf al) (fre al) = npa
  generalize hH8 : hset H4 h.2.1 (.inr (2, [va_rf lat, .int (-1 : Int32), .int (-1 : Int32), .int (nI npa), .int (-1 : Int32)])) = H8
  have o8 : At H8 o (bo o (nI num) (nI (al 1)) (nI (al 0)) (nI t) (nI (fre al)) (nI (al 3)) lat) := by rw [← hH8]; exact at_set_ne o4 hone
  have b1 : At H8 (o + 1) (.inl (0, 9, .inl x1)) := by rw [← hH8]; exact at_set_ne b1 (by omega)
  have b2 : At H8 (o + 2) (.inl (0, 3, .inl x2)) := by rw [← hH8]; exact at_set_ne b2 (by omega)
  have b3 : At H8 (o + 3) (.inl (0, 3, .inl x3)) := by rw [← hH8]; exact at_set_ne b3 (by omega)
  have b4 : At H8 (o + 4) (.inl (0, 3, .inl x4)) := by rw [← hH8]; exact at_set_ne b4 (by omega)
  have m8 : At H8 h.2.1 (.inr (2, [va_rf lat, .int (-1 : Int32), .int (-1 : Int32), .int (nI npa), .int (-1 : Int32)])) := by rw [← hH8]; exact at_set_eq m4
  have F8 : Fr h H8 (InB o) 1 5 := by
    rw [← hH8]
    obtain ⟨f1, f2, f3, f4⟩ := F4
    exact ⟨f1, f2, f3, fun a ha hs => (if_neg (by omega)).trans (f4 a ha hs)⟩
  have p6 : pV H8 0 o 6 (.ref h.2.1) = some (hset H8 o (bo o (nI num) (nI (al 1)) (nI (al 0)) (nI t) (nI (fre al)) (nI (al 3)) (some h.2.1))) := bp_6 (q' := some h.2.1) o8
  rw [p6, Option.bind_some, bg_5 (at_set_eq o8), Option.bind_some, bp_5 (at_set_eq o8), Option.bind_some, hset_hset, nI_1]
  have Fz : Fr h (hset H8 o (bo o (nI num) (nI (al 1)) (nI (al 0)) (nI t) (nI (fre al)) (nI (al 3 + 1)) (some h.2.1))) (InB o) 1 5 := Fr_trans F8 (Fr_set ⟨Nat.le_refl _, by omega⟩)
  refine ⟨_, rfl, ⟨?_, ⟨x1, at_set_ne b1 (by omega), fun k hk => ?_⟩, ⟨x2, at_set_ne b2 (by omega), fun k hk => ?_⟩, ⟨x3, at_set_ne b3 (by omega), fun k hk => ?_⟩, ⟨x4, at_set_ne b4 (by omega), e4⟩⟩, Bk_q Lq_psN R hk, ⟨h.2.1, lat, 0, 0, npa, 0, rfl, h32, ?_, ?_, by omega, by omega, by rw [← hnpa]; exact np_le, by omega, Iff.rfl, ?_⟩, Fz⟩
  · rw [psN_3, psN_2, Lq_psN 1 (by omega) (by omega) (by omega), Lq_psN 0 (by omega) (by omega) (by omega), fre_q Lq_psN R, ht, Nat.add_sub_cancel]
    exact at_set_eq o8
  · rw [nrf_q Lq_psN]
    exact e1 k hk
  · rw [lsf_q Lq_psN]
    exact e2 k hk
  · rw [pnf_q Lq_psN]
    exact e3 k hk
  · exact at_set_ne m8 (fun e => hone e.symm)
  · rw [psN_m, hnpa]
  · exact Chn_al _ _ (fun k hk => psN_hi hk) (Chn_fr Fz (InB_mv B) _ _ Ch)
end PT
