/-! the class's draft: begun, a vertex more, an edge more, full -/
def alH (C P : Nat) : Nat → Nat := fun k => if k = 1 then C else if k = 2 then P else 0
def avN (al : Nat → Nat) (L : Nat) : Nat → Nat := fun k => if k = 0 then al 0 + 1 else if k = 4 + al 0 then L else al k
def aeE (al : Nat → Nat) (u w : Nat) : Nat → Nat := fun k => if k = 13 + u then al k ||| 2 ^ w else if k = 13 + w then al k ||| 2 ^ u else al k
theorem nI_any (x : Int32) : ∃ k, x = nI k := ⟨x.toBitVec.toNat, Int32.toBitVec.inj (show x.toBitVec = BitVec.ofNat 32 x.toBitVec.toNat by simp)⟩
theorem alH_0 {C P k : Nat} (h1 : k ≠ 1) (h2 : k ≠ 2) : alH C P k = 0 := by
  unfold alH
  rw [if_neg h1, if_neg h2]
theorem mks_f {n : Nat} : mks n (fun _ => false) = 0 := Nat.eq_of_testBit_eq fun i => by rw [tb_mks, Bool.and_false, Nat.zero_testBit]
theorem nrf_H {C P k : Nat} : nrf (alH C P) k = 0 := by
  unfold nrf
  by_cases h : k < 9
  · rw [if_pos h, alH_0 (by omega) (by omega)]
  · rw [if_neg h]
theorem lsf_H {C P k : Nat} : lsf (alH C P) k = 0 := by
  unfold lsf
  rw [mks_congr (q := fun _ => false) fun v _ => by rw [alH_0 (by omega) (by omega), Nat.zero_testBit], mks_f]
theorem pnf_H {C P k : Nat} : pnf (alH C P) k = 0 := by
  unfold pnf
  rw [mks_congr (q := fun _ => false) fun v _ => by rw [alH_0 (by omega) (by omega)]; rfl, mks_f]
section DRF
variable {g : Hp} {o num : Nat} {al b : Nat → Nat} {lat : Option Nat}
theorem x_startEmpty {C : Nat} (S : BdS g o) : ∃ g' num, m_X0_startEmpty o (nI C) g = some g' ∧ BdH g' o num (alH C 0) (fun _ => 0) none ∧ Fr g g' (InB o) 0 0 := by
  obtain ⟨⟨n, c, v, p, f, m, q, O⟩, ⟨x1, a1⟩, ⟨x2, a2⟩, ⟨x3, a3⟩, ⟨x4, a4⟩⟩ := S
  obtain ⟨num, rfl⟩ := nI_any n
  unfold m_X0_startEmpty
  have s6 : ∀ {h : Hp} {n c v p f m : Int32} {q : Option Nat}, At h o (bo o n c v p f m q) → pV h 0 o 6 .null = some (hset h o (bo o n c v p f m none)) := fun A => bp_6 (q' := none) A
  rw [bp_1 O, Option.bind_some, bp_2 (at_set_eq O), Option.bind_some, hset_hset, bp_3 (at_set_eq O), Option.bind_some, hset_hset, bp_4 (at_set_eq O), Option.bind_some, hset_hset, bp_5 (at_set_eq O), Option.bind_some, hset_hset, s6 (at_set_eq O), Option.bind_some, hset_hset]
  have O' := at_set_eq (c' := bo o (nI num) (nI C) 0 0 0 0 none) O
  have b1 := at_set_ne (c' := bo o (nI num) (nI C) 0 0 0 0 none) a1 (show o + 1 ≠ o by omega)
  have b2 := at_set_ne (c' := bo o (nI num) (nI C) 0 0 0 0 none) a2 (show o + 2 ≠ o by omega)
  have b3 := at_set_ne (c' := bo o (nI num) (nI C) 0 0 0 0 none) a3 (show o + 3 ≠ o by omega)
  have b4 := at_set_ne (c' := bo o (nI num) (nI C) 0 0 0 0 none) a4 (show o + 4 ≠ o by omega)
  have F0 : Fr g (hset g o (bo o (nI num) (nI C) 0 0 0 0 none)) (InB o) 0 0 := Fr_set ⟨by omega, by omega⟩
  generalize hset g o (bo o (nI num) (nI C) 0 0 0 0 none) = H at O' b1 b2 b3 b4 F0 ⊢
  obtain ⟨q1, e1, E1⟩ := x_clearRow b1 (by decide)
  rw [bg_7 O', Option.bind_some, E1, Option.bind_some]
  have O1 := at_set_ne (c' := (.inl (0, 9, .inl q1) : Ac)) O' (show o ≠ o + 1 by omega)
  have c1 := at_set_eq (c' := (.inl (0, 9, .inl q1) : Ac)) b1
  have c2 := at_set_ne (c' := (.inl (0, 9, .inl q1) : Ac)) b2 (show o + 2 ≠ o + 1 by omega)
  have c3 := at_set_ne (c' := (.inl (0, 9, .inl q1) : Ac)) b3 (show o + 3 ≠ o + 1 by omega)
  have c4 := at_set_ne (c' := (.inl (0, 9, .inl q1) : Ac)) b4 (show o + 4 ≠ o + 1 by omega)
  have F1 : Fr g (hset H (o + 1) (.inl (0, 9, .inl q1))) (InB o) 0 0 := Fr_trans F0 (Fr_set ⟨by omega, by omega⟩)
  generalize hset H (o + 1) (.inl (0, 9, .inl q1)) = H1 at O1 c1 c2 c3 c4 F1 ⊢
  obtain ⟨q2, e2, E2⟩ := x_clearRow c2 (by decide)
  rw [bg_8 O1, Option.bind_some, E2, Option.bind_some]
  have O2 := at_set_ne (c' := (.inl (0, 3, .inl q2) : Ac)) O1 (show o ≠ o + 2 by omega)
  have d1 := at_set_ne (c' := (.inl (0, 3, .inl q2) : Ac)) c1 (show o + 1 ≠ o + 2 by omega)
  have d2 := at_set_eq (c' := (.inl (0, 3, .inl q2) : Ac)) c2
  have d3 := at_set_ne (c' := (.inl (0, 3, .inl q2) : Ac)) c3 (show o + 3 ≠ o + 2 by omega)
  have d4 := at_set_ne (c' := (.inl (0, 3, .inl q2) : Ac)) c4 (show o + 4 ≠ o + 2 by omega)
  have F2 : Fr g (hset H1 (o + 2) (.inl (0, 3, .inl q2))) (InB o) 0 0 := Fr_trans F1 (Fr_set ⟨by omega, by omega⟩)
  generalize hset H1 (o + 2) (.inl (0, 3, .inl q2)) = H2 at O2 d1 d2 d3 d4 F2 ⊢
  obtain ⟨q3, e3, E3⟩ := x_clearRow d3 (by decide)
  rw [bg_9 O2, Option.bind_some, E3, Option.bind_some]
  have O3 := at_set_ne (c' := (.inl (0, 3, .inl q3) : Ac)) O2 (show o ≠ o + 3 by omega)
  have f1 := at_set_ne (c' := (.inl (0, 3, .inl q3) : Ac)) d1 (show o + 1 ≠ o + 3 by omega)
  have f2 := at_set_ne (c' := (.inl (0, 3, .inl q3) : Ac)) d2 (show o + 2 ≠ o + 3 by omega)
  have f3 := at_set_eq (c' := (.inl (0, 3, .inl q3) : Ac)) d3
  have f4 := at_set_ne (c' := (.inl (0, 3, .inl q3) : Ac)) d4 (show o + 4 ≠ o + 3 by omega)
  have F3 : Fr g (hset H2 (o + 3) (.inl (0, 3, .inl q3))) (InB o) 0 0 := Fr_trans F2 (Fr_set ⟨by omega, by omega⟩)
  generalize hset H2 (o + 3) (.inl (0, 3, .inl q3)) = H3 at O3 f1 f2 f3 f4 F3 ⊢
  obtain ⟨q4, e4, E4⟩ := x_clearRow f4 (by decide)
  rw [bg_10 O3, Option.bind_some, E4, Option.bind_some]
  have F4 : Fr g (hset H3 (o + 4) (.inl (0, 3, .inl q4))) (InB o) 0 0 := Fr_trans F3 (Fr_set ⟨by omega, by omega⟩)
  refine ⟨_, num, rfl, ⟨at_set_ne O3 (by omega), ⟨q1, at_set_ne f1 (by omega), fun k hk => ?_⟩, ⟨q2, at_set_ne f2 (by omega), fun k hk => ?_⟩, ⟨q3, at_set_ne f3 (by omega), fun k hk => ?_⟩, ⟨q4, at_set_eq f4, fun k hk => e4 k hk⟩⟩, F4⟩
  · rw [e1 k hk, nrf_H]
  · rw [e2 k hk, lsf_H]
  · rw [e3 k hk, pnf_H]
theorem x_setP {P C : Nat} (B : BdH g o num (alH C 0) b lat) : ∃ g', pV g 0 o 3 (.int (nI P)) = some g' ∧ BdH g' o num (alH C P) b lat ∧ Fr g g' (InB o) 0 0 := by
  obtain ⟨O, ⟨q1, a1, e1⟩, ⟨q2, a2, e2⟩, ⟨q3, a3, e3⟩, ⟨q4, a4, e4⟩⟩ := B
  have O' : At g o (bo o (nI num) (nI C) (nI 0) (nI 0) (nI 0) (nI 0) lat) := O
  refine ⟨_, bp_3 O', ⟨at_set_eq O', ⟨q1, at_set_ne a1 (by omega), fun k hk => ?_⟩, ⟨q2, at_set_ne a2 (by omega), fun k hk => ?_⟩, ⟨q3, at_set_ne a3 (by omega), fun k hk => ?_⟩, ⟨q4, at_set_ne a4 (by omega), e4⟩⟩, Fr_set ⟨by omega, by omega⟩⟩
  · rw [e1 k hk, nrf_H, nrf_H]
  · rw [e2 k hk, lsf_H, lsf_H]
  · rw [e3 k hk, pnf_H, pnf_H]
theorem avN_e {L k : Nat} (h0 : k ≠ 0) (h4 : k ≠ 4 + al 0) : avN al L k = al k := by
  unfold avN
  rw [if_neg h0, if_neg h4]
theorem avN_0 {L : Nat} : avN al L 0 = al 0 + 1 := if_pos rfl
theorem avN_4 {L : Nat} : avN al L (4 + al 0) = L := by
  unfold avN
  rw [if_neg (by omega), if_pos rfl]
theorem fre_av {L : Nat} (R : Rg al) (h9 : al 0 < 9) : fre (avN al L) = fre al ||| 2 ^ al 0 := Nat.eq_of_testBit_eq fun i => by
  rw [Nat.testBit_or, fre_tb, fre_tb, avN_0, tb_pow, avN_e (by omega) (by omega)]
  by_cases h : i = al 0
  · subst h
    rw [(R.2.2.2.2.2.2.1 (al 0) h9 (Nat.le_refl _)).2, decide_eq_true (by omega), decide_eq_true rfl, Bool.or_true]
    rfl
  · rw [decide_eq_false (show ¬ al 0 = i by omega), Bool.or_false, decide_eq_decide.mpr (show i < al 0 + 1 ↔ i < al 0 by omega)]
theorem nrf_av {L k : Nat} (h9 : al 0 < 9) : nrf (avN al L) k = nrf al k := by
  unfold nrf
  by_cases h : k < 9
  · rw [if_pos h, if_pos h, avN_e (by omega) (by omega)]
  · rw [if_neg h, if_neg h]
theorem pnf_av {L k : Nat} (h9 : al 0 < 9) : pnf (avN al L) k = pnf al k := by
  unfold pnf
  exact mks_congr fun v _ => by rw [avN_e (by omega) (by omega)]
theorem lsf_av {L k : Nat} (R : Rg al) (h9 : al 0 < 9) : lsf (avN al L) k = if L.testBit k = true then lsf al k ||| 2 ^ al 0 else lsf al k := Nat.eq_of_testBit_eq fun i => by
  have hz := (R.2.2.2.2.2.2.1 (al 0) h9 (Nat.le_refl _)).1
  by_cases h : i = al 0
  · subst h
    rw [lsf_tb h9, avN_4]
    by_cases hL : L.testBit k = true
    · rw [if_pos hL, hL, Nat.testBit_or, tb_pow, decide_eq_true rfl, Bool.or_true]
    · rw [if_neg hL, lsf_tb h9, hz, Nat.zero_testBit, Bool.eq_false_iff.mpr hL]
  · have e : (lsf (avN al L) k).testBit i = (lsf al k).testBit i := by
      unfold lsf
      rw [tb_mks, tb_mks, avN_e (by omega) (by omega)]
    rw [e]
    by_cases hL : L.testBit k = true
    · rw [if_pos hL, Nat.testBit_or, tb_pow, decide_eq_false (by omega), Bool.or_false]
    · rw [if_neg hL]
theorem Rg_av {L : Nat} (R : Rg al) (h9 : al 0 < 9) (hL : L < 8) (hc : ∀ c, L.testBit c = true → c < al 1) : Rg (avN al L) := by
  obtain ⟨r0, r1, r2, r3, r4, r5, r6, r7⟩ := R
  refine ⟨by rw [avN_0]; omega, by rw [avN_e (by omega) (by omega)]; exact r1, by rw [avN_e (by omega) (by omega)]; exact r2, by rw [avN_e (by omega) (by omega)]; exact r3, fun v hv => ?_, fun v w hv hw => ?_, fun v hv hn => ?_, fun v hv c hb => ?_⟩
  · rw [avN_e (k := 13 + v) (by omega) (by omega), avN_e (k := 22 + v) (by omega) (by omega), avN_e (k := 31 + v) (by omega) (by omega)]
    refine ⟨?_, (r4 v hv).2⟩
    by_cases h : v = al 0
    · rw [h, avN_4]; exact hL
    · rw [avN_e (by omega) (by omega)]; exact (r4 v hv).1
  · rw [avN_e (by omega) (by omega)] at hw
    have := r5 v w hv hw
    rw [avN_0, avN_e (by omega) (by omega)]
    exact ⟨by omega, by omega, this.2.2⟩
  · rw [avN_0] at hn
    rw [avN_e (by omega) (by omega), avN_e (by omega) (by omega)]
    exact r6 v hv (by omega)
  · rw [avN_e (k := 1) (by omega) (by omega)]
    by_cases h : v = al 0
    · rw [h, avN_4] at hb
      exact hc c hb
    · rw [avN_e (by omega) (by omega)] at hb
      exact r7 v hv c hb
theorem x_addVertex {L : Nat} (B : BdH g o num al b lat) (R : Rg al) (h9 : al 0 < 9) : ∃ g', m_X0_addVertex o (nI L) g = some g' ∧ BdH g' o num (avN al L) b lat ∧ Fr g g' (InB o) 0 0 := by
  obtain ⟨O, ⟨q1, a1, e1⟩, ⟨q2, a2, e2⟩, ⟨q3, a3, e3⟩, ⟨q4, a4, e4⟩⟩ := B
  have O0 : At g o (bo o (nI num) (nI (al 1)) (nI (al 0)) (nI (al 2)) (nI (fre al)) (nI (al 3)) lat) := O
  unfold m_X0_addVertex
  simp only [e_nm]
  rw [bg_2 O0, Option.bind_some, nI_sh (by omega)]
  refine forQ (σ := Nat → Int32) (fun f i q => m_X0_addVertex_L9 o (nI L) (nI (2 ^ al 0)) (fun h7 => (gI h7 0 o 4).bind fun x19 => (pV h7 0 o 4 (.int (x19 ||| nI (2 ^ al 0)))).bind fun h20 => (gI h20 0 o 2).bind fun x21 => (pV h20 0 o 2 (.int (x21 + (1 : Int32)))).bind fun h22 => some h22) f (nI i) (hset g (o + 2) (.inl (0, 3, .inl q)))) 3 (fun i q => ∀ k, k < 3 → q k = if k < i ∧ L.testBit k = true then nI (lsf al k ||| 2 ^ al 0) else nI (lsf al k)) (fun r => ∃ g', r = some g' ∧ BdH g' o num (avN al L) b lat ∧ Fr g g' (InB o) 0 0) (fun f i q hi hq e => ?_) (fun f q hq => ?_) LF 0 q2 (by decide) (by decide) (fun k hk => by rw [if_neg (fun e => Nat.not_lt_zero _ e.1)]; exact e2 k hk) |> fun key => ?_
  · have key' : ∃ g', m_X0_addVertex_L9 o (nI L) (nI (2 ^ al 0)) _ LF (nI 0) (hset g (o + 2) (.inl (0, 3, .inl q2))) = some g' ∧ _ := key
    rw [hset_self a2] at key'
    exact key'
  · show ∃ g', m_X0_addVertex_L9 o (nI L) (nI (2 ^ al 0)) _ (f + 1) (nI i) (hset g (o + 2) (.inl (0, 3, .inl q))) = some g' ∧ _
    have A := at_set_eq (c' := (.inl (0, 3, .inl q) : Ac)) a2
    have O1 := at_set_ne (c' := (.inl (0, 3, .inl q) : Ac)) O0 (show o ≠ o + 2 by omega)
    rw [m_X0_addVertex_L9, bg_8 O1, Option.bind_some, at_aN A, Option.bind_some, iNle hi (by decide), m_has (by omega), Option.bind_some]
    simp only [e_jK, e_nm]
    by_cases hb : L.testBit i = true
    · rw [if_pos hb, Option.bind_some, at_aI A hi (by decide), Option.bind_some, at_sI A hi (by decide), Option.bind_some, hset_hset, nar_0, nI_1]
      refine e (upd q i (q i ||| nI (2 ^ al 0))) (fun k hk => ?_)
      show (if k = i then _ else _) = _
      by_cases hki : k = i
      · subst hki
        rw [if_pos rfl, hq k hk, if_neg (fun e => Nat.lt_irrefl _ e.1), if_pos ⟨by omega, hb⟩, nI_or]
      · rw [if_neg hki, hq k hk]
        by_cases h2 : k < i ∧ L.testBit k = true
        · rw [if_pos h2, if_pos ⟨by omega, h2.2⟩]
        · rw [if_neg h2, if_neg (fun e => h2 ⟨by omega, e.2⟩)]
    · rw [if_neg hb, nI_1]
      refine e q (fun k hk => ?_)
      rw [hq k hk]
      by_cases h2 : k < i ∧ L.testBit k = true
      · rw [if_pos h2, if_pos ⟨by omega, h2.2⟩]
      · rw [if_neg h2, if_neg (fun e => ?_)]
        by_cases hki : k = i
        · exact hb (hki ▸ e.2)
        · exact h2 ⟨by omega, e.2⟩
  · show ∃ g', m_X0_addVertex_L9 o (nI L) (nI (2 ^ al 0)) _ (f + 1) (nI 3) (hset g (o + 2) (.inl (0, 3, .inl q))) = some g' ∧ _
    have A := at_set_eq (c' := (.inl (0, 3, .inl q) : Ac)) a2
    have O1 := at_set_ne (c' := (.inl (0, 3, .inl q) : Ac)) O0 (show o ≠ o + 2 by omega)
    rw [m_X0_addVertex_L9, bg_8 O1, Option.bind_some, at_aN A, Option.bind_some, iLe (Nat.le_refl _) (by decide), bg_4 O1, Option.bind_some, bp_4 O1, Option.bind_some, bg_2 (at_set_eq O1), Option.bind_some, bp_2 (at_set_eq O1), Option.bind_some, hset_hset, nI_or, nI_1, ← fre_av R h9, ← avN_0 (al := al) (L := L)]
    have O2 := at_set_eq (c' := bo o (nI num) (nI (al 1)) (nI (avN al L 0)) (nI (al 2)) (nI (fre (avN al L))) (nI (al 3)) lat) O1
    refine ⟨_, rfl, ⟨?_, ⟨q1, at_set_ne (at_set_ne a1 (by omega)) (by omega), fun k hk => ?_⟩, ⟨q, at_set_ne A (by omega), fun k hk => ?_⟩, ⟨q3, at_set_ne (at_set_ne a3 (by omega)) (by omega), fun k hk => ?_⟩, ⟨q4, at_set_ne (at_set_ne a4 (by omega)) (by omega), e4⟩⟩, Fr_trans (n' := 0) (m' := 0) (Fr_set ⟨by omega, by omega⟩) (Fr_set ⟨by omega, by omega⟩)⟩
    · rw [avN_e (k := 1) (by omega) (by omega), avN_e (k := 2) (by omega) (by omega), avN_e (k := 3) (by omega) (by omega)]
      exact O2
    · rw [e1 k hk, nrf_av h9]
    · rw [hq k hk, lsf_av R h9]
      by_cases h2 : L.testBit k = true
      · rw [if_pos ⟨hk, h2⟩, if_pos h2]
      · rw [if_neg (fun e => h2 e.2), if_neg h2]
    · rw [e3 k hk, pnf_av h9]
theorem aeE_e {u w k : Nat} (h1 : k ≠ 13 + u) (h2 : k ≠ 13 + w) : aeE al u w k = al k := by
  unfold aeE
  rw [if_neg h1, if_neg h2]
theorem aeE_u {u w : Nat} : aeE al u w (13 + u) = al (13 + u) ||| 2 ^ w := if_pos rfl
theorem aeE_w {u w : Nat} (h : u ≠ w) : aeE al u w (13 + w) = al (13 + w) ||| 2 ^ u := by
  unfold aeE
  rw [if_neg (by omega), if_pos rfl]
theorem ae_tb {u w x y : Nat} (h : u ≠ w) : (aeE al u w (13 + x)).testBit y = true ↔ (al (13 + x)).testBit y = true ∨ (x = u ∧ y = w) ∨ (x = w ∧ y = u) := by
  by_cases h1 : x = u
  · subst h1
    rw [aeE_u, Nat.testBit_or, tb_pow, Bool.or_eq_true, decide_eq_true_iff]
    constructor
    · rintro (e | e)
      · exact .inl e
      · exact .inr (.inl ⟨rfl, e.symm⟩)
    · rintro (e | e | e)
      · exact .inl e
      · exact .inr e.2.symm
      · exact absurd e.1 h
  · by_cases h2 : x = w
    · subst h2
      rw [aeE_w h, Nat.testBit_or, tb_pow, Bool.or_eq_true, decide_eq_true_iff]
      constructor
      · rintro (e | e)
        · exact .inl e
        · exact .inr (.inr ⟨rfl, e.symm⟩)
      · rintro (e | e | e)
        · exact .inl e
        · exact absurd e.1 h1
        · exact .inr e.2.symm
    · rw [aeE_e (by omega) (by omega)]
      constructor
      · exact fun e => .inl e
      · rintro (e | e | e)
        · exact e
        · exact absurd e.1 h1
        · exact absurd e.1 h2
theorem Rg_ae {u w : Nat} (R : Rg al) (hu : u < al 0) (hw : w < al 0) (h : u ≠ w) : Rg (aeE al u w) := by
  obtain ⟨r0, r1, r2, r3, r4, r5, r6, r7⟩ := R
  refine ⟨by rw [aeE_e (by omega) (by omega)]; exact r0, by rw [aeE_e (by omega) (by omega)]; exact r1, by rw [aeE_e (by omega) (by omega)]; exact r2, by rw [aeE_e (by omega) (by omega)]; exact r3, fun v hv => ?_, fun v x hv hx => ?_, fun v hv hn => ?_, fun v hv c hb => ?_⟩
  · rw [aeE_e (k := 4 + v) (by omega) (by omega), aeE_e (k := 22 + v) (by omega) (by omega), aeE_e (k := 31 + v) (by omega) (by omega)]
    refine ⟨(r4 v hv).1, tb_lt (n := 9) fun i hi => Bool.eq_false_iff.mpr fun e => ?_, (r4 v hv).2.2⟩
    rcases (ae_tb h).mp e with e | e | e
    · have := tb_ge (n := 9) (r4 v hv).2.1 hi
      rw [this] at e
      exact Bool.noConfusion e
    · omega
    · omega
  · rw [aeE_e (k := 0) (by omega) (by omega), ae_tb h]
    rcases (ae_tb h).mp hx with e | e | e
    · have := r5 v x hv e
      exact ⟨this.1, this.2.1, this.2.2.1, .inl this.2.2.2⟩
    · exact ⟨by omega, by omega, by omega, .inr (.inr ⟨e.2, e.1⟩)⟩
    · exact ⟨by omega, by omega, by omega, .inr (.inl ⟨e.2, e.1⟩)⟩
  · rw [aeE_e (k := 0) (by omega) (by omega)] at hn
    rw [aeE_e (by omega) (by omega), aeE_e (by omega) (by omega)]
    exact r6 v hv hn
  · rw [aeE_e (by omega) (by omega)] at hb ⊢
    exact r7 v hv c hb
theorem x_addEdge {u w : Nat} (B : BdH g o num al b lat) (hu : u < 9) (hw : w < 9) (h : u ≠ w) : ∃ g', m_X0_addEdge o (nI u) (nI w) g = some g' ∧ BdH g' o num (aeE al u w) b lat ∧ Fr g g' (InB o) 0 0 := by
  obtain ⟨O, ⟨q1, a1, e1⟩, ⟨q2, a2, e2⟩, ⟨q3, a3, e3⟩, ⟨q4, a4, e4⟩⟩ := B
  have O0 : At g o (bo o (nI num) (nI (al 1)) (nI (al 0)) (nI (al 2)) (nI (fre al)) (nI (al 3)) lat) := O
  unfold m_X0_addEdge
  rw [bg_7 O0, Option.bind_some, nI_sh (by omega), x_add a1 hu (by decide), Option.bind_some, bg_7 (at_set_ne O0 (show o ≠ o + 1 by omega)), Option.bind_some, nI_sh (by omega), x_add (at_set_eq a1) hw (by decide), Option.bind_some, hset_hset]
  refine ⟨_, rfl, ⟨?_, ⟨_, at_set_eq a1, fun k hk => ?_⟩, ⟨q2, at_set_ne a2 (by omega), fun k hk => ?_⟩, ⟨q3, at_set_ne a3 (by omega), fun k hk => ?_⟩, ⟨q4, at_set_ne a4 (by omega), e4⟩⟩, Fr_set ⟨by omega, by omega⟩⟩
  · have ef : fre (aeE al u w) = fre al := by
      unfold fre
      rw [aeE_e (k := 0) (by omega) (by omega)]
      exact mks_congr fun v _ => by rw [aeE_e (by omega) (by omega)]
    rw [ef, aeE_e (k := 0) (by omega) (by omega), aeE_e (k := 1) (by omega) (by omega), aeE_e (k := 2) (by omega) (by omega), aeE_e (k := 3) (by omega) (by omega)]
    exact at_set_ne O0 (by omega)
  · rw [nrf_e hk]
    show (if k = w then (if w = u then _ else _) ||| _ else (if k = u then _ else _)) = _
    rw [if_neg (show ¬ w = u by omega)]
    by_cases h1 : k = w
    · subst h1
      rw [if_pos rfl, e1 k hk, nI_or, aeE_w h, nrf_e hk]
    · rw [if_neg h1]
      by_cases h2 : k = u
      · subst h2
        rw [if_pos rfl, e1 k hk, nI_or, aeE_u, nrf_e hk]
      · rw [if_neg h2, e1 k hk, aeE_e (by omega) (by omega), nrf_e hk]
  · rw [e2 k hk]
    refine congrArg nI ?_
    unfold lsf
    exact mks_congr fun v _ => by rw [aeE_e (by omega) (by omega)]
  · rw [e3 k hk]
    refine congrArg nI ?_
    unfold pnf
    exact mks_congr fun v _ => by rw [aeE_e (by omega) (by omega)]
theorem pw4 {C i : Nat} (hC : C ≤ 3) (hi : i ≤ 10) : (C + 1) ^ i ≤ 1048576 := Nat.le_trans (Nat.pow_le_pow_left (show C + 1 ≤ 4 by omega) i) (Nat.le_trans (Nat.pow_le_pow_right (by decide) hi) (by decide))
theorem x_full4 (B : BdH g o num al b lat) (h1 : al 1 ≤ 3) (h9 : al 0 ≤ 9) {K : Int32 → Option Bool} : m_X0_isFull_L4 o g K LF (nI 1) (nI 0) = K (nI ((al 1 + 1) ^ (al 0 + 1))) := by
  refine forN (fun f i s => m_X0_isFull_L4 o g K f (nI s) (nI i)) (al 0 + 1) (fun i => (al 1 + 1) ^ i) _ (fun f i hi e => ?_) (fun f => ?_) LF 0 (Nat.zero_le _) (by unfold LF; omega)
  · have e' : m_X0_isFull_L4 o g K f (nI ((al 1 + 1) ^ (i + 1))) (nI (i + 1)) = _ := e
    show m_X0_isFull_L4 o g K (f + 1) (nI ((al 1 + 1) ^ i)) (nI i) = _
    rw [m_X0_isFull_L4, bd_N B, Option.bind_some, iNlt (by omega) (by omega), if_neg (show ¬ (9 : Int32) < nI i from nI_nlt (b := i) (a := 9) (by omega) (by decide)), bd_C B, Option.bind_some, nI_1, pk_mul]
    simp only [e_nm]
    rw [nI_1, ← Nat.pow_succ]
    exact e'
  · show m_X0_isFull_L4 o g K (f + 1) (nI ((al 1 + 1) ^ (al 0 + 1))) (nI (al 0 + 1)) = _
    rw [m_X0_isFull_L4, bd_N B, Option.bind_some, iLt (by omega) (by omega)]
theorem x_isFull (B : BdH g o num al b lat) (h1 : al 1 ≤ 3) (h9 : al 0 ≤ 9) : m_X0_isFull o g = some (decide (al 0 = 9 ∨ 20000 < (al 1 + 1) ^ (al 0 + 1))) := by
  unfold m_X0_isFull
  have hp := pw4 h1 (show al 0 + 1 ≤ 10 by omega)
  rw [i0, show (1 : Int32) = nI 1 from rfl, x_full4 B h1 h9, bd_N B, Option.bind_some]
  by_cases h2 : al 0 = 9
  · rw [if_pos (show (9 : Int32) ≤ nI (al 0) from nI_le (a := 9) (by omega) (by omega)), decide_eq_true (.inl h2)]
  · rw [if_neg (show ¬ (9 : Int32) ≤ nI (al 0) from nI_ge (b := 9) (by omega) (by decide))]
    by_cases h3 : 20000 < (al 1 + 1) ^ (al 0 + 1)
    · rw [if_neg (show ¬ nI ((al 1 + 1) ^ (al 0 + 1)) ≤ (20000 : Int32) from nI_ge (a := 20000) h3 (by omega)), decide_eq_true (.inr h3)]
    · rw [if_pos (show nI ((al 1 + 1) ^ (al 0 + 1)) ≤ (20000 : Int32) from nI_le (b := 20000) (by omega) (by decide)), decide_eq_false (fun e => e.elim h2 h3)]
theorem x_everyColour (B : BdH g o num al b lat) (h1 : al 1 ≤ 9) : m_X0_everyColour o g = some (nI (2 ^ al 1 - 1)) := by
  unfold m_X0_everyColour
  rw [bd_C B, Option.bind_some, i_all h1]
end DRF
section CNX
variable {v : Nat → Int32} {A : Nat → Nat → Int32} {h : Hp} {al : Nat → Nat}
theorem y_colNext (hz : 31 ≤ h.2.1) (ha : AlF A al) (h1 : al 1 ≤ 3) (h9 : al 0 ≤ 9) : m_X6_colouringsNext 20 (setR v A h) = some (nI ((al 1 + 1) ^ (al 0 + 1))) := by
  unfold m_X6_colouringsNext
  have g0 : aI (setR v A h) 0 21 (nI 0) = some (nI (al 0)) := (r_a0 hz (by decide)).trans (congrArg some (ha 0 (by decide)))
  have g1 : aI (setR v A h) 0 21 (nI 1) = some (nI (al 1)) := (r_a0 hz (by decide)).trans (congrArg some (ha 1 (by decide)))
  refine forN (fun f i s => m_X6_colouringsNext_L4 20 (setR v A h) (fun v4 => some v4) f (nI s) (nI i)) (al 0 + 1) (fun i => (al 1 + 1) ^ i) _ (fun f i hi e => ?_) (fun f => ?_) LF 0 (Nat.zero_le _) (by unfold LF; omega)
  · have e' : m_X6_colouringsNext_L4 20 (setR v A h) _ f (nI ((al 1 + 1) ^ (i + 1))) (nI (i + 1)) = _ := e
    show m_X6_colouringsNext_L4 20 (setR v A h) _ (f + 1) (nI ((al 1 + 1) ^ i)) (nI i) = _
    rw [m_X6_colouringsNext_L4, r_a hz, Option.bind_some, i0, g0, Option.bind_some, iNlt (by omega) (by omega), Option.bind_some, show (1 : Int32) = nI 1 from rfl, g1, Option.bind_some, nI_add, pk_mul]
    simp only [e_nm]
    rw [nI_add, ← Nat.pow_succ]
    exact e'
  · show m_X6_colouringsNext_L4 20 (setR v A h) _ (f + 1) (nI ((al 1 + 1) ^ (al 0 + 1))) (nI (al 0 + 1)) = _
    rw [m_X6_colouringsNext_L4, r_a hz, Option.bind_some, i0, g0, Option.bind_some, iLt (by omega) (by omega)]
end CNX
