/-! both readers at an edge -/
section NUM0
variable {g : Hp} {fB : Nat → Int32} {c : Nat → Nat} {n s hi : Nat} {fl ea er nu m wa : Int32} {v : Nat → Int32} {A : Nat → Nat → Int32} {h : Hp}
theorem x_rNum0 (hL : Lx g fB c n) (hs : s ≤ n) (hN : NuOk c n s nu m) (hh : hi < 1000) : m_X3_readNumber 9 (0 : Int32) (nI hi) (CS fl ea er nu c n s g) = some (if tT c n s = 1 then (if tR c n s ≤ hi then (nI (tR c n s), CS fl ea er (nuC c n (nxk c n s) nu) c n (nxk c n s) g) else ((-1 : Int32), CS fl (nI s) (-3 : Int32) nu c n s g)) else ((-1 : Int32), CS fl (nI s) (-2 : Int32) nu c n s g)) := by
  have := x_rNum (fl := fl) (ea := ea) (er := er) (lo := 0) hL hs hN (by decide) hh
  simp only [Nat.zero_le, true_and] at this
  exact this
theorem y_takes0 (hL : Ly v A h c n) (hs : s ≤ n) (hN : NuOk c n s nu m) (hh : hi < 1000) : m_X6_takes 20 (0 : Int32) (nI hi) (RS v m 0 wa c n s A h) = some (if tT c n s = 1 then (if tR c n s ≤ hi then (nI (tR c n s), RS v (nuR c n (nxk c n s) m) 0 wa c n (nxk c n s) A h) else (0, RS v m (-3 : Int32) (nI s) c n s A h)) else (0, RS v m (-2 : Int32) (nI s) c n s A h)) := by
  have := y_takes (wa := wa) (lo := 0) hL hs hN (by decide) hh
  simp only [Nat.zero_le, true_and] at this
  exact this
end NUM0
def edC10 (x5 : Int32) (h6 : Hp) : Option (Bool × Hp) :=
          (gR h6 3 9 0).bind fun a11 =>
          (gI h6 0 a11 2).bind fun x12 =>
          cv h6 3 9 <| b2 (m_X3_readNumber 9 (0 : Int32) (x12 - (1 : Int32)) h6) fun x13 h14 =>
          if x13 = (-1 : Int32) then
            some (false, h14)
          else
            (gR h14 3 9 0).bind fun a15 =>
            cv h14 0 a15 <| (m_X0_addEdge a15 x5 x13 h14).bind fun h16 =>
            cv h16 3 9 <| b2 (m_X3_readSemicolon 9 h16) fun bb17 h18 =>
            some (bb17, h18)
def edR11 (x4 : Int32) (h10 : Hp) : Option Hp :=
      (gR h10 6 20 0).bind fun a12 =>
      (aI h10 0 a12 (0 : Int32)).bind fun x13 =>
      cv h10 6 20 <| b2 (m_X6_takes 20 (0 : Int32) (x13 - (1 : Int32)) h10) fun x14 h15 =>
      cv h15 6 20 <| (m_X6_mustEnd 20 h15).bind fun h16 =>
      (gI h16 6 20 15).bind fun x17 =>
      if x17 = 0 then
        (gR h16 6 20 0).bind fun a18 =>
        (aI h16 0 a18 ((13 : Int32) + x4)).bind fun x19 =>
        (sI h16 0 a18 ((13 : Int32) + x4) (x19 ||| ((1 : Int32) <<< (x14 &&& 31)))).bind fun h20 =>
        (gR h20 6 20 0).bind fun a21 =>
        (aI h20 0 a21 ((13 : Int32) + x14)).bind fun x22 =>
        (sI h20 0 a21 ((13 : Int32) + x14) (x22 ||| ((1 : Int32) <<< (x4 &&& 31)))).bind fun h23 =>
        some h23
      else
        some h16
def edR8 (x4 : Int32) (h7 : Hp) : Option Hp :=
    (gI h7 6 20 15).bind fun x9 =>
    if x9 = 0 then
      (gI h7 6 20 13).bind fun x25 =>
      if x25 = (1 : Int32) then
        (gI h7 6 20 14).bind fun x26 =>
        (gR h7 6 20 0).bind fun a27 =>
        (aI h7 0 a27 (0 : Int32)).bind fun x28 =>
        if x28 ≤ x26 then
          edR11 x4 h7
        else
          (gI h7 6 20 14).bind fun x29 =>
          cv h7 6 20 <| (m_X6_areNext 20 x4 x29 h7).bind fun bb30 =>
          if bb30 = true then
            cv h7 6 20 <| (m_X6_fails 20 (-4 : Int32) h7).bind fun h31 =>
            edR11 x4 h31
          else
            edR11 x4 h7
      else
        edR11 x4 h7
    else
      edR11 x4 h7
section EDG
variable {fB : Nat → Int32} {c : Nat → Nat} {n s : Nat} {v : Nat → Int32} {h g0 g g' : Hp} {A0 A A' : Nat → Nat → Int32} {al b al' : Nat → Nat} {fl ea er nu wa wr m x4 : Int32} {num : Nat} {lat : Option Nat}
theorem edR11_W (hL : Ly v A h c n) (ha : AlF A al) (hs : s ≤ n) (hw : wr ≠ 0) : edR11 x4 (RS v m wr wa c n s A h) = some (RS v m wr wa c n s A h) := by
  have hz := hL.1
  unfold edR11
  rw [q_a hz, Option.bind_some, q_a00 hz ha, Option.bind_some, q_cv hz, y_takesW hL hw, e_b2, q_cv hz, y_mEndW hL hs hw, Option.bind_some, q_15 hz, Option.bind_some, if_neg hw]
theorem edR8_W (hL : Ly v A h c n) (ha : AlF A al) (hs : s ≤ n) (hw : wr ≠ 0) : edR8 x4 (RS v m wr wa c n s A h) = some (RS v m wr wa c n s A h) := by
  unfold edR8
  rw [q_15 hL.1, Option.bind_some, if_neg hw, edR11_W hL ha hs hw]
/-- the second end of an edge -/
theorem J_ed2 {u s0 : Nat} (P : PIv fB c n v h g0 g A0 A al b) (hR : RawB al b) (hs : s ≤ n) (h0 : s0 ≤ s) (hN : NuOk c n s nu m) (hu : u < al 0) (hne : tT c n s = 1 → tR c n s ≠ u) : JOk fl ea er wa fB c n v h g0 A0 (fun al' b' s' => RawB al' b' ∧ s0 < s' ∧ al' 0 = al 0) (edC10 (nI u) (CS fl ea er nu c n s g)) (edR11 (nI u) (RS v m 0 wa c n s A h)) := by
  have hL := P.1
  have hY := P.2.1
  have W := P.2.2.2.2.2.1
  have ha := P.2.2.2.2.1
  have hz := hL.1
  have hzr := hY.1
  obtain ⟨num, B⟩ := raw_lat P hR
  have h9 := W.1.1
  have ec : ∀ {ρ : Type} {r : Option ρ} {ea er nu : Int32} {s : Nat}, cv (CS fl ea er nu c n s g) 3 9 r = r := fun {ρ} {r} {_ _ _ _} => d_cv hz
  have e0 : ∀ {ea er nu : Int32} {s : Nat}, gR (CS fl ea er nu c n s g) 3 9 0 = some 10 := d_0 hz
  have Bc : ∀ {ea er nu : Int32} {s : Nat}, BdH (CS fl ea er nu c n s g) 10 num al b none := cs_bd B
  have hR5 := tR_lt (c := c) (n := n) (s := s)
  have hn1 := nxk_le (c := c) hs
  have ex : edC10 (nI u) (CS fl ea er nu c n s g) = b2 (m_X3_readNumber 9 (0 : Int32) (nI (al 0 - 1)) (CS fl ea er nu c n s g)) fun x13 h14 =>
          if x13 = (-1 : Int32) then
            some (false, h14)
          else
            (gR h14 3 9 0).bind fun a15 =>
            cv h14 0 a15 <| (m_X0_addEdge a15 (nI u) x13 h14).bind fun h16 =>
            cv h16 3 9 <| b2 (m_X3_readSemicolon 9 h16) fun bb17 h18 =>
            some (bb17, h18) := by
    unfold edC10
    rw [e0, Option.bind_some, bd_N Bc, Option.bind_some, ec, show (1 : Int32) = nI 1 from rfl, pk_sub (by omega)]
  rw [x_rNum0 hL hs hN (by omega)] at ex
  have ey : edR11 (nI u) (RS v m 0 wa c n s A h) = b2 (m_X6_takes 20 (0 : Int32) (nI (al 0 - 1)) (RS v m 0 wa c n s A h)) fun x14 h15 =>
      cv h15 6 20 <| (m_X6_mustEnd 20 h15).bind fun h16 =>
      (gI h16 6 20 15).bind fun x17 =>
      if x17 = 0 then
        (gR h16 6 20 0).bind fun a18 =>
        (aI h16 0 a18 ((13 : Int32) + nI u)).bind fun x19 =>
        (sI h16 0 a18 ((13 : Int32) + nI u) (x19 ||| ((1 : Int32) <<< (x14 &&& 31)))).bind fun h20 =>
        (gR h20 6 20 0).bind fun a21 =>
        (aI h20 0 a21 ((13 : Int32) + x14)).bind fun x22 =>
        (sI h20 0 a21 ((13 : Int32) + x14) (x22 ||| ((1 : Int32) <<< (nI u &&& 31)))).bind fun h23 =>
        some h23
      else
        some h16 := by
    unfold edR11
    rw [q_a hzr, Option.bind_some, q_a00 hzr ha, Option.bind_some, q_cv hzr, show (1 : Int32) = nI 1 from rfl, pk_sub (by omega)]
  rw [y_takes0 hY hs hN (by omega)] at ey
  by_cases hT : tT c n s = 1
  · rw [if_pos hT] at ex ey
    by_cases hr : tR c n s ≤ al 0 - 1
    · rw [if_pos hr] at ex ey
      have hne' := hne hT
      have hlt := nxk_lt (c := c) (n := n) (s := s) (by omega)
      generalize hw : tR c n s = w at hr hne' ex ey
      generalize hs1 : nxk c n s = s1 at hn1 hlt ex ey
      generalize hnu : nuC c n s1 nu = nu1 at ex
      generalize hm : nuR c n s1 m = m1 at ey
      have B' := cs_bd (fl := fl) (ea := ea) (er := er) (nu := nu1) (c := c) (n := n) (s := s1) B
      obtain ⟨g', e, B2, F⟩ := x_addEdge (u := u) (w := w) B' (by omega) (by omega) (fun e => hne' e.symm)
      have hb := cs_back hz F
      have hL' := Lx_fr hL F
      have ec' : ∀ {ρ : Type} {r : Option ρ}, cv g' 3 9 r = r := fun {ρ} {r} => by
        rw [← hb]
        exact d_cv hL'.1
      have es : m_X3_readSemicolon 9 g' = _ := (congrArg (m_X3_readSemicolon 9) hb.symm).trans (x_rSemi hL' hn1.2)
      rw [e_b2, if_neg (nI_nm1 (by omega)), e0, Option.bind_some, bd_cv Bc, e, Option.bind_some, ec', es] at ex
      rw [e_b2, q_cv hzr, y_mEnd hY hn1.2, Option.bind_some] at ey
      have hA' : ∀ j, j ≠ 0 → updA (updA A 0 (13 + u) (nI (al (13 + u) ||| 2 ^ w))) 0 (13 + w) (nI (al (13 + w) ||| 2 ^ u)) j = A j := fun j hj => by
        show (if j = 0 then _ else if j = 0 then _ else A j) = A j
        rw [if_neg hj, if_neg hj]
      have hal' : AlF (updA (updA A 0 (13 + u) (nI (al (13 + u) ||| 2 ^ w))) 0 (13 + w) (nI (al (13 + w) ||| 2 ^ u))) (aeE al u w) := fun k hk => by
        show (if k = 13 + w then _ else if k = 13 + u then _ else A 0 k) = nI (if k = 13 + u then _ else if k = 13 + w then _ else al k)
        by_cases h1 : k = 13 + w
        · rw [if_pos h1, if_neg (by omega), if_pos h1, h1]
        · rw [if_neg h1]
          by_cases h2 : k = 13 + u
          · rw [if_pos h2, if_pos h2, h2]
          · rw [if_neg h2, if_neg h2, if_neg h1, ha k hk]
      obtain ⟨P', hR'⟩ := PIv_raw P hR F B2 (Rg_ae W.1 hu (by omega) (fun e => hne' e.symm)) (by rw [aeE_e (by omega) (by omega)]; exact hR.1) (fun x hx => by rw [aeE_e (by omega) (by omega), aeE_e (by omega) (by omega)]; exact hR.2.1 x hx) (by rw [aeE_e (by omega) (by omega)]; exact W.2.1.2.1) (by rw [aeE_e (k := 0) (by omega) (by omega), aeE_e (by omega) (by omega)]; exact W.2.1.1) hA' hal'
      by_cases h2 : tT c n s1 = 2 ∧ c s1 = 59
      · have a1 : ∀ {m wr wa : Int32} {s : Nat}, aI (RS v m wr wa c n s A h) 0 21 (nI (13 + u)) = some (nI (al (13 + u))) := (q_a0 hzr (by omega)).trans (congrArg some (ha (13 + u) (by omega)))
        have a2 : ∀ {m wr wa : Int32} {s : Nat} {x : Int32}, aI (RS v m wr wa c n s (updA A 0 (13 + u) x) h) 0 21 (nI (13 + w)) = some (nI (al (13 + w))) := (q_a0 hzr (by omega)).trans (congrArg some (by
          show (if 13 + w = 13 + u then _ else A 0 (13 + w)) = _
          rw [if_neg (by omega), ha (13 + w) (by omega)]))
        rw [if_pos h2, e_b2] at ex
        rw [if_pos h2, q_15 hzr, Option.bind_some, if_pos rfl, q_a hzr, Option.bind_some, i13, nI_add, a1, Option.bind_some, nI_sh (by omega), nI_or, q_s0 hzr (by omega), Option.bind_some, q_a hzr, Option.bind_some, nI_add, a2, Option.bind_some, nI_sh (by omega), nI_or, q_s0 hzr (by omega), Option.bind_some] at ey
        have hx := nxk_lt (c := c) (n := n) (s := s1) (by omega)
        exact .inl ⟨_, _, g', _, _, b, _, ex, ey, NuOk_n, (nxk_le hn1.2).2, P', hR', by omega, aeE_e (by omega) (by omega)⟩
      · rw [if_neg h2, e_b2] at ex
        rw [if_neg h2, q_15 hzr, Option.bind_some, if_neg (by decide)] at ey
        refine .inr ⟨_, _, _, g', A, s1, ex, ey, by decide, hn1.2, ?_, BdH_S B2, P.2.2.2.2.2.2.2.2.2⟩
        have F0 := P'.2.2.2.2.2.2.2.1
        rw [hR'.1] at F0
        exact Fr_mono F0 (fun _ e => e) (by omega) (by omega)
    · rw [if_neg hr] at ex ey
      rw [e_b2, if_pos rfl] at ex
      rw [e_b2, q_cv hzr, y_mEndW hY hs (by decide), Option.bind_some, q_15 hzr, Option.bind_some, if_neg (by decide)] at ey
      rw [ex, ey]
      exact .inr (JF_mk P hs (by decide))
  · rw [if_neg hT] at ex ey
    rw [e_b2, if_pos rfl] at ex
    rw [e_b2, q_cv hzr, y_mEndW hY hs (by decide), Option.bind_some, q_15 hzr, Option.bind_some, if_neg (by decide)] at ey
    rw [ex, ey]
    exact .inr (JF_mk P hs (by decide))
theorem J_edge (P : PIv fB c n v h g0 g A0 A al b) (hR : RawB al b) (hs : s ≤ n) (hw : wd c n s 3 = true) (hN0 : 1 ≤ al 0) : JOk fl ea er wa fB c n v h g0 A0 (fun al' b' s' => RawB al' b' ∧ s < s' ∧ al' 0 = al 0) (m_X3_readEdge 9 (CS fl ea er nu c n s g)) (m_X6_readsEdge 20 (RS v m 0 wa c n s A h)) := by
  have hL := P.1
  have hY := P.2.1
  have W := P.2.2.2.2.2.1
  have ha := P.2.2.2.2.1
  have hz := hL.1
  have hzr := hY.1
  obtain ⟨num, B⟩ := raw_lat P hR
  have h9 := W.1.1
  have ec : ∀ {ρ : Type} {r : Option ρ} {ea er nu : Int32} {s : Nat}, cv (CS fl ea er nu c n s g) 3 9 r = r := fun {ρ} {r} {_ _ _ _} => d_cv hz
  have e0 : ∀ {ea er nu : Int32} {s : Nat}, gR (CS fl ea er nu c n s g) 3 9 0 = some 10 := d_0 hz
  have e6 : ∀ {ea er nu : Int32} {s : Nat}, gI (CS fl ea er nu c n s g) 3 9 6 = some (nI (ckd c n s)) := d_6 hz
  have e9 : ∀ {ea er nu : Int32} {s : Nat}, gI (CS fl ea er nu c n s g) 3 9 9 = some nu := d_9 hz
  have Bc : ∀ {ea er nu : Int32} {s : Nat}, BdH (CS fl ea er nu c n s g) 10 num al b none := cs_bd B
  have hn := nxk_le (c := c) hs
  have hT : tT c n s = 0 := by
    unfold wd at hw
    rw [Bool.and_eq_true] at hw
    exact of_decide_eq_true hw.1
  have hlt := nxk_lt (c := c) (n := n) (s := s) (by omega)
  have hN1 : NuOk c n (nxk c n s) (nuC c n (nxk c n s) nu) (nuR c n (nxk c n s) m) := NuOk_n
  have exA : m_X3_readWord 9 3 (CS fl ea er nu c n s g) = some (true, CS fl ea er (nuC c n (nxk c n s) nu) c n (nxk c n s) g) := by
    rw [x_rWord hL hs (by decide), if_pos hw]
  have eyA := y_must (m := m) (wa := wa) hY hs
  generalize nxk c n s = s1 at hn hlt hN1 exA eyA
  generalize nuC c n s1 nu = nu1 at hN1 exA
  generalize nuR c n s1 m = m1 at hN1 eyA
  have hn2 := nxk_le (c := c) hn.2
  have hN2 : NuOk c n (nxk c n s1) (nuC c n (nxk c n s1) nu1) (nuR c n (nxk c n s1) m1) := NuOk_n
  have exB := x_rNum0 (fl := fl) (ea := ea) (er := er) (hi := al 0 - 1) hL hn.2 hN1 (by omega)
  have eyB := y_takes0 (wa := wa) (hi := al 0 - 1) hY hn.2 hN1 (by omega)
  by_cases hT1 : tT c n s1 = 1 ∧ tR c n s1 ≤ al 0 - 1
  · rw [if_pos hT1.1, if_pos hT1.2] at exB eyB
    generalize hs2 : nxk c n s1 = s2 at hn2 hN2 exB eyB
    generalize nuC c n s2 nu1 = nu2 at hN2 exB
    generalize nuR c n s2 m1 = m2 at hN2 eyB
    have hu := hT1.2
    generalize tR c n s1 = u at hu exB eyB
    have hk := ckd_T (c := c) (n := n) (s := s2)
    have hR5 := tR_lt (c := c) (n := n) (s := s2)
    have hnr := nrf_lt W.1 (v := u) (by omega)
    have hrow := W.1.2.2.2.2.2.1
    have hbit : ∀ r, (nrf al u).testBit r = true → r < al 0 := fun r e => by
      rw [nrf_e (by omega)] at e
      exact (hrow u r (by omega) e).1
    -- the class and the reference where the second number stands
    have ex : m_X3_readEdge 9 (CS fl ea er nu c n s g) = if tT c n s2 = 1 then (if tR c n s2 = u then some (false, CS fl (nI s2) (-3 : Int32) nu2 c n s2 g) else if (nrf al u).testBit (tR c n s2) = true then some (false, CS fl (nI s2) (-4 : Int32) nu2 c n s2 g) else edC10 (nI u) (CS fl ea er nu2 c n s2 g)) else edC10 (nI u) (CS fl ea er nu2 c n s2 g) := by
      unfold m_X3_readEdge
      simp only [e_jK]
      rw [ec, exA, e_b2, if_pos rfl, e0, Option.bind_some, bd_N Bc, Option.bind_some, ec, show nI (al 0) - (1 : Int32) = nI (al 0 - 1) from pk_sub (a := al 0) (b := 1) hN0, exB, e_b2, if_neg (nI_nm1 (by omega)), e6, Option.bind_some]
      by_cases hT2 : tT c n s2 = 1
      · have e2k : nI (ckd c n s2) = (2 : Int32) := by rw [hk.2.1.mpr hT2]; rfl
        rw [if_pos hT2, if_pos e2k, e9.trans (congrArg some (hN2 hT2).1), Option.bind_some]
        by_cases hq : tR c n s2 = u
        · rw [if_pos hq, if_pos (show nI (min (tR c n s2) 1000) = nI u by rw [hq, show min u 1000 = u by omega]), ec, x_fail hL, e_b2]
        · rw [if_neg hq, iNe (show min (tR c n s2) 1000 ≠ u by omega) (by omega) (by omega), Option.bind_some, if_pos e2k, e0, Option.bind_some, bd_cv Bc, x_nb Bc (by omega), Option.bind_some, Option.bind_some]
          have eh : m_X5_has (nI (nrf al u)) (nI (min (tR c n s2) 1000)) = some ((nrf al u).testBit (tR c n s2)) := by
            by_cases h30 : tR c n s2 < 31
            · rw [show min (tR c n s2) 1000 = tR c n s2 by omega, m_has h30]
            · rw [tb_ge (n := 9) hnr (show 9 ≤ tR c n s2 by omega)]
              by_cases h31 : tR c n s2 = 31
              · rw [h31]
                unfold m_X5_has
                rw [show min 31 1000 = 31 from rfl, iNeg (by decide), if_neg (by decide)]
                have : ∀ x, x < 512 → (nI x &&& (1 : Int32) <<< (nI 31 &&& 31)) = 0 := by decide +kernel
                rw [if_pos (this _ hnr)]
              · unfold m_X5_has
                rw [iNeg (by omega), if_pos (show (32 : Int32) ≤ nI (min (tR c n s2) 1000) from nI_le (a := 32) (by omega) (by omega))]
          rw [eh, Option.bind_some]
          by_cases hb : (nrf al u).testBit (tR c n s2) = true
          · rw [if_pos hb, if_pos hb, ec, x_fail hL, e_b2]
          · rw [if_neg hb, if_neg hb]
            unfold edC10
            rw [e0, Option.bind_some]
      · have e2k : ¬ nI (ckd c n s2) = (2 : Int32) := nI_neL (x := (2 : Int32)) (b := 2) (by omega) (by decide) rfl (fun e => hT2 (hk.2.1.mp e))
        rw [if_neg hT2, if_neg e2k, Option.bind_some, if_neg e2k]
        unfold edC10
        rw [e0, Option.bind_some]
    have ey : m_X6_readsEdge 20 (RS v m 0 wa c n s A h) = if tT c n s2 = 1 then (if tR c n s2 = u then some (RS v m2 (-3 : Int32) (nI s2) c n s2 A h) else if (nrf al u).testBit (tR c n s2) = true then some (RS v m2 (-4 : Int32) (nI s2) c n s2 A h) else edR11 (nI u) (RS v m2 0 wa c n s2 A h)) else edR11 (nI u) (RS v m2 0 wa c n s2 A h) := by
      have e8 : m_X6_readsEdge 20 (RS v m 0 wa c n s A h) = if tT c n s2 = 1 ∧ tR c n s2 = u then edR8 (nI u) (RS v m2 (-3 : Int32) (nI s2) c n s2 A h) else edR8 (nI u) (RS v m2 0 wa c n s2 A h) := by
        unfold m_X6_readsEdge
        simp only [e_jK]
        rw [q_cv hzr, eyA, Option.bind_some, q_a hzr, Option.bind_some, q_a00 hzr ha, Option.bind_some, q_cv hzr, show nI (al 0) - (1 : Int32) = nI (al 0 - 1) from pk_sub (a := al 0) (b := 1) hN0, eyB, e_b2, q_15 hzr, Option.bind_some, if_pos rfl, q_13 hzr, Option.bind_some]
        by_cases hT2 : tT c n s2 = 1
        · rw [if_pos (show nI (tT c n s2) = (1 : Int32) by rw [hT2]; rfl), (q_14 hzr).trans (congrArg some (hN2 hT2).2), Option.bind_some]
          by_cases hq : tR c n s2 = u
          · rw [if_pos (show nI (tR c n s2) = nI u by rw [hq]), if_pos ⟨hT2, hq⟩, q_cv hzr, y_fails hzr, Option.bind_some]
            rfl
          · rw [iNe hq (by omega) (by omega), if_neg (fun e => hq e.2)]
            unfold edR8
            rw [q_15 hzr, q_13 hzr, (q_14 hzr).trans (congrArg some (hN2 hT2).2)]
            rfl
        · rw [if_neg (nI_neL (x := (1 : Int32)) (b := 1) (by omega) (by decide) rfl hT2), if_neg (fun e => hT2 e.1)]
          unfold edR8
          rw [q_15 hzr, q_13 hzr]
          rfl
      rw [e8]
      by_cases hT2 : tT c n s2 = 1
      · rw [if_pos hT2]
        by_cases hq : tR c n s2 = u
        · rw [if_pos hq, if_pos ⟨hT2, hq⟩, edR8_W hY ha hn2.2 (by decide)]
        · rw [if_neg hq, if_neg (fun e => hq e.2)]
          unfold edR8
          rw [q_15 hzr, Option.bind_some, if_pos rfl, q_13 hzr, Option.bind_some, if_pos (show nI (tT c n s2) = (1 : Int32) by rw [hT2]; rfl), (q_14 hzr).trans (congrArg some (hN2 hT2).2), Option.bind_some, q_a hzr, Option.bind_some, q_a00 hzr ha, Option.bind_some]
          by_cases hge : al 0 ≤ tR c n s2
          · rw [iLe hge (by omega), if_neg (fun e => absurd (hbit _ e) (by omega))]
          · rw [iNle (by omega) (by omega), Option.bind_some, q_cv hzr, show m_X6_areNext 20 (nI u) (nI (tR c n s2)) (RS v m2 0 wa c n s2 A h) = _ from y_areNext hzr (AlF_al ha) W.1 (by omega) (by omega), Option.bind_some]
            by_cases hb : (nrf al u).testBit (tR c n s2) = true
            · rw [if_pos hb, if_pos hb, q_cv hzr, y_fails hzr, Option.bind_some, edR11_W hY ha hn2.2 (by decide)]
            · rw [if_neg hb, if_neg hb]
      · rw [if_neg hT2, if_neg (fun e => hT2 e.1)]
        unfold edR8
        rw [q_15 hzr, Option.bind_some, if_pos rfl, q_13 hzr, Option.bind_some, if_neg (nI_neL (x := (1 : Int32)) (b := 1) (by omega) (by decide) rfl hT2)]
    have fin : ∀ (hne : tT c n s2 = 1 → tR c n s2 ≠ u), JOk fl ea er wa fB c n v h g0 A0 (fun al' b' s' => RawB al' b' ∧ s < s' ∧ al' 0 = al 0) (edC10 (nI u) (CS fl ea er nu2 c n s2 g)) (edR11 (nI u) (RS v m2 0 wa c n s2 A h)) := fun hne => J_ed2 P hR hn2.2 (by omega) hN2 (by omega) hne
    rw [ex, ey]
    by_cases hT2 : tT c n s2 = 1
    · rw [if_pos hT2, if_pos hT2]
      by_cases hq : tR c n s2 = u
      · rw [if_pos hq, if_pos hq]
        exact .inr (JF_mk P hn2.2 (by decide))
      · rw [if_neg hq, if_neg hq]
        by_cases hb : (nrf al u).testBit (tR c n s2) = true
        · rw [if_pos hb, if_pos hb]
          exact .inr (JF_mk P hn2.2 (by decide))
        · rw [if_neg hb, if_neg hb]
          exact fin fun _ => hq
    · rw [if_neg hT2, if_neg hT2]
      exact fin fun e => absurd e hT2
  · obtain ⟨code, hc0, exB', eyB'⟩ : ∃ code : Int32, code ≠ 0 ∧ m_X3_readNumber 9 (0 : Int32) (nI (al 0 - 1)) (CS fl ea er nu1 c n s1 g) = some ((-1 : Int32), CS fl (nI s1) code nu1 c n s1 g) ∧ m_X6_takes 20 (0 : Int32) (nI (al 0 - 1)) (RS v m1 0 wa c n s1 A h) = some (0, RS v m1 code (nI s1) c n s1 A h) := by
      by_cases h1 : tT c n s1 = 1
      · rw [if_pos h1, if_neg (fun e => hT1 ⟨h1, e⟩)] at exB eyB
        exact ⟨_, by decide, exB, eyB⟩
      · rw [if_neg h1] at exB eyB
        exact ⟨_, by decide, exB, eyB⟩
    have ex : m_X3_readEdge 9 (CS fl ea er nu c n s g) = some (false, CS fl (nI s1) code nu1 c n s1 g) := by
      unfold m_X3_readEdge
      simp only [e_jK]
      rw [ec, exA, e_b2, if_pos rfl, e0, Option.bind_some, bd_N Bc, Option.bind_some, ec, show nI (al 0) - (1 : Int32) = nI (al 0 - 1) from pk_sub (a := al 0) (b := 1) hN0, exB', e_b2, if_pos rfl]
    have ey : m_X6_readsEdge 20 (RS v m 0 wa c n s A h) = edR8 0 (RS v m1 code (nI s1) c n s1 A h) := by
      unfold m_X6_readsEdge
      simp only [e_jK]
      rw [q_cv hzr, eyA, Option.bind_some, q_a hzr, Option.bind_some, q_a00 hzr ha, Option.bind_some, q_cv hzr, show nI (al 0) - (1 : Int32) = nI (al 0 - 1) from pk_sub (a := al 0) (b := 1) hN0, eyB', e_b2, q_15 hzr, Option.bind_some, if_neg hc0]
      unfold edR8
      rw [q_15 hzr]
      rfl
    rw [ex, ey, edR8_W hY ha hn.2 hc0]
    exact .inr (JF_mk P hn.2 hc0)
end EDG
