/-! the class's answers for sets of parts, behind a lay, and without a vertex -/
/-- one ban in each part -/
def Ub (al : Nat → Nat) : Prop := ∀ u w, (fre al).testBit u = true → (rch (nrf al) (fre al) (2 ^ u)).testBit w = true → al (31 + w) = al (31 + u)
section BD
variable {h : Hp} {o num : Nat} {al b : Nat → Nat} {lat : Option Nat}
theorem x_ban (B : BdH h o num al b lat) {set : Nat} (hset : set < 512) : m_X0_banOf o (nI set) h = some (if b 0 &&& set = 0 then (if b 1 &&& set = 0 then (if b 2 &&& set = 0 then (-1 : Int32) else nI 2) else nI 1) else nI 0) := by
  have hl : ∀ c, b c &&& set < 2 ^ 31 := fun c => Nat.lt_of_le_of_lt Nat.and_le_right (by omega)
  have hA : aN h 0 (o + 4) = some (nI 3) := ar_n B.2.2.2.2
  unfold m_X0_banOf
  rw [show LF = 999996 + 4 from rfl, show (0 : Int32) = nI 0 from rfl]
  rw [m_X0_banOf_L2, bd_10 B, Option.bind_some, hA, Option.bind_some, iNle (by decide) (by decide), Option.bind_some, bd_b B (by decide), Option.bind_some, nI_and, iZ (hl 0)]
  by_cases h0 : b 0 &&& set = 0
  · rw [if_pos h0, if_pos h0]
    simp only [e_nm]
    rw [nI_1, m_X0_banOf_L2, bd_10 B, Option.bind_some, hA, Option.bind_some, iNle (by decide) (by decide), Option.bind_some, bd_b B (by decide), Option.bind_some, nI_and, iZ (hl _)]
    by_cases h1 : b (0 + 1) &&& set = 0
    · rw [if_pos h1, if_pos h1]
      simp only [e_nm]
      rw [nI_1, m_X0_banOf_L2, bd_10 B, Option.bind_some, hA, Option.bind_some, iNle (by decide) (by decide), Option.bind_some, bd_b B (by decide), Option.bind_some, nI_and, iZ (hl _)]
      by_cases h2 : b (0 + 1 + 1) &&& set = 0
      · rw [if_pos h2, if_pos h2]
        simp only [e_nm]
        rw [nI_1, m_X0_banOf_L2, bd_10 B, Option.bind_some, hA, Option.bind_some, iLe (by decide) (by decide)]
      · rw [if_neg h2, if_neg h2]
    · rw [if_neg h1, if_neg h1]
  · rw [if_neg h0, if_neg h0]
theorem x_banP (B : BdH h o num al b lat) (hk : Bk al b) {set u : Nat} (hset : set < 512) (hs : ∀ i, set.testBit i = true → (fre al).testBit i = true) (hu : set.testBit u = true) (hun : ∀ i, set.testBit i = true → al (31 + i) = al (31 + u)) (hr : al (31 + u) ≤ 3) : m_X0_banOf o (nI set) h = some (nI (al (31 + u)) - 1) := by
  have e := bnn_ok hk hs hu hun hr
  unfold bnn at e
  rw [x_ban B hset]
  generalize al (31 + u) = t at e hr
  have ht : t = 0 ∨ t = 1 ∨ t = 2 ∨ t = 3 := by omega
  by_cases h0 : b 0 &&& set = 0
  · rw [if_pos h0] at e ⊢
    by_cases h1 : b 1 &&& set = 0
    · rw [if_pos h1] at e ⊢
      by_cases h2 : b 2 &&& set = 0
      · rw [if_pos h2] at e ⊢
        rcases ht with rfl | rfl | rfl | rfl <;> first | exact absurd e (by decide) | decide +kernel
      · rw [if_neg h2] at e ⊢
        rcases ht with rfl | rfl | rfl | rfl <;> first | exact absurd e (by decide) | decide +kernel
    · rw [if_neg h1] at e ⊢
      rcases ht with rfl | rfl | rfl | rfl <;> first | exact absurd e (by decide) | decide +kernel
  · rw [if_neg h0] at e ⊢
    rcases ht with rfl | rfl | rfl | rfl <;> first | exact absurd e (by decide) | decide +kernel
theorem dif_mks {X i : Nat} {p : Nat → Bool} : dif X (mks (i + 1) p) = if p i = true then dif (dif X (mks i p)) (2 ^ i) else dif X (mks i p) := by
  rw [mks, dif_or]
  cases p i
  · rw [if_neg (by decide), if_neg (by decide), dif_0]
  · rw [if_pos rfl, if_pos rfl]
theorem x_openTo (B : BdH h o num al b lat) (R : Rg al) {c : Nat} (hc : c < 3) : m_X0_openTo o (nI c) h = some (nI (dif (lsf al c &&& fre al) (mks 9 (fun v => !(nrf al v &&& pnf al c == 0))))) := by
  unfold m_X0_openTo
  rw [bd_8 B, Option.bind_some, ar_at B.2.2.1 hc (by decide), Option.bind_some, bd_f B, Option.bind_some]
  simp only [e_nm]
  rw [nI_and]
  have hX : lsf al c &&& fre al < 512 := and_l9 lsf_lt
  have key := forN (fun f i s => m_X0_openTo_L16 o (nI c) h (fun v9 => some v9) f (nI s) (nI i)) 9 (fun i => dif (lsf al c &&& fre al) (mks i (fun v => !(nrf al v &&& pnf al c == 0)))) (some (nI (dif (lsf al c &&& fre al) (mks 9 (fun v => !(nrf al v &&& pnf al c == 0)))))) (fun f i hi e => ?_) (fun f => ?_) LF 0 (by decide) (by decide)
  · have key' : m_X0_openTo_L16 o (nI c) h (fun v9 => some v9) LF (nI (dif (lsf al c &&& fre al) 0)) (nI 0) = _ := key
    rw [dif_0] at key'
    exact key'
  · show m_X0_openTo_L16 o (nI c) h (fun v9 => some v9) (f + 1) (nI (dif (lsf al c &&& fre al) (mks i (fun v => !(nrf al v &&& pnf al c == 0))))) (nI i) = _
    have e' : m_X0_openTo_L16 o (nI c) h (fun v9 => some v9) f (nI (dif (lsf al c &&& fre al) (mks (i + 1) (fun v => !(nrf al v &&& pnf al c == 0))))) (nI (i + 1)) = _ := e
    have hd : dif (lsf al c &&& fre al) (mks i (fun v => !(nrf al v &&& pnf al c == 0))) < 512 := dif_l9 hX
    rw [m_X0_openTo_L16, bd_7 B, Option.bind_some, bd_n7 B, Option.bind_some, iNle hi (by decide), Option.bind_some, bd_nr B hi, Option.bind_some, bd_9 B, Option.bind_some, ar_at B.2.2.2.1 hc (by decide), Option.bind_some]
    simp only [e_jK, e_nm]
    rw [nI_and, iZ (Nat.lt_trans (and_l9 (nrf_lt R hi)) (by decide)), nI_sh (by omega), nI_dif (by omega), nI_1, ← e', dif_mks]
    by_cases h0 : nrf al i &&& pnf al c = 0
    · rw [if_pos h0, h0, if_neg (by decide)]
    · rw [if_neg h0, if_pos (by rw [beq_eq_false_iff_ne.mpr h0]; rfl)]
  · show m_X0_openTo_L16 o (nI c) h (fun v9 => some v9) (f + 1) _ (nI 9) = _
    rw [m_X0_openTo_L16, bd_7 B, Option.bind_some, bd_n7 B, Option.bind_some, iLe (Nat.le_refl _) (by decide)]
end BD
theorem opn_opf {al : Nat → Nat} {p c : Nat} (hp : p < 512) (hs : ∀ i, p.testBit i = true → (fre al).testBit i = true) (hc : c < 3) : dif (lsf al c &&& fre al) (mks 9 (fun v => !(nrf al v &&& pnf al c == 0))) &&& p = opf al p c := bit_eq fun i => by
  rw [opf_tb hp, Nat.testBit_and, tb_dif, Nat.testBit_and, tb_mks]
  constructor
  · intro hh
    rw [Bool.and_eq_true, Bool.and_eq_true, Bool.and_eq_true, Bool.not_eq_true'] at hh
    obtain ⟨⟨⟨h1, h2⟩, h3⟩, h4⟩ := hh
    have hi := bit_lt hp h4
    rw [lsf_tb hi] at h1
    refine ⟨h4, h1, ?_⟩
    unfold arn
    rw [tb_mks, decide_eq_true hc, Bool.true_and]
    rw [decide_eq_true hi, Bool.true_and] at h3
    exact h3
  · rintro ⟨h4, h1, h3⟩
    have hi := bit_lt hp h4
    unfold arn at h3
    rw [tb_mks, decide_eq_true hc, Bool.true_and] at h3
    rw [lsf_tb hi, h1, hs i h4, h4, h3, Bool.and_false]
    rfl
theorem Okp_opf {al : Nat → Nat} {p : Nat} (R : Rg al) (hp : p < 512) : Okp p (opf al p) := ⟨hp, fun c => ⟨fun i hi => ((opf_tb hp).mp hi).1, fun hc => bit_eq fun i => by
  rw [opf_tb hp, Nat.zero_testBit]
  refine ⟨fun ⟨a, b, _⟩ => ?_, fun e => by cases e⟩
  have := R.2.2.2.2.2.2.2 i (bit_lt hp a) c b
  have := R.2.1
  omega⟩⟩
/-- a part that the solver is asked for: free, with one ban -/
def Ptb (al : Nat → Nat) (p : Nat) : Prop := p < 512 ∧ p ≠ 0 ∧ (∀ i, p.testBit i = true → (fre al).testBit i = true) ∧ ∀ i, p.testBit i = true → al (31 + i) = al (31 + lo p)
theorem Ptb_rch {al : Nat → Nat} (R : Rg al) (U : Ub al) {u : Nat} (hu : (fre al).testBit u = true) : Ptb al (rch (nrf al) (fre al) (2 ^ u)) := by
  have hf := fre_lt R
  have hlt : rch (nrf al) (fre al) (2 ^ u) < 512 := rch_lt hf
  have hne : rch (nrf al) (fre al) (2 ^ u) ≠ 0 := ne_0.mpr ⟨u, rch_self hf hu⟩
  have hl := lo_ok hlt hne
  exact ⟨hlt, hne, (rch_cl hf).2.1, fun i hi => (U u i hu hi).trans (U u _ hu hl.2).symm⟩
/-- a part of a closed set of free vertices is one of the board -/
theorem prt_of {al : Nat → Nat} (R : Rg al) {s j : Nat} (hs : Cs (nrf al) (fre al) s) (hlt : s < 512) (hj : rst (nrf al) s j ≠ 0) : (fre al).testBit (lo (rst (nrf al) s j)) = true ∧ prt (nrf al) s j = rch (nrf al) (fre al) (2 ^ lo (rst (nrf al) s j)) := by
  obtain ⟨p1, p2, p3⟩ := prt_in (sy_Rg R) hlt hj
  refine ⟨hs.1 _ p3, rch_sub (fre_lt R) hs fun i hi => ?_⟩
  rw [tb_pow] at hi
  cases of_decide_eq_true hi
  exact p3
section SV
variable {g : Hp} {P : Nat → Int64} {Q : Nat → Int32} {num L : Nat} {al bn : Nat → Nat} {lat : Option Nat} {Gn : Nat → Nat → Nat}
theorem x_placeOf (S : Slv g num al bn lat L Gn) (hk : Bk al bn) {p : Nat} (hp : Ptb al p) : m_X4_placeOf 1 (nI p) (wC g P Q) = some (lN (E5 num (al (31 + lo p)) (opf al p 2) (opf al p 1) (opf al p 0) p)) := by
  obtain ⟨hz, S6, B, R, hnL, hL, hG⟩ := id S
  obtain ⟨hp9, hp0, hps, hpb⟩ := hp
  have hl := lo_ok hp9 hp0
  have hr := (R.2.2.2.2.1 (lo p) hl.1).2.2.2
  have hO := Okp_opf R hp9
  generalize al (31 + lo p) = bb at hr hpb ⊢
  have hb : m_X0_banOf 2 (nI p) (wC g P Q) = some (nI bb - 1) := by
    have := x_banP (w_Bd (P := P) (Q := Q) B) hk hp9 hps hl.2 (fun i hi => (hpb i hi).trans (hpb _ hl.2).symm) (by rw [hpb _ hl.2]; exact hr)
    rw [hpb _ hl.2] at this
    exact this
  unfold m_X4_placeOf
  rw [s_b S, Option.bind_some, bd_num (w_Bd B), Option.bind_some, Option.bind_some, bd_cv (w_Bd B), hb, Option.bind_some]
  simp only [e_nm]
  have e1 : jlshl (Int32.toInt64 (nI num)) (38 : Int32) = lN (E5 num 0 0 0 0 0) := by
    rw [nI_l (by omega), show (38 : Int32) = nI 38 from rfl, l_shl (by decide) (by omega)]
    congr 1
    unfold E5
    omega
  have e2 : jlshl (Int32.toInt64 (nI bb - 1 + (1 : Int32))) (36 : Int32) = lN (E5 0 bb 0 0 0 0) := by
    rw [Int32.sub_add_cancel, nI_l (by omega), i36, l_shl (by decide) (by omega)]
    congr 1
    unfold E5
    omega
  have e3 : Int32.toInt64 (nI p) = lN (E5 0 0 0 0 0 p) := by
    rw [nI_l (by omega)]
    congr 1
    unfold E5
    omega
  rw [e1, e2, e3, lN_or, E5_or ⟨by decide, by decide, by decide, by decide, by decide⟩ ⟨by omega, by decide, by decide, by decide, by decide⟩]
  simp only [Nat.or_zero, Nat.zero_or]
  rw [lN_or, E5_or ⟨by omega, by decide, by decide, by decide, by decide⟩ ⟨by decide, by decide, by decide, by decide, hp9⟩]
  simp only [Nat.or_zero, Nat.zero_or]
  have hlt := Okp_lt hO
  have key := forN (fun f i s => m_X4_placeOf_L33 1 (nI p) (wC g P Q) (fun v10 => some v10) f (lN s) (nI i)) 3 (fun i => E5 num bb (if 2 < i then opf al p 2 else 0) (if 1 < i then opf al p 1 else 0) (if 0 < i then opf al p 0 else 0) p) (some (lN (E5 num bb (opf al p 2) (opf al p 1) (opf al p 0) p))) (fun f i hi e => ?_) (fun f => ?_) LF 0 (by decide) (by decide)
  · exact key
  · have e' : m_X4_placeOf_L33 1 (nI p) (wC g P Q) (fun v10 => some v10) f (lN (E5 num bb (if 2 < i + 1 then opf al p 2 else 0) (if 1 < i + 1 then opf al p 1 else 0) (if 0 < i + 1 then opf al p 0 else 0) p)) (nI (i + 1)) = _ := e
    show m_X4_placeOf_L33 1 (nI p) (wC g P Q) (fun v10 => some v10) (f + 1) (lN (E5 num bb (if 2 < i then opf al p 2 else 0) (if 1 < i then opf al p 1 else 0) (if 0 < i then opf al p 0 else 0) p)) (nI i) = _
    rw [m_X4_placeOf_L33, i3, iNle hi (by decide), s_b S, Option.bind_some, bd_cv (w_Bd B), x_openTo (w_Bd B) R hi, Option.bind_some]
    simp only [m_X4_setShift, Option.bind_some, e_nm]
    rw [nI_and, opn_opf hp9 hps hi, nI_1, i9, pk_mul, nI_l (by have := hlt i; omega), ← e']
    have h0 := hlt 0
    have h1 := hlt 1
    have h2 := hlt 2
    have hc' : i = 0 ∨ i = 1 ∨ i = 2 := by omega
    rcases hc' with rfl | rfl | rfl
    · have es : jlshl (lN (opf al p 0)) (nI (9 * (0 + 1))) = lN (E5 0 0 0 0 (opf al p 0) 0) := by
        rw [l_shl (by decide) (by omega)]
        congr 1
        unfold E5
        omega
      rw [es, if_neg (by decide), if_neg (by decide), if_neg (by decide), lN_or, E5_or ⟨by omega, by decide, by decide, by decide, hp9⟩ ⟨by decide, by decide, by decide, h0, by decide⟩]
      simp only [Nat.or_zero, Nat.zero_or]
      rfl
    · have es : jlshl (lN (opf al p 1)) (nI (9 * (1 + 1))) = lN (E5 0 0 0 (opf al p 1) 0 0) := by
        rw [l_shl (by decide) (by omega)]
        congr 1
        unfold E5
        omega
      rw [es, if_neg (by decide), if_neg (by decide), if_pos (by decide), lN_or, E5_or ⟨by omega, by decide, by decide, h0, hp9⟩ ⟨by decide, by decide, h1, by decide, by decide⟩]
      simp only [Nat.or_zero, Nat.zero_or]
      rfl
    · have es : jlshl (lN (opf al p 2)) (nI (9 * (2 + 1))) = lN (E5 0 0 (opf al p 2) 0 0 0) := by
        rw [l_shl (by decide) (by omega)]
        congr 1
        unfold E5
        omega
      rw [es, if_neg (by decide), if_pos (by decide), if_pos (by decide), lN_or, E5_or ⟨by omega, by decide, h1, h0, hp9⟩ ⟨by decide, h2, by decide, by decide, by decide⟩]
      simp only [Nat.or_zero, Nat.zero_or]
      rfl
  · show m_X4_placeOf_L33 1 (nI p) (wC g P Q) (fun v10 => some v10) (f + 1) _ (nI 3) = _
    rw [m_X4_placeOf_L33, i3, iLe (Nat.le_refl _) (by decide)]
    rfl
/-- the answer of a part of the board -/
abbrev gB (al : Nat → Nat) (q : Nat) : An := gA al q (al (31 + lo q))
theorem gB_bd (R : Rg al) {q : Nat} (hq : q < 512) : Bd3 (gB al q) (pop q) := gr_b9 R (Okp_opf R hq)
theorem x_onPlace (S : Slv g num al bn lat L Gn) {p b : Nat} {O : Nat → Nat} (hP : CKs P Q L Gn) (hO : Okp p O) (h0 : p ≠ 0) (hb : b ≤ 3) : ∃ P' Q', CKs P' Q' L Gn ∧ m_X4_ofPlace RD 1 (lN (E5 num b (O 2) (O 1) (O 0) p)) (0 : Int32) (wC g P Q) = some (nI (pk (gr (nrf al) 10 p O b)), wC g P' Q') :=
  x_place S RD P Q p b 0 O hP hO h0 hb (Nat.le_trans pop_le (by decide)) (by have := pop_le (s := p); omega)
theorem x_partsInS (S : Slv g num al bn lat L Gn) (hk : Bk al bn) (U : Ub al) {s : Nat} (hs : Cs (nrf al) (fre al) s) (hP : CKs P Q L Gn) : ∃ P' Q', CKs P' Q' L Gn ∧ m_X4_ofPartsIn 1 (nI s) (wC g P Q) = some (nI (pk (pcs (nrf al) s (gB al))), wC g P' Q') := by
  obtain ⟨hz, S6, B, R, hnL, hL, hG⟩ := id S
  have hy := sy_Rg R
  have hf := fre_lt R
  have hlt : s < 512 := tb_lt (n := 9) fun i hi => by
    cases h9 : s.testBit i
    · rfl
    · exact absurd (hs.1 i h9) (by rw [tb_ge (n := 9) hf hi]; decide)
  have h9 := pop_le (s := s)
  have hGb : ∀ j, rst (nrf al) s j ≠ 0 → Bd3 (gB al (prt (nrf al) s j)) (pop (prt (nrf al) s j)) := fun j _ => gB_bd R (rch_lt hlt)
  have key : ∀ (K : Int32 → Hp → Option (Int32 × Hp)) k j f a P Q, j + k = 9 → k < f → CKs P Q L Gn → Bd3 a (pop s - pop (rst (nrf al) s j)) → pop (rst (nrf al) s j) ≤ pop s →
      ∃ P' Q', CKs P' Q' L Gn ∧ m_X4_ofPartsIn_L7 1 K f (nI (pk a)) (nI (rst (nrf al) s j)) (nI j) (wC g P Q) = K (nI (pk (pcsF (nrf al) s (gB al) k j a))) (wC g P' Q') := by
    intro K k
    induction k with
    | zero =>
      intro j f a P Q hj hf' hP hb' hle
      obtain ⟨f, rfl⟩ : ∃ m, f = m + 1 := ⟨f - 1, by omega⟩
      rw [Nat.add_zero] at hj
      subst hj
      refine ⟨P, Q, hP, ?_⟩
      rw [m_X4_ofPartsIn_L7, i9, iLe (Nat.le_refl _) (by decide), pcsF]
    | succ k ih =>
      intro j f a P Q hj hf' hP hb' hle
      obtain ⟨f, rfl⟩ : ∃ m, f = m + 1 := ⟨f - 1, by omega⟩
      have hr := rst_lt (nr := nrf al) hlt j
      rw [m_X4_ofPartsIn_L7, i9, iNle (by omega) (by decide), iZ (by omega), pcsF]
      by_cases h0 : rst (nrf al) s j = 0
      · refine ⟨P, Q, hP, ?_⟩
        rw [if_pos h0, if_pos h0]
      · have e := pop_split (prt_sub (nr := nrf al) (j := j) hy hlt)
        have e' : pop (rst (nrf al) s (j + 1)) + pop (prt (nrf al) s j) = pop (rst (nrf al) s j) := e
        have hq : prt (nrf al) s j < 512 := rch_lt hlt
        obtain ⟨q1, q2⟩ := prt_of R hs hlt h0
        have hpt : Ptb al (prt (nrf al) s j) := by
          rw [q2]
          exact Ptb_rch R U q1
        have hl := lo_ok hpt.1 hpt.2.1
        obtain ⟨P1, Q1, hP1, er⟩ := x_onPlace (b := al (31 + lo (prt (nrf al) s j))) S hP (Okp_opf R hpt.1) hpt.2.1 (R.2.2.2.2.1 _ hl.1).2.2.2
        have hg := hGb j h0
        have hcb := cmb_bd hb' hg (by omega)
        obtain ⟨P2, Q2, hP2, ek⟩ := ih (j + 1) f (cmb a (gB al (prt (nrf al) s j))) P1 Q1 (by omega) (by omega) hP1 (by
          rw [show pop s - pop (rst (nrf al) s (j + 1)) = pop s - pop (rst (nrf al) s j) + pop (prt (nrf al) s j) by omega]
          exact hcb) (by omega)
        refine ⟨P2, Q2, hP2, ?_⟩
        have er' : m_X4_ofPlace RD 1 (lN (E5 num (al (31 + lo (prt (nrf al) s j))) (opf al (prt (nrf al) s j) 2) (opf al (prt (nrf al) s j) 1) (opf al (prt (nrf al) s j) 0) (prt (nrf al) s j))) (0 : Int32) (wC g P Q) = some (nI (pk (gB al (prt (nrf al) s j))), wC g P1 Q1) := er
        rw [if_neg h0, if_neg h0, s_b S, Option.bind_some, bd_cv (w_Bd B), x_rchl (w_Bd B) R hr, Option.bind_some, prt_left hy hlt, s_cv S, x_placeOf S hk hpt, Option.bind_some, s_cv S, er']
        simp only [e_b2, Option.bind_some]
        rw [c_cmb hb' hg (by omega), Option.bind_some]
        simp only [e_nm]
        rw [nI_dif (by omega), nI_1]
        exact ek
  unfold m_X4_ofPartsIn
  obtain ⟨P', Q', h', e⟩ := key (fun v5 h6 => some (v5, h6)) 9 0 LF (0, 0, 0) P Q rfl (by decide) hP ⟨Nat.zero_le _, Nat.zero_le _, Nat.zero_le _⟩ (Nat.le_refl _)
  exact ⟨P', Q', h', e⟩
theorem pcs_gB (R : Rg al) {s : Nat} (hlt : s < 512) : Bd3 (pcs (nrf al) s (gB al)) (pop s) := pcs_bd (sy_Rg R) hlt fun j _ => gB_bd R (rch_lt hlt)
theorem x_onPieces (S : Slv g num al bn lat L Gn) {p b : Nat} {O : Nat → Nat} (hP : CKs P Q L Gn) (hO : Okp p O) (hb : b ≤ 3) : ∃ P' Q', CKs P' Q' L Gn ∧ m_X4_ofPieces (m_X4_ofPlace RD) 1 (lN (E5 num b (O 2) (O 1) (O 0) p)) (0 : Int32) (wC g P Q) = some (nI (pk (pcs (nrf al) p (fun q => gr (nrf al) 10 q (sbO O q) b))), wC g P' Q') :=
  x_pieces (dep := 0) S (x_place S RD) hO hb (fun j _ => Nat.le_trans pop_le (by decide)) (by have := pop_le (s := p); omega) hP
end SV
