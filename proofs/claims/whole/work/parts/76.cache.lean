/-! the class's cache of answers -/
theorem e_nm {α β : Type} (x : α) (f : α → β) : nm x f = f x := (rfl)
theorem e_jK {κ ρ : Type} (K : κ) (body : κ → Option ρ) : jK K body = body K := (rfl)
theorem e_b2 {α β ρ : Type} (x : α) (y : β) (f : α → β → Option ρ) : b2 (some (x, y)) f = f x y := (rfl)
def wC (g : Hp) (P : Nat → Int64) (Q : Nat → Int32) : Hp := (fun x => if x = 7 then .inl (1, 32768, .inr (.inl P)) else if x = 8 then .inl (0, 32768, .inl Q) else g.1 x, g.2)
section WC
variable {g : Hp} {P P' : Nat → Int64} {Q Q' : Nat → Int32}
theorem w_at {a : Nat} {c : Ac} (A : At g a c) (h7 : a ≠ 7) (h8 : a ≠ 8) : At (wC g P Q) a c := ⟨A.1, ((if_neg h7).trans (if_neg h8)).trans A.2⟩
theorem w_7 (hz : 9 ≤ g.2.1) : At (wC g P Q) 7 (.inl (1, 32768, .inr (.inl P))) := ⟨by show 7 < g.2.1; omega, rfl⟩
theorem w_8 (hz : 9 ≤ g.2.1) : At (wC g P Q) 8 (.inl (0, 32768, .inl Q)) := ⟨by show 8 < g.2.1; omega, rfl⟩
theorem w_set7 : hset (wC g P Q) 7 (.inl (1, 32768, .inr (.inl P'))) = wC g P' Q := Prod.ext (funext fun x => by
  show (if x = 7 then _ else if x = 7 then _ else if x = 8 then _ else g.1 x) = (if x = 7 then _ else if x = 8 then _ else g.1 x)
  by_cases h : x = 7
  · rw [if_pos h, if_pos h]
  · rw [if_neg h, if_neg h, if_neg h]) rfl
theorem w_set8 : hset (wC g P Q) 8 (.inl (0, 32768, .inl Q')) = wC g P Q' := Prod.ext (funext fun x => by
  show (if x = 8 then _ else if x = 7 then _ else if x = 8 then _ else g.1 x) = (if x = 7 then _ else if x = 8 then _ else g.1 x)
  by_cases h : x = 8
  · subst h
    rfl
  · rw [if_neg h, if_neg h, if_neg h]) rfl
theorem w_ArN {a n : Nat} {f : Nat → Nat} (A : ArN g a n f) (h7 : a ≠ 7) (h8 : a ≠ 8) : ArN (wC g P Q) a n f := by
  obtain ⟨q, A, hq⟩ := A
  exact ⟨q, w_at A h7 h8, hq⟩
theorem w_Bd {num : Nat} {al b : Nat → Nat} {lat : Option Nat} (B : BdH g 2 num al b lat) : BdH (wC g P Q) 2 num al b lat := ⟨w_at B.1 (by decide) (by decide), w_ArN B.2.1 (by decide) (by decide), w_ArN B.2.2.1 (by decide) (by decide), w_ArN B.2.2.2.1 (by decide) (by decide), w_ArN B.2.2.2.2 (by decide) (by decide)⟩
end WC
/-- sets open to the colours 0, 1, 2 inside a set -/
def Okp (p : Nat) (O : Nat → Nat) : Prop := p < 512 ∧ ∀ c, (∀ i, (O c).testBit i = true → p.testBit i = true) ∧ (3 ≤ c → O c = 0)
theorem Okp_lt {p : Nat} {O : Nat → Nat} (h : Okp p O) (c : Nat) : O c < 512 := tb_lt (n := 9) fun i hi => by
  cases e : (O c).testBit i
  · rfl
  · have := (h.2 c).1 i e
    rw [tb_ge (n := 9) h.1 hi] at this
    cases this
theorem Okp_op {p : Nat} {O : Nat → Nat} (h : Okp p O) : Op p O := ⟨h.1, fun c i _ hi => (h.2 c).1 i hi⟩
theorem Okp_f {p b : Nat} {O : Nat → Nat} (h : Okp p O) (hb : b ≤ 3) : F5 b (O 2) (O 1) (O 0) p := ⟨by omega, Okp_lt h 2, Okp_lt h 1, Okp_lt h 0, h.1⟩
abbrev sbO (O : Nat → Nat) (q : Nat) : Nat → Nat := fun w => O w &&& q
theorem Okp_sb {O : Nat → Nat} {q : Nat} (h : q < 512) (h3 : ∀ c, 3 ≤ c → O c = 0) : Okp q (sbO O q) := ⟨h, fun c => ⟨fun i hi => by
  have hi' : (O c &&& q).testBit i = true := hi
  rw [Nat.testBit_and, Bool.and_eq_true] at hi'
  exact hi'.2, fun hc => by
  show O c &&& q = 0
  rw [h3 c hc, Nat.zero_and]⟩⟩
theorem Okp_mv {nr O : Nat → Nat} {p v c : Nat} (h : Okp p O) (hc : c < 3) : Okp (dif p (2 ^ v)) (fun w => mvO nr O v c w) := ⟨dif_l9 h.1, fun w => ⟨fun i hi => by
  obtain ⟨a, b⟩ := mvO_tb hi
  rw [tb_dif, (h.2 w).1 i a, tb_pow, decide_eq_false (fun e => b e.symm)]
  rfl, fun hw => by
  show mvO nr O v c w = 0
  unfold mvO
  rw [(h.2 w).2 hw, dif_z, dif_z]⟩⟩
/-- every entry of the cache is free or right -/
def CKs (P : Nat → Int64) (Q : Nat → Int32) (L : Nat) (Gn : Nat → Nat → Nat) : Prop := ∀ s, s < 32768 → P s = 0 ∨ ∃ n p b O, n ≤ L ∧ b ≤ 3 ∧ Okp p O ∧ p ≠ 0 ∧ P s = lN (E5 n b (O 2) (O 1) (O 0) p) ∧ Q s = nI (pk (gr (Gn n) 10 p O b))
section CK
variable {P : Nat → Int64} {Q : Nat → Int32} {L : Nat} {Gn : Nat → Nat → Nat} {n p b s : Nat} {O : Nat → Nat}
theorem CK_get (hL : L ≤ 1000) (h : CKs P Q L Gn) (hs : s < 32768) (hn : n ≤ L) (hb : b ≤ 3) (hO : Okp p O) (h0 : p ≠ 0) (e : P s = lN (E5 n b (O 2) (O 1) (O 0) p)) : Q s = nI (pk (gr (Gn n) 10 p O b)) := by
  have hf := Okp_f hO hb
  have hlt := E5_lt (n := n) hf (by omega)
  rcases h s hs with h1 | ⟨n', p', b', O', hn', hb', hO', h0', e', q⟩
  · rw [h1, show (0 : Int64) = lN 0 from rfl, pk_lEQ (by decide) hlt] at e
    exact absurd (E5_inj (n := 0) (b := 0) (o2 := 0) (o1 := 0) (o0 := 0) (p := 0) ⟨by decide, by decide, by decide, by decide, by decide⟩ hf (by rw [← e]; rfl)).2.2.2.2.2.symm h0
  · have hf' := Okp_f hO' hb'
    rw [e', pk_lEQ (E5_lt hf' (by omega)) hlt] at e
    obtain ⟨a1, a2, a3, a4, a5, a6⟩ := E5_inj hf' hf e
    subst a1 a2 a6
    have eO : O' = O := funext fun c => by
      match c with
      | 0 => exact a5
      | 1 => exact a4
      | 2 => exact a3
      | c + 3 => rw [(hO'.2 (c + 3)).2 (by omega), (hO.2 (c + 3)).2 (by omega)]
    rw [q, eO]
theorem CK_put (h : CKs P Q L Gn) (hn : n ≤ L) (hb : b ≤ 3) (hO : Okp p O) (h0 : p ≠ 0) : CKs (vp_updL P s (lN (E5 n b (O 2) (O 1) (O 0) p))) (upd Q s (nI (pk (gr (Gn n) 10 p O b)))) L Gn := by
  intro k hk
  by_cases e : k = s
  · subst e
    rw [pk_uLs, pk_us]
    exact Or.inr ⟨n, p, b, O, hn, hb, hO, h0, rfl, rfl⟩
  · rw [pk_uLn e, pk_un e]
    exact h k hk
theorem CK_L {L' : Nat} {Gn' : Nat → Nat → Nat} (h : CKs P Q L Gn) (hL : L ≤ L') (hG : ∀ n, n ≤ L → Gn' n = Gn n) : CKs P Q L' Gn' := by
  intro k hk
  rcases h k hk with h1 | ⟨n', p', b', O', hn', hb', hO', h0', e', q⟩
  · exact Or.inl h1
  · exact Or.inr ⟨n', p', b', O', by omega, hb', hO', h0', e', by rw [hG n' hn']; exact q⟩
end CK
/-- what the solver stands on: its object, the board, whose graph is the load's -/
def Slv (g : Hp) (num : Nat) (al b : Nat → Nat) (lat : Option Nat) (L : Nat) (Gn : Nat → Nat → Nat) : Prop := 9 ≤ g.2.1 ∧ At g 1 (.inr (4, [.ref 2, .ref 7, .ref 8])) ∧ BdH g 2 num al b lat ∧ Rg al ∧ num ≤ L ∧ L ≤ 1000 ∧ Gn num = nrf al
def CQ (g : Hp) (num : Nat) (al : Nat → Nat) (L : Nat) (Gn : Nat → Nat → Nat) (rc : Nat → Int64 → Int32 → Hp → Option (Int32 × Hp)) (n : Nat) : Prop := ∀ P Q p b dep O, CKs P Q L Gn → Okp p O → p ≠ 0 → b ≤ 3 → pop p ≤ n → dep + pop p ≤ 9 → ∃ P' Q', CKs P' Q' L Gn ∧ rc 1 (lN (E5 num b (O 2) (O 1) (O 0) p)) (nI dep) (wC g P Q) = some (nI (pk (gr (nrf al) 10 p O b)), wC g P' Q')
section SV
variable {g : Hp} {P : Nat → Int64} {Q : Nat → Int32} {num L n : Nat} {al bn : Nat → Nat} {lat : Option Nat} {Gn : Nat → Nat → Nat} {rc : Nat → Int64 → Int32 → Hp → Option (Int32 × Hp)}
theorem s_o (S : Slv g num al bn lat L Gn) : At (wC g P Q) 1 (.inr (4, [.ref 2, .ref 7, .ref 8])) := w_at S.2.1 (by decide) (by decide)
theorem s_cv (S : Slv g num al bn lat L Gn) {ρ : Type} {r : Option ρ} : cv (wC g P Q) 4 1 r = r := at_cv (s_o S)
theorem s_b (S : Slv g num al bn lat L Gn) : gR (wC g P Q) 4 1 0 = some 2 := at_gR (s_o S) rfl
theorem s_p (S : Slv g num al bn lat L Gn) : gR (wC g P Q) 4 1 1 = some 7 := at_gR (s_o S) rfl
theorem s_q (S : Slv g num al bn lat L Gn) : gR (wC g P Q) 4 1 2 = some 8 := at_gR (s_o S) rfl
theorem gr_b9 {p b : Nat} {O : Nat → Nat} (R : Rg al) (hO : Okp p O) : Bd3 (gr (nrf al) 10 p O b) (pop p) := gr_bd (sy_Rg R) 10 p O b (Okp_op hO)
theorem e_piece {num b o2 o1 o0 p q : Nat} (hf : F5 b o2 o1 o0 p) (hq : q < 512) : lN (E5 num b 0 0 0 0) ||| (lN (E5 num b o2 o1 o0 p) &&& ((134480385 : Int64) * Int32.toInt64 (nI q))) = lN (E5 num b (o2 &&& q) (o1 &&& q) (o0 &&& q) (p &&& q)) := by
  have e : 134480385 * q = E5 0 0 q q q q := by
    unfold E5
    omega
  rw [nI_l (by omega), show (134480385 : Int64) = lN 134480385 from rfl, lN_mul, e, lN_and, E5_and hf ⟨by decide, hq, hq, hq, hq⟩, lN_or, E5_or ⟨hf.1, by decide, by decide, by decide, by decide⟩ ⟨by rw [Nat.and_zero]; decide, and_l9 hf.2.1, and_l9 hf.2.2.1, and_l9 hf.2.2.2.1, and_l9 hf.2.2.2.2⟩]
  simp only [Nat.and_zero, Nat.or_zero, Nat.zero_or]
theorem x_pieces (S : Slv g num al bn lat L Gn) (hrc : CQ g num al L Gn rc n) {p b dep : Nat} {O : Nat → Nat} (hO : Okp p O) (hb : b ≤ 3) (hn : ∀ j, rst (nrf al) p j ≠ 0 → pop (prt (nrf al) p j) ≤ n) (hd : dep + pop p ≤ 9) (hP : CKs P Q L Gn) :
    ∃ P' Q', CKs P' Q' L Gn ∧ m_X4_ofPieces rc 1 (lN (E5 num b (O 2) (O 1) (O 0) p)) (nI dep) (wC g P Q) = some (nI (pk (pcs (nrf al) p (fun q => gr (nrf al) 10 q (sbO O q) b))), wC g P' Q') := by
  obtain ⟨hz, S6, B, R, hnL, hL, hG⟩ := id S
  have hy := sy_Rg R
  have hp := hO.1
  have hf := Okp_f hO hb
  have h9 := pop_le (s := p)
  have hGb : ∀ j, rst (nrf al) p j ≠ 0 → Bd3 (gr (nrf al) 10 (prt (nrf al) p j) (sbO O (prt (nrf al) p j)) b) (pop (prt (nrf al) p j)) := fun j _ => gr_b9 R (Okp_sb (rch_lt hp) fun c hc => (hO.2 c).2 hc)
  have key : ∀ (K : Int32 → Hp → Option (Int32 × Hp)) k j f a P Q, j + k = 9 → k < f → CKs P Q L Gn → Bd3 a (pop p - pop (rst (nrf al) p j)) → pop (rst (nrf al) p j) ≤ pop p →
      ∃ P' Q', CKs P' Q' L Gn ∧ m_X4_ofPieces_L21 rc 1 (lN (E5 num b (O 2) (O 1) (O 0) p)) (nI dep) (lN (E5 num b 0 0 0 0)) K f (nI (rst (nrf al) p j)) (nI (pk a)) (nI j) (wC g P Q) = K (nI (pk (pcsF (nrf al) p (fun q => gr (nrf al) 10 q (sbO O q) b) k j a))) (wC g P' Q') := by
    intro K k
    induction k with
    | zero =>
      intro j f a P Q hj hf' hP hb' hle
      obtain ⟨f, rfl⟩ : ∃ m, f = m + 1 := ⟨f - 1, by omega⟩
      rw [Nat.add_zero] at hj
      subst hj
      refine ⟨P, Q, hP, ?_⟩
      rw [m_X4_ofPieces_L21, i9, iLe (Nat.le_refl _) (by decide), pcsF]
    | succ k ih =>
      intro j f a P Q hj hf' hP hb' hle
      obtain ⟨f, rfl⟩ : ∃ m, f = m + 1 := ⟨f - 1, by omega⟩
      have hr := rst_lt (nr := nrf al) hp j
      rw [m_X4_ofPieces_L21, i9, iNle (by omega) (by decide), iZ (by omega), pcsF]
      by_cases h0 : rst (nrf al) p j = 0
      · refine ⟨P, Q, hP, ?_⟩
        rw [if_pos h0, if_pos h0]
      · have e := pop_split (prt_sub (nr := nrf al) (j := j) hy hp)
        have e' : pop (rst (nrf al) p (j + 1)) + pop (prt (nrf al) p j) = pop (rst (nrf al) p j) := e
        have hq : prt (nrf al) p j < 512 := rch_lt hp
        have hqp : p &&& prt (nrf al) p j = prt (nrf al) p j := bit_eq fun i => by
          rw [Nat.testBit_and, Bool.and_eq_true]
          exact ⟨fun h => h.2, fun h => ⟨(rch_cl hp).2.1 i h, h⟩⟩
        obtain ⟨P1, Q1, hP1, er⟩ := hrc P Q (prt (nrf al) p j) b dep (sbO O (prt (nrf al) p j)) hP (Okp_sb hq fun c hc => (hO.2 c).2 hc) (prt_ne hy hp h0) hb (hn j h0) (by omega)
        have hg := hGb j h0
        have hcb := cmb_bd hb' hg (by omega)
        obtain ⟨P2, Q2, hP2, ek⟩ := ih (j + 1) f (cmb a (gr (nrf al) 10 (prt (nrf al) p j) (sbO O (prt (nrf al) p j)) b)) P1 Q1 (by omega) (by omega) hP1 (by
          rw [show pop p - pop (rst (nrf al) p (j + 1)) = pop p - pop (rst (nrf al) p j) + pop (prt (nrf al) p j) by omega]
          exact hcb) (by omega)
        refine ⟨P2, Q2, hP2, ?_⟩
        rw [if_neg h0, if_neg h0, s_b S, Option.bind_some, bd_cv (w_Bd B), x_rchl (w_Bd B) R hr, Option.bind_some, prt_left hy hp, s_cv S, e_piece hf hq, hqp, er]
        simp only [e_b2, Option.bind_some]
        rw [c_cmb hb' hg (by omega), Option.bind_some]
        simp only [e_nm]
        rw [nI_dif (by omega), nI_1]
        exact ek
  unfold m_X4_ofPieces
  simp only [e_nm]
  rw [l_hd, lN_and, E5_hd hf (by omega), lN_i, nI_511, E5_p hf]
  obtain ⟨P', Q', h', e⟩ := key (fun v10 h11 => some (v10, h11)) 9 0 LF (0, 0, 0) P Q rfl (by decide) hP ⟨Nat.zero_le _, Nat.zero_le _, Nat.zero_le _⟩ (Nat.le_refl _)
  exact ⟨P', Q', h', e⟩
theorem x_behind (S : Slv g num al bn lat L Gn) {p b v c : Nat} {O : Nat → Nat} (hO : Okp p O) (hb : b ≤ 3) (hv : v < 9) (hc : c < 3) : m_X4_behind 1 (lN (E5 num b (O 2) (O 1) (O 0) p)) (nI v) (nI c) (wC g P Q) = some (lN (E5 num (c + 1) (mvO (nrf al) O v c 2) (mvO (nrf al) O v c 1) (mvO (nrf al) O v c 0) (dif p (2 ^ v)))) := by
  obtain ⟨hz, S6, B, R, hnL, hL, hG⟩ := id S
  have hf := Okp_f hO hb
  have hnr := nrf_lt R hv
  have h2 := pow_lt9 hv
  unfold m_X4_behind m_X4_setShift
  rw [s_b S, Option.bind_some, bd_cv (w_Bd B), x_nb (w_Bd B) hv, Option.bind_some, Option.bind_some]
  simp only [e_nm]
  have e1 : jlshl (134480385 : Int64) (nI v) = lN (E5 0 0 (2 ^ v) (2 ^ v) (2 ^ v) (2 ^ v)) := by
    rw [show (134480385 : Int64) = lN 134480385 from rfl, l_shl (by omega) (Nat.lt_of_le_of_lt (Nat.mul_le_mul_left 134480385 (Nat.le_of_lt h2)) (by decide))]
    refine congrArg lN ?_
    generalize 2 ^ v = t
    unfold E5
    omega
  have e2 : jlshl (Int32.toInt64 (nI (nrf al v))) ((9 : Int32) * (nI c + (1 : Int32))) = lN (E5 0 0 (if 2 = c then nrf al v else 0) (if 1 = c then nrf al v else 0) (if 0 = c then nrf al v else 0) 0) := by
    rw [nI_l (by omega), nI_1, i9, pk_mul]
    generalize nrf al v = t at hnr
    have hc' : c = 0 ∨ c = 1 ∨ c = 2 := by omega
    rcases hc' with rfl | rfl | rfl
    · rw [l_shl (by decide) (by omega)]
      congr 1
      show t * 2 ^ 9 = E5 0 0 0 0 t 0
      unfold E5
      omega
    · rw [l_shl (by decide) (by omega)]
      congr 1
      show t * 2 ^ 18 = E5 0 0 0 t 0 0
      unfold E5
      omega
    · rw [l_shl (by decide) (by omega)]
      congr 1
      show t * 2 ^ 27 = E5 0 0 t 0 0 0
      unfold E5
      omega
  have e3 : (206158430208 : Int64) = lN (E5 0 3 0 0 0 0) := by decide +kernel
  have e4 : jlshl (Int32.toInt64 (nI c + (1 : Int32))) (36 : Int32) = lN (E5 0 (c + 1) 0 0 0 0) := by
    rw [nI_1, nI_l (by omega), show (36 : Int32) = nI 36 from rfl, l_shl (by decide) (by omega)]
    refine congrArg lN ?_
    unfold E5
    omega
  have hi : ∀ w, (if w = c then nrf al v else 0) < 512 := fun w => by
    split
    · exact hnr
    · decide
  rw [e1, e2, e3, e4, lN_or, E5_or ⟨by decide, h2, h2, h2, h2⟩ ⟨by decide, hi 2, hi 1, hi 0, by decide⟩, lN_or, E5_or ⟨by decide, or_l9 h2 (hi 2), or_l9 h2 (hi 1), or_l9 h2 (hi 0), or_l9 h2 (by decide)⟩ ⟨by decide, by decide, by decide, by decide, by decide⟩, lN_dif (E5_lt hf (by omega)), E5_dif hf ⟨by decide, or_l9 (or_l9 h2 (hi 2)) (by decide), or_l9 (or_l9 h2 (hi 1)) (by decide), or_l9 (or_l9 h2 (hi 0)) (by decide), or_l9 (or_l9 h2 (by decide)) (by decide)⟩, lN_or, E5_or ⟨dif_lt (n := 2) hf.1, dif_l9 hf.2.1, dif_l9 hf.2.2.1, dif_l9 hf.2.2.2.1, dif_l9 hf.2.2.2.2⟩ ⟨by omega, by decide, by decide, by decide, by decide⟩]
  have hb3 : dif b (0 ||| 0 ||| 3) = 0 := (by decide : ∀ b, b < 4 → dif b (0 ||| 0 ||| 3) = 0) b hf.1
  have hn0 : dif num (0 ||| 0 ||| 0) = num := dif_0
  rw [hb3, hn0]
  simp only [Nat.or_zero, Nat.zero_or, dif_or]
  rfl
end SV
