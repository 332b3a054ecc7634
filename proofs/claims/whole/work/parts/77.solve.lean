/-! the class's solver: its recursion -/
theorem j8N : (8 : Int32) = nI 8 := rfl
theorem j10N : (10 : Int32) = nI 10 := rfl
theorem i36 : (36 : Int32) = nI 36 := rfl
theorem x_mex {s : Nat} (hs : s < 1024) : m_X5_least (nI s ^^^ (-1 : Int32)) = some (nI (mex s)) := (by decide +kernel : ∀ s, s < 1024 → m_X5_least (nI s ^^^ (-1 : Int32)) = some (nI (mex s))) s hs
theorem x_alone {p : Nat} (hp : p < 512) (h0 : p ≠ 0) : (nI p &&& (nI p - (1 : Int32)) = 0) = (pop p = 1) := propext ((by decide +kernel : ∀ p, p < 512 → p ≠ 0 → (nI p &&& (nI p - (1 : Int32)) = 0 ↔ pop p = 1)) p hp h0)
theorem jmax_N {a b : Nat} (ha : a < 2 ^ 31) (hb : b < 2 ^ 31) : jmax (nI a) (nI b) = nI (max a b) := by
  unfold jmax
  by_cases h : a < b
  · rw [iLt h hb, show max a b = b by omega]
  · rw [iNlt (by omega) ha, show max a b = a by omega]
theorem jmin_N {a b : Nat} (ha : a < 2 ^ 31) (hb : b < 2 ^ 31) : jmin (nI a) (nI b) = nI (min a b) := by
  unfold jmin
  by_cases h : b < a
  · rw [iLt h ha, show min a b = b by omega]
  · rw [iNlt (by omega) hb, show min a b = a by omega]
/-- a loop whose state is told by a predicate -/
theorem forQ {σ γ : Type} (L : Nat → Nat → σ → γ) (N : Nat) (I : Nat → σ → Prop) (Q : γ → Prop) (step : ∀ f i s, i < N → I i s → (∀ s', I (i + 1) s' → Q (L f (i + 1) s')) → Q (L (f + 1) i s)) (done : ∀ f s, I N s → Q (L (f + 1) N s)) : ∀ f i s, i ≤ N → N - i < f → I i s → Q (L f i s) := by
  intro f
  induction f with
  | zero => intro i s _ h; omega
  | succ f ih =>
    intro i s hi hf hI
    by_cases h : i = N
    · subst h
      exact done f s hI
    · exact step f i s (by omega) hI fun s' h' => ih (i + 1) s' (by omega) (by omega) h'
/-- what the class gathers over one colour, and over all -/
def gV1 (nr : Nat → Nat) (p : Nat) (O : Nat → Nat) (b c k : Nat) (a : An) : An := itN k (fun v a => if lgl p O b v c then stp3 a (pcs nr (dif p (2 ^ v)) (fun q => gr nr 10 q (sbO (fun w => mvO nr O v c w) q) (c + 1))) else a) a
def gC1 (nr : Nat → Nat) (p : Nat) (O : Nat → Nat) (b k : Nat) : An := itN k (fun c a => gV1 nr p O b c 9 a) (0, 0, 10)
theorem gV1_s {nr O : Nat → Nat} {p b c i : Nat} {a0 : An} : gV1 nr p O b c (i + 1) a0 = if lgl p O b i c then stp3 (gV1 nr p O b c i a0) (pcs nr (dif p (2 ^ i)) (fun q => gr nr 10 q (sbO (fun w => mvO nr O i c w) q) (c + 1))) else gV1 nr p O b c i a0 := rfl
theorem gV1_0 {nr O : Nat → Nat} {p b c : Nat} {a0 : An} : gV1 nr p O b c 0 a0 = a0 := rfl
theorem gC1_s {nr O : Nat → Nat} {p b i : Nat} : gC1 nr p O b (i + 1) = gV1 nr p O b i 9 (gC1 nr p O b i) := rfl
theorem gC1_0 {nr O : Nat → Nat} {p b : Nat} : gC1 nr p O b 0 = (0, 0, 10) := rfl
theorem nar_0 (x : Int32) : nar 0 x = x := rfl
section SV
variable {g : Hp} {P : Nat → Int64} {Q : Nat → Int32} {num L n : Nat} {al bn : Nat → Nat} {lat : Option Nat} {Gn : Nat → Nat → Nat} {rc : Nat → Int64 → Int32 → Hp → Option (Int32 × Hp)}
theorem gV1_x {p b c v : Nat} {O : Nat → Nat} (R : Rg al) (hO : Okp p O) (hc : c < 3) (l : lgl p O b v c = true) : Bd3 (pcs (nrf al) (dif p (2 ^ v)) (fun q => gr (nrf al) 10 q (sbO (fun w => mvO (nrf al) O v c w) q) (c + 1))) 8 := by
  have hv := lgl_in (Okp_op hO) hc l
  have e := pop_v hv hO.1
  have h9 := pop_le (s := p)
  have := pcs_bd (nr := nrf al) (G := fun q => gr (nrf al) 10 q (sbO (fun w => mvO (nrf al) O v c w) q) (c + 1)) (sy_Rg R) (dif_l9 (b := 2 ^ v) hO.1) (fun j _ => gr_b9 R (Okp_sb (rch_lt (dif_l9 hO.1)) fun w hw => ((Okp_mv (nr := nrf al) (v := v) hO hc).2 w).2 hw))
  exact ⟨by have := this.1; omega, by have := this.2.1; omega, by have := this.2.2; omega⟩
theorem gV1_q {p b c : Nat} {O : Nat → Nat} (R : Rg al) (hO : Okp p O) (hc : c < 3) : ∀ k a, Bq a → Bq (gV1 (nrf al) p O b c k a)
  | 0, _, h => h
  | k + 1, a, h => by
    have ih := gV1_q (b := b) R hO hc k a h
    show Bq (if lgl p O b k c then stp3 (gV1 (nrf al) p O b c k a) _ else gV1 (nrf al) p O b c k a)
    by_cases l : lgl p O b k c = true
    · rw [if_pos l]
      exact Bq_stp ih (gV1_x R hO hc l)
    · rw [if_neg l]
      exact ih
theorem gC1_q {p b : Nat} {O : Nat → Nat} (R : Rg al) (hO : Okp p O) : ∀ k, k ≤ 3 → Bq (gC1 (nrf al) p O b k)
  | 0, _ => (⟨by decide, by decide, by decide⟩ : Bq ((0, 0, 10) : An))
  | k + 1, h => gV1_q R hO (by omega) 9 _ (gC1_q R hO k (by omega))
theorem x_col (S : Slv g num al bn lat L Gn) (hrc : CQ g num al L Gn rc n) {p b dep c : Nat} {O : Nat → Nat} (hO : Okp p O) (hb : b ≤ 3) (hn : pop p ≤ n + 1) (hd : dep + pop p ≤ 9) (hc : c < 3) {u23 : Bool} {u24 : Int32} {a0 : An} (ha0 : Bq a0) (K : Int32 → Int32 → Int32 → Hp → Option (Int32 × Hp)) {P : Nat → Int64} {Q : Nat → Int32} (hP : CKs P Q L Gn) {op : Nat} (hop : op < 512) (hlg : ∀ v, v < 9 → op.testBit v = lgl p O b v c) :
    ∃ P' Q', CKs P' Q' L Gn ∧ m_X4_workOut_L98 rc 1 (lN (E5 num b (O 2) (O 1) (O 0) p)) (nI dep) u23 u24 (nI c) (nI op) K LF (nI a0.1) (nI a0.2.1) (nI a0.2.2) (0 : Int32) (wC g P Q) = K (nI (gV1 (nrf al) p O b c 9 a0).1) (nI (gV1 (nrf al) p O b c 9 a0).2.1) (nI (gV1 (nrf al) p O b c 9 a0).2.2) (wC g P' Q') := by
  obtain ⟨hz, S6, B, R, hnL, hL, hG⟩ := id S
  have key := forQ (σ := (Nat → Int64) × (Nat → Int32)) (fun f i s => m_X4_workOut_L98 rc 1 (lN (E5 num b (O 2) (O 1) (O 0) p)) (nI dep) u23 u24 (nI c) (nI op) K f (nI (gV1 (nrf al) p O b c i a0).1) (nI (gV1 (nrf al) p O b c i a0).2.1) (nI (gV1 (nrf al) p O b c i a0).2.2) (nI i) (wC g s.1 s.2)) 9 (fun _ s => CKs s.1 s.2 L Gn) (fun r => ∃ P' Q', CKs P' Q' L Gn ∧ r = K (nI (gV1 (nrf al) p O b c 9 a0).1) (nI (gV1 (nrf al) p O b c 9 a0).2.1) (nI (gV1 (nrf al) p O b c 9 a0).2.2) (wC g P' Q')) (fun f i s hi hI e => ?_) (fun f s hI => ?_) LF 0 (P, Q) (Nat.zero_le _) (by decide) hP
  · exact key
  · skip
    have e : ∀ P1 Q1, CKs P1 Q1 L Gn → ∃ P' Q', CKs P' Q' L Gn ∧ m_X4_workOut_L98 rc 1 (lN (E5 num b (O 2) (O 1) (O 0) p)) (nI dep) u23 u24 (nI c) (nI op) K f (nI (gV1 (nrf al) p O b c (i + 1) a0).1) (nI (gV1 (nrf al) p O b c (i + 1) a0).2.1) (nI (gV1 (nrf al) p O b c (i + 1) a0).2.2) (nI (i + 1)) (wC g P1 Q1) = K (nI (gV1 (nrf al) p O b c 9 a0).1) (nI (gV1 (nrf al) p O b c 9 a0).2.1) (nI (gV1 (nrf al) p O b c 9 a0).2.2) (wC g P' Q') := fun P1 Q1 h1 => e (P1, Q1) h1
    obtain ⟨P0, Q0⟩ := s
    show ∃ P' Q', CKs P' Q' L Gn ∧ m_X4_workOut_L98 rc 1 (lN (E5 num b (O 2) (O 1) (O 0) p)) (nI dep) u23 u24 (nI c) (nI op) K (f + 1) (nI (gV1 (nrf al) p O b c (i) a0).1) (nI (gV1 (nrf al) p O b c (i) a0).2.1) (nI (gV1 (nrf al) p O b c (i) a0).2.2) (nI (i)) (wC g P0 Q0) = K (nI (gV1 (nrf al) p O b c 9 a0).1) (nI (gV1 (nrf al) p O b c 9 a0).2.1) (nI (gV1 (nrf al) p O b c 9 a0).2.2) (wC g P' Q')
    have hI : CKs P0 Q0 L Gn := hI
    have hq := gV1_q (b := b) R hO hc i a0 ha0
    have hst := gV1_s (nr := nrf al) (O := O) (p := p) (b := b) (c := c) (i := i) (a0 := a0)
    rw [m_X4_workOut_L98, i9, iNle hi (by decide), m_has (by omega), hlg i hi, Option.bind_some]
    simp only [e_jK, e_nm]
    by_cases l : lgl p O b i c = true
    · have hv := lgl_in (Okp_op hO) hc l
      have hpv := pop_v hv hO.1
      have h9 := pop_le (s := p)
      have hx := gV1_x R hO hc l
      have hmv := Okp_mv (nr := nrf al) (v := i) hO hc
      rw [if_pos l] at hst
      obtain ⟨P1, Q1, hP1, e1⟩ := x_pieces (b := c + 1) (dep := dep + 1) S hrc hmv (by omega) (fun j _ => by
        have : pop (prt (nrf al) (dif p (2 ^ i)) j) ≤ pop (dif p (2 ^ i)) := pop_sub fun t _ ht => (rch_cl (dif_l9 hO.1)).2.1 t ht
        omega) (by omega) hI
      have e' := e P1 Q1 hP1
      rw [hst] at e'
      rw [l, if_pos rfl, s_cv S, x_behind S hO hb hi hc, Option.bind_some, s_cv S, show nI dep + (1 : Int32) = nI (dep + 1) from nI_1 dep, e1]
      generalize pcs (nrf al) (dif p (2 ^ i)) (fun q => gr (nrf al) 10 q (sbO (fun w => mvO (nrf al) O i c w) q) (c + 1)) = X at hx e' ⊢
      simp only [e_b2, Option.bind_some]
      rw [c_value hx (by decide), Option.bind_some, c_long hx (by decide), Option.bind_some, c_short hx (by decide), Option.bind_some, nI_sh (by have := hx.1; omega), nI_or, nI_1, nI_1, nI_1, jmax_N (by have := hq.2.1; omega) (by have := hx.2.1; omega), jmin_N (by have := hq.2.2; omega) (by have := hx.2.2; omega)]
      exact e'
    · have e' := e P0 Q0 hI
      rw [if_neg l] at hst
      rw [hst] at e'
      rw [Bool.eq_false_iff.mpr l, if_neg (by decide), nI_1]
      exact e'
  · obtain ⟨P0, Q0⟩ := s
    refine ⟨P0, Q0, hI, ?_⟩
    show m_X4_workOut_L98 rc 1 (lN (E5 num b (O 2) (O 1) (O 0) p)) (nI dep) u23 u24 (nI c) (nI op) K (f + 1) (nI (gV1 (nrf al) p O b c (9) a0).1) (nI (gV1 (nrf al) p O b c (9) a0).2.1) (nI (gV1 (nrf al) p O b c (9) a0).2.2) (nI (9)) (wC g P0 Q0) = _
    rw [m_X4_workOut_L98, i9, iLe (Nat.le_refl _) (by decide)]
theorem gr_C1 {p b : Nat} {O : Nat → Nat} (hO : Okp p O) : gr (nrf al) 10 p O b = fin3 (gC1 (nrf al) p O b 3) := by
  rw [gr]
  refine congrArg fin3 ?_
  unfold gC1
  refine itN_congr fun c a hc => ?_
  unfold gV1
  refine itN_congr fun v a hv => ?_
  by_cases l : lgl p O b v c = true
  · rw [if_pos l, if_pos l]
    refine congrArg (stp3 a) ?_
    have h3 := pop_v (lgl_in (Okp_op hO) hc l) hO.1
    have h9 := pop_le (s := p)
    refine pcs_congr fun j hj => ?_
    have h4 : pop (prt (nrf al) (dif p (2 ^ v)) j) ≤ pop (dif p (2 ^ v)) := pop_sub fun i _ hi => (rch_cl (dif_l9 hO.1)).2.1 i hi
    exact gr_fuel 9 10 _ _ _ (Op_sub (Okp_op hO)) (by omega) (by omega)
  · rw [if_neg l, if_neg l]
theorem x_open {num b c p : Nat} {O : Nat → Nat} (hO : Okp p O) (hb : b ≤ 3) (hn : num ≤ 1000) (hc : c < 3) : Int64.toInt32 (jlushr (lN (E5 num b (O 2) (O 1) (O 0) p)) ((9 : Int32) * (nI c + (1 : Int32)))) &&& (511 : Int32) = nI (O c) := by
  have hf := Okp_f hO hb
  have hlt := E5_lt (n := num) hf hn
  rw [nI_1, i9, pk_mul]
  have hc' : c = 0 ∨ c = 1 ∨ c = 2 := by omega
  rcases hc' with rfl | rfl | rfl
  · rw [l_ushrN hlt (by decide), lN_i, nI_511]
    exact congrArg nI (E5_0 hf)
  · rw [l_ushrN hlt (by decide), lN_i, nI_511]
    exact congrArg nI (E5_1 hf)
  · rw [l_ushrN hlt (by decide), lN_i, nI_511]
    exact congrArg nI (E5_2 hf)
theorem x_work (S : Slv g num al bn lat L Gn) (hrc : CQ g num al L Gn rc n) {p b dep : Nat} {O : Nat → Nat} (hO : Okp p O) (hb : b ≤ 3) (h0 : p ≠ 0) (hn : pop p ≤ n + 1) (hd : dep + pop p ≤ 9) {P : Nat → Int64} {Q : Nat → Int32} (hP : CKs P Q L Gn) :
    ∃ P' Q', CKs P' Q' L Gn ∧ m_X4_workOut rc 1 (lN (E5 num b (O 2) (O 1) (O 0) p)) (nI dep) (wC g P Q) = some (nI (pk (gr (nrf al) 10 p O b)), wC g P' Q') := by
  obtain ⟨hz, S6, B, R, hnL, hL, hG⟩ := id S
  have hf := Okp_f hO hb
  have hlt := E5_lt (n := num) hf (by omega)
  have hp := hO.1
  have hban : Int64.toInt32 (jlushr (lN (E5 num b (O 2) (O 1) (O 0) p)) (36 : Int32) &&& (3 : Int64)) = nI b := by
    rw [i36, l_ushrN hlt (by decide), show (3 : Int64) = lN 3 from rfl, lN_and, lN_i]
    refine congrArg nI ?_
    exact (Nat.and_two_pow_sub_one_eq_mod _ 2).trans (E5_b hf)
  have loop : ∀ (K : Int32 → Int32 → Int32 → Hp → Option (Int32 × Hp)), ∃ P' Q', CKs P' Q' L Gn ∧ m_X4_workOut_L59 rc 1 (lN (E5 num b (O 2) (O 1) (O 0) p)) (nI dep) (decide (pop p = 1)) (nI b - 1) K LF (0 : Int32) (0 : Int32) (10 : Int32) (0 : Int32) (wC g P Q) = K (nI (gC1 (nrf al) p O b 3).1) (nI (gC1 (nrf al) p O b 3).2.1) (nI (gC1 (nrf al) p O b 3).2.2) (wC g P' Q') := by
    intro K
    have key := forQ (σ := (Nat → Int64) × (Nat → Int32)) (fun f i s => m_X4_workOut_L59 rc 1 (lN (E5 num b (O 2) (O 1) (O 0) p)) (nI dep) (decide (pop p = 1)) (nI b - 1) K f (nI (gC1 (nrf al) p O b i).1) (nI (gC1 (nrf al) p O b i).2.1) (nI (gC1 (nrf al) p O b i).2.2) (nI i) (wC g s.1 s.2)) 3 (fun _ s => CKs s.1 s.2 L Gn) (fun r => ∃ P' Q', CKs P' Q' L Gn ∧ r = K (nI (gC1 (nrf al) p O b 3).1) (nI (gC1 (nrf al) p O b 3).2.1) (nI (gC1 (nrf al) p O b 3).2.2) (wC g P' Q')) (fun f i s hi hI e => ?_) (fun f s hI => ?_) LF 0 (P, Q) (Nat.zero_le _) (by decide) hP
    · exact key
    · skip
      have e : ∀ P1 Q1, CKs P1 Q1 L Gn → ∃ P' Q', CKs P' Q' L Gn ∧ m_X4_workOut_L59 rc 1 (lN (E5 num b (O 2) (O 1) (O 0) p)) (nI dep) (decide (pop p = 1)) (nI b - 1) K f (nI (gC1 (nrf al) p O b (i + 1)).1) (nI (gC1 (nrf al) p O b (i + 1)).2.1) (nI (gC1 (nrf al) p O b (i + 1)).2.2) (nI (i + 1)) (wC g P1 Q1) = K (nI (gC1 (nrf al) p O b 3).1) (nI (gC1 (nrf al) p O b 3).2.1) (nI (gC1 (nrf al) p O b 3).2.2) (wC g P' Q') := fun P1 Q1 h1 => e (P1, Q1) h1
      obtain ⟨P0, Q0⟩ := s
      show ∃ P' Q', CKs P' Q' L Gn ∧ m_X4_workOut_L59 rc 1 (lN (E5 num b (O 2) (O 1) (O 0) p)) (nI dep) (decide (pop p = 1)) (nI b - 1) K (f + 1) (nI (gC1 (nrf al) p O b (i)).1) (nI (gC1 (nrf al) p O b (i)).2.1) (nI (gC1 (nrf al) p O b (i)).2.2) (nI (i)) (wC g P0 Q0) = K (nI (gC1 (nrf al) p O b 3).1) (nI (gC1 (nrf al) p O b 3).2.1) (nI (gC1 (nrf al) p O b 3).2.2) (wC g P' Q')
      have hI : CKs P0 Q0 L Gn := hI
      have hq := gC1_q (b := b) R hO i (by omega)
      have main : ∀ op, op < 512 → (∀ v, v < 9 → op.testBit v = lgl p O b v i) → ∃ P' Q', CKs P' Q' L Gn ∧ m_X4_workOut_L98 rc 1 (lN (E5 num b (O 2) (O 1) (O 0) p)) (nI dep) (decide (pop p = 1)) (nI b - 1) (nI i) (nI op) (fun v31 v32 v33 h34 => m_X4_workOut_L59 rc 1 (lN (E5 num b (O 2) (O 1) (O 0) p)) (nI dep) (decide (pop p = 1)) (nI b - 1) K f v31 v32 v33 (nI i + 1) h34) LF (nI (gC1 (nrf al) p O b i).1) (nI (gC1 (nrf al) p O b i).2.1) (nI (gC1 (nrf al) p O b i).2.2) (0 : Int32) (wC g P0 Q0) = K (nI (gC1 (nrf al) p O b 3).1) (nI (gC1 (nrf al) p O b 3).2.1) (nI (gC1 (nrf al) p O b 3).2.2) (wC g P' Q') := by
        intro op hop hlg
        obtain ⟨P1, Q1, hP1, e1⟩ := x_col (u23 := decide (pop p = 1)) (u24 := nI b - 1) S hrc hO hb hn hd hi hq (fun v31 v32 v33 h34 => m_X4_workOut_L59 rc 1 (lN (E5 num b (O 2) (O 1) (O 0) p)) (nI dep) (decide (pop p = 1)) (nI b - 1) K f v31 v32 v33 (nI i + 1) h34) hI hop hlg
        obtain ⟨P2, Q2, hP2, e2⟩ := e P1 Q1 hP1
        refine ⟨P2, Q2, hP2, e1.trans ?_⟩
        rw [nI_1]
        exact e2
      have hban2 : (nI i = nI b - 1) = (i + 1 = b) := by
        have := nI_sub1 (a := i + 1) (b := b) (by omega) (by omega)
        rw [nI_pred] at this
        exact propext this
      have hOi := Okp_lt hO i
      rw [m_X4_workOut_L59, i3, iNle hi (by decide)]
      simp only [e_jK, e_nm, m_X4_setShift, Option.bind_some]
      rw [x_open hO hb (by omega) hi]
      by_cases h1 : i + 1 = b
      · rw [if_pos (by rw [hban2]; exact h1)]
        by_cases h2 : pop p = 1
        · rw [decide_eq_true h2, if_pos rfl]
          have m1 := main (O i) hOi fun v _ => by
            unfold lgl
            rw [h2]
            simp
          rw [decide_eq_true h2] at m1
          exact m1
        · rw [decide_eq_false h2, if_neg (by decide)]
          have m0 := main 0 (by decide) fun v _ => by
            unfold lgl
            rw [Nat.zero_testBit, h1]
            simp [h2]
          rw [decide_eq_false h2] at m0
          exact m0
      · rw [if_neg (by rw [hban2]; exact h1)]
        refine main (O i) hOi fun v _ => ?_
        unfold lgl
        simp [h1]
    · obtain ⟨P0, Q0⟩ := s
      refine ⟨P0, Q0, hI, ?_⟩
      show m_X4_workOut_L59 rc 1 (lN (E5 num b (O 2) (O 1) (O 0) p)) (nI dep) (decide (pop p = 1)) (nI b - 1) K (f + 1) (nI (gC1 (nrf al) p O b (3)).1) (nI (gC1 (nrf al) p O b (3)).2.1) (nI (gC1 (nrf al) p O b (3)).2.2) (nI (3)) (wC g P0 Q0) = _
      rw [m_X4_workOut_L59, i3, iLe (Nat.le_refl _) (by decide)]
  unfold m_X4_workOut
  have h9 := pop_le (s := p)
  rw [i9, iLe (by omega) (by decide)]
  simp only [e_jK, e_nm]
  rw [lN_i, nI_511, E5_p hf, hban]
  have hq := gC1_q (b := b) R hO 3 (Nat.le_refl _)
  have hbd := gr_b9 (b := b) R hO
  have fin : ∀ H : Hp, (if nI (gC1 (nrf al) p O b 3).1 = 0 then some ((0 : Int32), H) else (m_X5_least (nI (gC1 (nrf al) p O b 3).1 ^^^ (-1 : Int32))).bind fun x59 => (m_X5_answerOf x59 (nI (gC1 (nrf al) p O b 3).2.1) (nI (gC1 (nrf al) p O b 3).2.2)).bind fun x60 => some (x60, H)) = some (nI (pk (gr (nrf al) 10 p O b)), H) := by
    intro H
    rw [gr_C1 hO] at hbd ⊢
    unfold fin3 at hbd ⊢
    rw [iZ (by have := hq.1; omega)]
    by_cases hz0 : (gC1 (nrf al) p O b 3).1 = 0
    · rw [if_pos hz0, if_pos hz0]
      rfl
    · rw [if_neg hz0] at hbd ⊢
      rw [if_neg hz0, x_mex hq.1, Option.bind_some]
      have h1 : mex (gC1 (nrf al) p O b 3).1 ≤ pop p := hbd.1
      have h2 : (gC1 (nrf al) p O b 3).2.1 ≤ pop p := hbd.2.1
      have h3 : (gC1 (nrf al) p O b 3).2.2 ≤ pop p := hbd.2.2
      rw [c_answer (by omega) (by omega) (by omega), Option.bind_some]
  by_cases h1 : pop p = 1
  · rw [if_pos (by rw [x_alone hp h0]; exact h1)]
    have l1 := fun K => loop K
    rw [decide_eq_true h1] at l1
    obtain ⟨P', Q', hP', e⟩ := l1 (fun v14 v15 v16 h17 => if v14 = 0 then some ((0 : Int32), h17) else (m_X5_least (v14 ^^^ (-1 : Int32))).bind fun x59 => (m_X5_answerOf x59 v15 v16).bind fun x60 => some (x60, h17))
    exact ⟨P', Q', hP', e.trans (fin _)⟩
  · rw [if_neg (by rw [x_alone hp h0]; exact h1)]
    have l1 := fun K => loop K
    rw [decide_eq_false h1] at l1
    obtain ⟨P', Q', hP', e⟩ := l1 (fun v14 v15 v16 h17 => if v14 = 0 then some ((0 : Int32), h17) else (m_X5_least (v14 ^^^ (-1 : Int32))).bind fun x59 => (m_X5_answerOf x59 v15 v16).bind fun x60 => some (x60, h17))
    exact ⟨P', Q', hP', e.trans (fin _)⟩
theorem x_placeB (S : Slv g num al bn lat L Gn) (hrc : CQ g num al L Gn rc n) : CQ g num al L Gn (m_X4_ofPlace_B rc) (n + 1) := by
  intro P Q p b dep O hP hO h0 hb hn hd
  obtain ⟨hz, S6, B, R, hnL, hL, hG⟩ := id S
  obtain ⟨k, hk, ek⟩ := l_slot (lN (E5 num b (O 2) (O 1) (O 0) p) * (-7046029254386353131 : Int64))
  unfold m_X4_ofPlace_B
  simp only [e_nm]
  rw [ek, iNeg (by omega), s_p S, Option.bind_some, at_aN (w_7 hz), Option.bind_some, iNle hk (by decide), s_q S, Option.bind_some, at_aN (w_8 hz), Option.bind_some, iLt hk (by decide), Option.bind_some, at_aL (w_7 hz) hk (by decide), Option.bind_some]
  simp only [e_jK]
  by_cases e : P k = lN (E5 num b (O 2) (O 1) (O 0) p)
  · refine ⟨P, Q, hP, ?_⟩
    rw [if_pos ((lg_cmp_eq _ _).mpr e), s_q S, Option.bind_some, at_aI (w_8 hz) hk (by decide), Option.bind_some, CK_get hL hP hk hnL hb hO h0 e, hG]
  · obtain ⟨P1, Q1, hP1, e1⟩ := x_work S hrc hO hb h0 hn hd hP
    refine ⟨vp_updL P1 k (lN (E5 num b (O 2) (O 1) (O 0) p)), upd Q1 k (nI (pk (gr (nrf al) 10 p O b))), by
      have := CK_put (s := k) hP1 hnL hb hO h0
      rw [hG] at this
      exact this, ?_⟩
    rw [if_neg (fun q => e ((lg_cmp_eq _ _).mp q)), s_cv S, e1]
    simp only [e_b2, Option.bind_some]
    rw [s_p S, Option.bind_some, at_sL (w_7 hz) hk (by decide), Option.bind_some, w_set7, s_q S, Option.bind_some, at_sI (w_8 hz) hk (by decide), Option.bind_some, w_set8, s_q S, Option.bind_some, at_aI (w_8 hz) hk (by decide), Option.bind_some]
    rw [nar_0, pk_us]
theorem x_place (S : Slv g num al bn lat L Gn) : ∀ d, CQ g num al L Gn (m_X4_ofPlace d) d
  | 0 => fun P Q p b dep O _ hO h0 _ hn _ => absurd (pop_0 hO.1 (Nat.le_zero.mp hn)) h0
  | d + 1 => x_placeB S (x_place S d)
end SV
