/-! the two readers: letters; what they keep in common; a vertex -/
def lsl (c : Nat → Nat) (C : Nat) : Nat → Nat → Nat → Nat
  | 0, _, w => w
  | f + 1, i, w => if C ≤ c i - 97 then 0 else if w.testBit (c i - 97) = true then 0 else lsl c C f (i + 1) (w ||| 2 ^ (c i - 97))
def lstN (c : Nat → Nat) (C n s : Nat) : Nat := lsl c C (tkE c n s - s) s 0
theorem spn_all {P : Nat → Bool} {n : Nat} : ∀ f s i, s ≤ i → i < spn P n f s → P i = true ∧ i < n := by
  intro f
  induction f with
  | zero => intro s i h1 h2; exact absurd h2 (by show ¬ i < s; omega)
  | succ f ih =>
    intro s i h1 h2
    rw [spn] at h2
    by_cases hc : s < n ∧ P s = true
    · rw [if_pos hc] at h2
      by_cases e : i = s
      · rw [e]; exact ⟨hc.2, hc.1⟩
      · exact ih (s + 1) i (by omega) h2
    · rw [if_neg hc] at h2
      omega
theorem word_l {c : Nat → Nat} {n s i : Nat} (hT : tT c n s = 0) (h1 : s ≤ i) (h2 : i < tkE c n s) : 97 ≤ c i ∧ c i ≤ 122 ∧ i < n := by
  have hs := tT_lt (show tT c n s ≠ 3 by omega)
  have hl : ltr (c s) = true := by
    unfold tT at hT
    rw [if_neg (by omega)] at hT
    by_cases h : ltr (c s) = true
    · exact h
    · rw [if_neg h] at hT
      by_cases h3 : dgi (c s) = true
      · rw [if_pos h3] at hT; cases hT
      · rw [if_neg h3] at hT; cases hT
  unfold tkE at h2
  rw [if_neg (by omega), if_pos hl] at h2
  have := spn_all _ _ _ h1 h2
  have h3 := of_decide_eq_true (show decide (97 ≤ c i ∧ c i ≤ 122) = true from this.1)
  exact ⟨h3.1, h3.2, this.2⟩
theorem lsl_lt {c : Nat → Nat} {C : Nat} : ∀ f i w, w < 2 ^ C → lsl c C f i w < 2 ^ C := by
  intro f
  induction f with
  | zero => intro i w h; exact h
  | succ f ih =>
    intro i w h
    rw [lsl]
    by_cases h1 : C ≤ c i - 97
    · rw [if_pos h1]; exact Nat.two_pow_pos C
    · rw [if_neg h1]
      by_cases h2 : w.testBit (c i - 97) = true
      · rw [if_pos h2]; exact Nat.two_pow_pos C
      · rw [if_neg h2]
        exact ih _ _ (Nat.or_lt_two_pow h (Nat.pow_lt_pow_right (by decide) (by omega)))
theorem lstN_lt {c : Nat → Nat} {C n s : Nat} : lstN c C n s < 2 ^ C := lsl_lt _ _ _ (Nat.two_pow_pos C)
theorem all_bit {C k : Nat} (hC : C ≤ 3) (hk : k < 31) : (2 ^ C - 1).testBit k = decide (k < C) := (by decide +kernel : ∀ C, C < 4 → ∀ k, k < 31 → (2 ^ C - 1).testBit k = decide (k < C)) C (by omega) k hk
section LTC
variable {g : Hp} {fB : Nat → Int32} {c : Nat → Nat} {n s num : Nat} {fl ea er nu : Int32} {al b : Nat → Nat} {lat : Option Nat}
theorem x_list (hL : Lx g fB c n) (hs : s ≤ n) (hT : tT c n s = 0) (B : BdH (CS fl ea er nu c n s g) 10 num al b lat) (hC : al 1 ≤ 3) : m_X3_listHere 9 (CS fl ea er nu c n s g) = some (nI (lstN c (al 1) n s)) := by
  have hz := hL.1
  have hn := hL.2.2.1
  have hE := tkE_le (c := c) hs
  have ec : ∀ {ρ : Type} {r : Option ρ}, cv (CS fl ea er nu c n s g) 3 9 r = r := fun {ρ} {r} => d_cv hz
  have e7 : gI (CS fl ea er nu c n s g) 3 9 7 = some (nI s) := d_7 hz
  have e8 : gI (CS fl ea er nu c n s g) 3 9 8 = some (nI (tkE c n s)) := d_8 hz
  have e0 : gR (CS fl ea er nu c n s g) 3 9 0 = some 10 := d_0 hz
  unfold m_X3_listHere lstN
  rw [e7, Option.bind_some, i0]
  have key : ∀ f i w F, f + i = tkE c n s → s ≤ i → w < 2 ^ al 1 → f < F → m_X3_listHere_L7 9 (CS fl ea er nu c n s g) (fun v5 => some v5) (some (nI 0)) F (nI w) (nI i) = some (nI (lsl c (al 1) f i w)) := by
    intro f
    induction f with
    | zero =>
      intro i w F h1 h2 h3 h4
      obtain ⟨F, rfl⟩ : ∃ k, F = k + 1 := ⟨F - 1, by omega⟩
      rw [m_X3_listHere_L7, e8, Option.bind_some, iLe (by omega) (by omega)]
      rfl
    | succ f ih =>
      intro i w F h1 h2 h3 h4
      obtain ⟨F, rfl⟩ : ∃ k, F = k + 1 := ⟨F - 1, by omega⟩
      have hl := word_l hT h2 (show i < tkE c n s by omega)
      have eb : m_X3_byteAt 9 (nI i) (CS fl ea er nu c n s g) = some (nI (c i)) := (x_byteAt hL (by omega)).trans (by rw [if_pos hl.2.2])
      rw [m_X3_listHere_L7, e8, Option.bind_some, iNle (by omega) (by omega), ec, eb, Option.bind_some]
      simp only [e_nm]
      rw [show (97 : Int32) = nI 97 from rfl, pk_sub hl.1, e0, Option.bind_some, bd_cv B, x_everyColour B (by omega), Option.bind_some, m_has (by omega), Option.bind_some, all_bit hC (by omega), lsl]
      by_cases h5 : al 1 ≤ c i - 97
      · rw [if_pos h5, decide_eq_false (by omega), if_neg (by decide)]
      · rw [if_neg h5, decide_eq_true (by omega), if_pos rfl, m_has (by omega), Option.bind_some]
        by_cases h6 : w.testBit (c i - 97) = true
        · rw [if_pos h6, if_pos h6]
        · rw [if_neg h6, if_neg h6, nI_sh (by omega), nI_or, nI_1]
          exact ih (i + 1) _ F (by omega) (by omega) (Nat.or_lt_two_pow h3 (Nat.pow_lt_pow_right (by decide) (by omega))) (by omega)
  exact key (tkE c n s - s) s 0 LF (by omega) (Nat.le_refl _) (Nat.two_pow_pos _) (by unfold LF; omega)
end LTC
section LTR
variable {v : Nat → Int32} {A : Nat → Nat → Int32} {h : Hp} {c : Nat → Nat} {n s : Nat} {m wr wa x : Int32} {al : Nat → Nat}
theorem y_list (hL : Ly v A h c n) (hs : s ≤ n) (hT : tT c n s = 0) (ha : AlF A al) (hC : al 1 ≤ 3) : m_X6_lettersHere 20 (RS v m wr wa c n s A h) = some (nI (lstN c (al 1) n s)) := by
  have hz := hL.1
  have hn := hL.2.2.1
  have hE := tkE_le (c := c) hs
  have hp : 2 ^ al 1 ≤ 8 := Nat.le_trans (Nat.pow_le_pow_right (by decide) hC) (by decide)
  have a1 : aI (RS v m wr wa c n s A h) 0 21 (nI 1) = some (nI (al 1)) := (q_a0 hz (by decide)).trans (congrArg some (ha 1 (by decide)))
  unfold m_X6_lettersHere lstN
  rw [q_11 hz, Option.bind_some, i0]
  have key : ∀ f i w F, f + i = tkE c n s → s ≤ i → w < 2 ^ al 1 → f < F → m_X6_lettersHere_L7 20 (RS v m wr wa c n s A h) (fun v5 => some v5) (some (nI 0)) F (nI w) (nI i) = some (nI (lsl c (al 1) f i w)) := by
    intro f
    induction f with
    | zero =>
      intro i w F h1 h2 h3 h4
      obtain ⟨F, rfl⟩ : ∃ k, F = k + 1 := ⟨F - 1, by omega⟩
      rw [m_X6_lettersHere_L7, q_12 hz, Option.bind_some, iLe (by omega) (by omega)]
      rfl
    | succ f ih =>
      intro i w F h1 h2 h3 h4
      obtain ⟨F, rfl⟩ : ∃ k, F = k + 1 := ⟨F - 1, by omega⟩
      have hl := word_l hT h2 (show i < tkE c n s by omega)
      have r : aI (RS v m wr wa c n s A h) 0 27 (nI i) = some (A 6 i) := r_aI (i := 6) hz (by decide) (by show i < 500; omega)
      rw [m_X6_lettersHere_L7, q_12 hz, Option.bind_some, iNle (by omega) (by omega), show gR (RS v m wr wa c n s A h) 6 20 8 = some 27 from r_27 hz, Option.bind_some, r, Option.bind_some, (hL.2.2.2 i hl.2.2).1]
      simp only [e_nm]
      rw [show (97 : Int32) = nI 97 from rfl, pk_sub hl.1, q_a hz, Option.bind_some, show (1 : Int32) = nI 1 from rfl, a1, Option.bind_some, lsl]
      by_cases h5 : al 1 ≤ c i - 97
      · rw [if_pos h5, iLe h5 (by omega)]
      · rw [if_neg h5, iNle (by omega) (by omega), show nI 1 = (1 : Int32) from rfl, nI_bit (by omega) (by omega)]
        by_cases h6 : w.testBit (c i - 97) = true
        · rw [if_pos h6, h6, if_pos (by decide)]
        · rw [if_neg h6, Bool.eq_false_iff.mpr h6, if_neg (by decide), nI_sh (by omega), nI_or, nI_1]
          exact ih (i + 1) _ F (by omega) (by omega) (Nat.or_lt_two_pow h3 (Nat.pow_lt_pow_right (by decide) (by omega))) (by omega)
  exact key (tkE c n s - s) s 0 LF (by omega) (Nat.le_refl _) (Nat.two_pow_pos _) (by unfold LF; omega)
end LTR
def InD (a : Nat) : Prop := 9 ≤ a ∧ a ≤ 14
def RawB (al b : Nat → Nat) : Prop := al 3 = 0 ∧ (∀ v, v < 9 → al (22 + v) = 0 ∧ al (31 + v) = 0) ∧ ∀ c, c < 3 → b c = 0
theorem RawB_W {al b : Nat → Nat} (h : RawB al b) (R : Rg al) (h1 : 1 ≤ al 1) (h2 : (al 1 + 1) ^ al 0 ≤ 20000) : WfB al ∧ Bk al b := by
  refine ⟨⟨R, ⟨h2, h1, fun v hv => ?_⟩, fun u w hu hw => ?_⟩, fun c hc => ⟨?_, fun v hv => ?_⟩⟩
  · rw [(h.2.1 v hv).1, (h.2.1 v hv).2]
    exact ⟨Nat.zero_le _, Nat.zero_le _⟩
  · have hr := rch_lt (nr := nrf al) (s := 2 ^ u) (fre_lt R)
    have hw9 : w < 9 := by
      refine Nat.lt_of_not_le fun e => ?_
      rw [tb_ge (n := 9) hr e] at hw
      cases hw
    have hu9 : u < 9 := Nat.lt_of_lt_of_le (fre_0 hu).1 R.1
    rw [(h.2.1 w hw9).2, (h.2.1 u hu9).2]
  · rw [h.2.2 c hc]; decide
  · have hv9 : v < 9 := Nat.lt_of_lt_of_le (fre_0 hv).1 R.1
    rw [h.2.2 c hc, Nat.zero_testBit, (h.2.1 v hv9).2]
    rfl
def PIv (fB : Nat → Int32) (c : Nat → Nat) (n : Nat) (v : Nat → Int32) (h g0 g : Hp) (A0 A : Nat → Nat → Int32) (al b : Nat → Nat) : Prop :=
  Lx g fB c n ∧ Ly v A h c n ∧ (∃ num lat, BdH g 10 num al b lat ∧ Chn g al (al 3) lat) ∧ Bk al b ∧ AlF A al ∧ WfB al ∧ al 3 + pop (fre al) + al 2 ≤ 18 ∧ Fr g0 g InD (al 3) (5 * al 3) ∧ 32 ≤ g.2.1 ∧ ∀ j, j ≠ 0 → A j = A0 j
def JF (fl : Int32) (c : Nat → Nat) (n : Nat) (v : Nat → Int32) (h g0 : Hp) (A0 : Nat → Nat → Int32) (cls : Option (Bool × Hp)) (ref : Option Hp) : Prop :=
  ∃ (code nu m : Int32) (g : Hp) (A : Nat → Nat → Int32) (s : Nat), cls = some (false, CS fl (nI s) code nu c n s g) ∧ ref = some (RS v m code (nI s) c n s A h) ∧ code ≠ 0 ∧ s ≤ n ∧ Fr g0 g InD 18 90 ∧ BdS g 10 ∧ ∀ j, j ≠ 0 → A j = A0 j
def JOk (fl ea er wa : Int32) (fB : Nat → Int32) (c : Nat → Nat) (n : Nat) (v : Nat → Int32) (h g0 : Hp) (A0 : Nat → Nat → Int32) (X : (Nat → Nat) → (Nat → Nat) → Nat → Prop) (cls : Option (Bool × Hp)) (ref : Option Hp) : Prop :=
  (∃ (nu m : Int32) (g : Hp) (A : Nat → Nat → Int32) (al b : Nat → Nat) (s : Nat), cls = some (true, CS fl ea er nu c n s g) ∧ ref = some (RS v m 0 wa c n s A h) ∧ NuOk c n s nu m ∧ s ≤ n ∧ PIv fB c n v h g0 g A0 A al b ∧ X al b s) ∨ JF fl c n v h g0 A0 cls ref
section PIS
variable {fB : Nat → Int32} {c : Nat → Nat} {n s s' : Nat} {v : Nat → Int32} {h g0 g g' : Hp} {A0 A A' : Nat → Nat → Int32} {al b al' b' : Nat → Nat} {fl ea er nu wa m nu' ea' er' : Int32}
theorem cs_fr : Fr g (CS fl ea er nu c n s g) (fun a => a = 9) 0 0 := Fr_set rfl
theorem cs_bd {num : Nat} {lat : Option Nat} (B : BdH g 10 num al b lat) : BdH (CS fl ea er nu c n s g) 10 num al b lat := Fr_bd cs_fr B fun i hi => (by show ¬ 10 + i = 9; omega)
theorem cs_ch {k : Nat} {lat : Option Nat} (C : Chn g al k lat) : Chn (CS fl ea er nu c n s g) al k lat := Chn_fr cs_fr (fun a fs h32 _ => by show ¬ a = 9; omega) _ _ C
/-- after a change of the draft the class's reader stands as it stood -/
theorem cs_back {k k' : Nat} (hz : 9 < g.2.1) (F : Fr (CS fl ea er nu c n s g) g' (InB 10) k k') : CS fl ea er nu c n s g' = g' := hset_self (Fr_at F (d_at hz) (by unfold InB; omega))
theorem Lx_fr {k k' : Nat} (hL : Lx g fB c n) (F : Fr (CS fl ea er nu c n s g) g' (InB 10) k k') : Lx g' fB c n := by
  have F' := Fr_trans (Fr_mono (cs_fr (fl := fl) (ea := ea) (er := er) (nu := nu) (c := c) (n := n) (s := s) (g := g)) (T := InD) (fun a e => by show 9 ≤ a ∧ a ≤ 14; have : a = 9 := e; omega) (Nat.le_refl _) (Nat.le_refl _)) (Fr_mono F (T := InD) (fun a e => by show 9 ≤ a ∧ a ≤ 14; have : 10 ≤ a ∧ a ≤ 10 + 4 := e; omega) (Nat.le_refl _) (Nat.le_refl _))
  exact ⟨Nat.lt_of_lt_of_le hL.1 F'.1, Fr_at F' hL.2.1 (by unfold InD; omega), hL.2.2⟩
theorem Fr_cs {k k' k1 k1' : Nat} (F0 : Fr g0 g InD k k') (F : Fr (CS fl ea er nu c n s g) g' (InB 10) k1 k1') : Fr g0 g' InD (k + k1) (k' + k1') := by
  have F1 := Fr_trans F0 (Fr_mono (cs_fr (fl := fl) (ea := ea) (er := er) (nu := nu) (c := c) (n := n) (s := s) (g := g)) (T := InD) (fun a e => by show 9 ≤ a ∧ a ≤ 14; have : a = 9 := e; omega) (Nat.le_refl 0) (Nat.le_refl 0))
  exact Fr_trans F1 (Fr_mono F (T := InD) (fun a e => by show 9 ≤ a ∧ a ≤ 14; have : 10 ≤ a ∧ a ≤ 10 + 4 := e; omega) (Nat.le_refl _) (Nat.le_refl _))
theorem Ly_A (hL : Ly v A h c n) (e : A' 6 = A 6) : Ly v A' h c n := ⟨hL.1, hL.2.1, hL.2.2.1, by rw [e]; exact hL.2.2.2⟩
/-- a failure of both at the token s -/
theorem JF_mk {code : Int32} (P : PIv fB c n v h g0 g A0 A al b) (hs : s ≤ n) (hc : code ≠ 0) : JF fl c n v h g0 A0 (some (false, CS fl (nI s) code nu c n s g)) (some (RS v m code (nI s) c n s A h)) := by
  obtain ⟨_, _, ⟨num, lat, B, _⟩, _, _, _, h18, F, _, hA⟩ := P
  exact ⟨code, nu, m, g, A, s, rfl, rfl, hc, hs, Fr_mono F (fun _ e => e) (by omega) (by omega), BdH_S B, hA⟩
end PIS
