/-! the two readers: tokens -/
def dO (fl ea ln er kd st en nu : Int32) : List Value := [.ref 10, .int fl, .int ea, .ref 15, .int ln, .int er, .int kd, .int st, .int en, .int nu]
def setD (fl ea ln er kd st en nu : Int32) (h : Hp) : Hp := hset h 9 (.inr (3, dO fl ea ln er kd st en nu))
def ltr (x : Nat) : Bool := decide (97 ≤ x ∧ x ≤ 122)
def dgi (x : Nat) : Bool := decide (48 ≤ x ∧ x ≤ 57)
def spn (P : Nat → Bool) (n : Nat) : Nat → Nat → Nat
  | 0, i => i
  | f + 1, i => if i < n ∧ P i = true then spn P n f (i + 1) else i
def dgv (c : Nat → Nat) (n : Nat) : Nat → Nat → Nat → Nat
  | 0, _, r => r
  | f + 1, i, r => if i < n ∧ dgi (c i) = true then dgv c n f (i + 1) (if 10000 ≤ r then r else 10 * r + c i - 48) else r
def tS (c : Nat → Nat) (n e : Nat) : Nat := spn (fun i => decide (c i = 32)) n (n - e) e
def tT (c : Nat → Nat) (n s : Nat) : Nat := if n ≤ s then 3 else if ltr (c s) = true then 0 else if dgi (c s) = true then 1 else 2
def tkE (c : Nat → Nat) (n s : Nat) : Nat := if n ≤ s then s else if ltr (c s) = true then spn (fun i => ltr (c i)) n (n - s) s else if dgi (c s) = true then spn (fun i => dgi (c i)) n (n - s) s else s + 1
def tR (c : Nat → Nat) (n s : Nat) : Nat := dgv c n (n - s) s 0
def ckd (c : Nat → Nat) (n s : Nat) : Nat := if n ≤ s then 0 else if ltr (c s) = true then 1 else if dgi (c s) = true then 2 else if c s = 59 then 3 else 4
def Lx (h : Hp) (fB : Nat → Int32) (c : Nat → Nat) (n : Nat) : Prop := 9 < h.2.1 ∧ At h 15 (.inl (2, 500, .inl fB)) ∧ n ≤ 500 ∧ ∀ i, i < n → fB i &&& (255 : Int32) = nI (c i) ∧ c i < 256
theorem spn_le {P : Nat → Bool} {n : Nat} : ∀ f i, i ≤ n → i ≤ spn P n f i ∧ spn P n f i ≤ n := by
  intro f
  induction f with
  | zero => intro i hi; exact ⟨Nat.le_refl _, hi⟩
  | succ f ih =>
    intro i hi
    rw [spn]
    by_cases hc : i < n ∧ P i = true
    · rw [if_pos hc]
      have := ih (i + 1) (by omega)
      exact ⟨by omega, this.2⟩
    · rw [if_neg hc]
      exact ⟨Nat.le_refl _, hi⟩
theorem spn_s {P : Nat → Bool} {n f i : Nat} (hi : i < n) (hP : P i = true) : spn P n (f + 1) i = spn P n f (i + 1) := by rw [spn, if_pos (show i < n ∧ P i = true from ⟨hi, hP⟩)]
theorem dgv_s {c : Nat → Nat} {n f i r : Nat} (hi : i < n) (hP : dgi (c i) = true) : dgv c n (f + 1) i r = dgv c n f (i + 1) (if 10000 ≤ r then r else 10 * r + c i - 48) := by rw [dgv, if_pos (show i < n ∧ dgi (c i) = true from ⟨hi, hP⟩)]
theorem tS_le {c : Nat → Nat} {n e : Nat} (he : e ≤ n) : e ≤ tS c n e ∧ tS c n e ≤ n := spn_le _ _ he
theorem tkE_le {c : Nat → Nat} {n s : Nat} (hs : s ≤ n) : s ≤ tkE c n s ∧ tkE c n s ≤ n := by
  unfold tkE
  by_cases h : n ≤ s
  · rw [if_pos h]; omega
  · rw [if_neg h]
    by_cases h1 : ltr (c s) = true
    · rw [if_pos h1]; exact spn_le _ _ hs
    · rw [if_neg h1]
      by_cases h2 : dgi (c s) = true
      · rw [if_pos h2]; exact spn_le _ _ hs
      · rw [if_neg h2]; omega
theorem dgv_lt {c : Nat → Nat} {n : Nat} : ∀ f i r, r < 100000 → dgv c n f i r < 100000 := by
  intro f
  induction f with
  | zero => intro i r hr; exact hr
  | succ f ih =>
    intro i r hr
    rw [dgv]
    by_cases hc : i < n ∧ dgi (c i) = true
    · rw [if_pos hc]
      have hd := of_decide_eq_true (show decide (48 ≤ c i ∧ c i ≤ 57) = true from hc.2)
      refine ih _ _ ?_
      by_cases h1 : 10000 ≤ r
      · rw [if_pos h1]; exact hr
      · rw [if_neg h1]; omega
    · rw [if_neg hc]; exact hr
theorem tR_lt {c : Nat → Nat} {n s : Nat} : tR c n s < 100000 := dgv_lt _ _ _ (by decide)
theorem i_ltr : ∀ x, x < 256 → m_X3_isLetter (nI x) = some (ltr x) := by decide +kernel
theorem i_dgi : ∀ x, x < 256 → m_X3_isDigit (nI x) = some (dgi x) := by decide +kernel
theorem j_ltr : ∀ x, x < 256 → m_X6_isIn (nI x) (97 : Int32) (122 : Int32) = some (ltr x) := by decide +kernel
theorem j_dgi : ∀ x, x < 256 → m_X6_isIn (nI x) (48 : Int32) (57 : Int32) = some (dgi x) := by decide +kernel
theorem j_dgm : m_X6_isIn (-1 : Int32) (48 : Int32) (57 : Int32) = some false := by decide +kernel
theorem j_ltm : m_X6_isIn (-1 : Int32) (97 : Int32) (122 : Int32) = some false := by decide +kernel
theorem i_ltm : m_X3_isLetter (-1 : Int32) = some false := by decide +kernel
theorem i_dgm : m_X3_isDigit (-1 : Int32) = some false := by decide +kernel
theorem nI_neL {a b : Nat} {x : Int32} (ha : a < 2 ^ 31) (hb : b < 2 ^ 31) (hx : x = nI b) (h : a ≠ b) : ¬ nI a = x := fun e => h ((nI_eq ha hb).mp (e.trans hx))
theorem at_hs {h : Hp} {a : Nat} {c : Ac} (hz : a < h.2.1) : At (hset h a c) a c := ⟨hz, if_pos rfl⟩
section RDR
variable {h : Hp} {fB : Nat → Int32} {c : Nat → Nat} {n : Nat} {fl ea ln er kd st en nu : Int32}
theorem d_at (hz : 9 < h.2.1) : At (setD fl ea ln er kd st en nu h) 9 (.inr (3, dO fl ea ln er kd st en nu)) := at_hs hz
theorem d_cv (hz : 9 < h.2.1) {ρ : Type} {r : Option ρ} : cv (setD fl ea ln er kd st en nu h) 3 9 r = r := at_cv (d_at hz)
theorem d_0 (hz : 9 < h.2.1) : gR (setD fl ea ln er kd st en nu h) 3 9 0 = some 10 := at_gR (d_at hz) rfl
theorem d_3 (hz : 9 < h.2.1) : gR (setD fl ea ln er kd st en nu h) 3 9 3 = some 15 := at_gR (d_at hz) rfl
theorem d_1 (hz : 9 < h.2.1) : gI (setD fl ea ln er kd st en nu h) 3 9 1 = some fl := at_gI (d_at hz) rfl
theorem d_p1 (hz : 9 < h.2.1) {x : Int32} : pV (setD fl ea ln er kd st en nu h) 3 9 1 (.int x) = some (setD x ea ln er kd st en nu h) := (at_pV (d_at hz) (by show 1 < 10; decide)).trans (congrArg some hset_hset)
theorem d_2 (hz : 9 < h.2.1) : gI (setD fl ea ln er kd st en nu h) 3 9 2 = some ea := at_gI (d_at hz) rfl
theorem d_p2 (hz : 9 < h.2.1) {x : Int32} : pV (setD fl ea ln er kd st en nu h) 3 9 2 (.int x) = some (setD fl x ln er kd st en nu h) := (at_pV (d_at hz) (by show 2 < 10; decide)).trans (congrArg some hset_hset)
theorem d_4 (hz : 9 < h.2.1) : gI (setD fl ea ln er kd st en nu h) 3 9 4 = some ln := at_gI (d_at hz) rfl
theorem d_p4 (hz : 9 < h.2.1) {x : Int32} : pV (setD fl ea ln er kd st en nu h) 3 9 4 (.int x) = some (setD fl ea x er kd st en nu h) := (at_pV (d_at hz) (by show 4 < 10; decide)).trans (congrArg some hset_hset)
theorem d_5 (hz : 9 < h.2.1) : gI (setD fl ea ln er kd st en nu h) 3 9 5 = some er := at_gI (d_at hz) rfl
theorem d_p5 (hz : 9 < h.2.1) {x : Int32} : pV (setD fl ea ln er kd st en nu h) 3 9 5 (.int x) = some (setD fl ea ln x kd st en nu h) := (at_pV (d_at hz) (by show 5 < 10; decide)).trans (congrArg some hset_hset)
theorem d_6 (hz : 9 < h.2.1) : gI (setD fl ea ln er kd st en nu h) 3 9 6 = some kd := at_gI (d_at hz) rfl
theorem d_p6 (hz : 9 < h.2.1) {x : Int32} : pV (setD fl ea ln er kd st en nu h) 3 9 6 (.int x) = some (setD fl ea ln er x st en nu h) := (at_pV (d_at hz) (by show 6 < 10; decide)).trans (congrArg some hset_hset)
theorem d_7 (hz : 9 < h.2.1) : gI (setD fl ea ln er kd st en nu h) 3 9 7 = some st := at_gI (d_at hz) rfl
theorem d_p7 (hz : 9 < h.2.1) {x : Int32} : pV (setD fl ea ln er kd st en nu h) 3 9 7 (.int x) = some (setD fl ea ln er kd x en nu h) := (at_pV (d_at hz) (by show 7 < 10; decide)).trans (congrArg some hset_hset)
theorem d_8 (hz : 9 < h.2.1) : gI (setD fl ea ln er kd st en nu h) 3 9 8 = some en := at_gI (d_at hz) rfl
theorem d_p8 (hz : 9 < h.2.1) {x : Int32} : pV (setD fl ea ln er kd st en nu h) 3 9 8 (.int x) = some (setD fl ea ln er kd st x nu h) := (at_pV (d_at hz) (by show 8 < 10; decide)).trans (congrArg some hset_hset)
theorem d_9 (hz : 9 < h.2.1) : gI (setD fl ea ln er kd st en nu h) 3 9 9 = some nu := at_gI (d_at hz) rfl
theorem d_p9 (hz : 9 < h.2.1) {x : Int32} : pV (setD fl ea ln er kd st en nu h) 3 9 9 (.int x) = some (setD fl ea ln er kd st en x h) := (at_pV (d_at hz) (by show 9 < 10; decide)).trans (congrArg some hset_hset)
theorem x_byteAt (hL : Lx h fB c n) {i : Nat} (hi : i < 2 ^ 31) : m_X3_byteAt 9 (nI i) (setD fl ea (nI n) er kd st en nu h) = some (if i < n then nI (c i) else (-1 : Int32)) := by
  have hz := hL.1
  have hn := hL.2.2.1
  have A : At (setD fl ea (nI n) er kd st en nu h) 15 (.inl (2, 500, .inl fB)) := at_set_ne hL.2.1 (by decide)
  unfold m_X3_byteAt
  simp only [e_jK]
  rw [iNeg hi, d_4 hz, Option.bind_some]
  by_cases h1 : i < n
  · rw [iNle h1 (by omega), d_3 hz, Option.bind_some, at_aN A, Option.bind_some, iNle (by omega) (by decide), if_pos trivial, Option.bind_some, at_aI A (by omega) (by decide), Option.bind_some, (hL.2.2.2 i h1).1, if_pos h1]
  · rw [iLe (by omega) hi, if_neg (by decide), if_neg h1]
theorem x_skip (hL : Lx h fB c n) {K : Hp → Option Hp} : ∀ f i F, n - i ≤ f → i ≤ n → f < F → m_X3_advance_L8 9 K F (setD fl ea (nI n) er kd (nI i) en nu h) = K (setD fl ea (nI n) er kd (nI (spn (fun j => decide (c j = 32)) n f i)) en nu h) := by
  have hz := hL.1
  have hn := hL.2.2.1
  intro f
  induction f with
  | zero =>
    intro i F h1 h2 h3
    obtain ⟨F, rfl⟩ : ∃ k, F = k + 1 := ⟨F - 1, by omega⟩
    rw [m_X3_advance_L8, d_7 hz, Option.bind_some, d_4 hz, Option.bind_some, iLe (by omega) (by omega)]
    rfl
  | succ f ih =>
    intro i F h1 h2 h3
    obtain ⟨F, rfl⟩ : ∃ k, F = k + 1 := ⟨F - 1, by omega⟩
    rw [m_X3_advance_L8, d_7 hz, Option.bind_some, d_4 hz, Option.bind_some]
    by_cases hi : i < n
    · have hc := (hL.2.2.2 i hi).2
      rw [iNle hi (by omega), Option.bind_some, d_cv hz, x_byteAt hL (by omega), if_pos hi, Option.bind_some]
      by_cases h32 : c i = 32
      · rw [if_pos (by rw [h32]; rfl), Option.bind_some, nI_1, d_p7 hz, Option.bind_some, ih (i + 1) F (by omega) (by omega) (by omega), spn_s hi (decide_eq_true h32)]
      · rw [if_neg (nI_neL (x := (32 : Int32)) (b := 32) (by omega) (by decide) rfl h32), spn, if_neg (fun e => h32 (of_decide_eq_true e.2))]
    · rw [iLe (by omega) (by omega), spn, if_neg (fun e => hi e.1)]
theorem x_letters (hL : Lx h fB c n) {K : Hp → Option Hp} : ∀ f i F, n - i ≤ f → i ≤ n → f < F → m_X3_advance_L97 9 K F (setD fl ea (nI n) er kd st (nI i) nu h) = K (setD fl ea (nI n) er kd st (nI (spn (fun j => ltr (c j)) n f i)) nu h) := by
  have hz := hL.1
  have hn := hL.2.2.1
  intro f
  induction f with
  | zero =>
    intro i F h1 h2 h3
    obtain ⟨F, rfl⟩ : ∃ k, F = k + 1 := ⟨F - 1, by omega⟩
    rw [m_X3_advance_L97, d_8 hz, Option.bind_some, d_4 hz, Option.bind_some, iLe (by omega) (by omega)]
    rfl
  | succ f ih =>
    intro i F h1 h2 h3
    obtain ⟨F, rfl⟩ : ∃ k, F = k + 1 := ⟨F - 1, by omega⟩
    rw [m_X3_advance_L97, d_8 hz, Option.bind_some, d_4 hz, Option.bind_some]
    by_cases hi : i < n
    · have hc := (hL.2.2.2 i hi).2
      rw [iNle hi (by omega), Option.bind_some, d_cv hz, x_byteAt hL (by omega), if_pos hi, Option.bind_some, i_ltr _ hc, Option.bind_some]
      by_cases h32 : ltr (c i) = true
      · rw [if_pos h32, Option.bind_some, nI_1, d_p8 hz, Option.bind_some, ih (i + 1) F (by omega) (by omega) (by omega), spn_s hi h32]
      · rw [if_neg h32, spn, if_neg (fun e => h32 e.2)]
    · rw [iLe (by omega) (by omega), spn, if_neg (fun e => hi e.1)]
theorem x_digits (hL : Lx h fB c n) {K : Hp → Option Hp} : ∀ f i r F, n - i ≤ f → i ≤ n → f < F → r < 100000 → m_X3_advance_L155 9 K F (setD fl ea (nI n) er kd st (nI i) (nI (min r 1000)) h) = K (setD fl ea (nI n) er kd st (nI (spn (fun j => dgi (c j)) n f i)) (nI (min (dgv c n f i r) 1000)) h) := by
  have hz := hL.1
  have hn := hL.2.2.1
  intro f
  induction f with
  | zero =>
    intro i r F h1 h2 h3 h4
    obtain ⟨F, rfl⟩ : ∃ k, F = k + 1 := ⟨F - 1, by omega⟩
    rw [m_X3_advance_L155, d_8 hz, Option.bind_some, d_4 hz, Option.bind_some, iLe (by omega) (by omega)]
    rfl
  | succ f ih =>
    intro i r F h1 h2 h3 h4
    obtain ⟨F, rfl⟩ : ∃ k, F = k + 1 := ⟨F - 1, by omega⟩
    rw [m_X3_advance_L155, d_8 hz, Option.bind_some, d_4 hz, Option.bind_some]
    by_cases hi : i < n
    · have hc := (hL.2.2.2 i hi).2
      rw [iNle hi (by omega), Option.bind_some, d_cv hz, x_byteAt hL (by omega), if_pos hi, Option.bind_some, i_dgi _ hc, Option.bind_some]
      by_cases h32 : dgi (c i) = true
      · have hd := of_decide_eq_true (show decide (48 ≤ c i ∧ c i ≤ 57) = true from h32)
        have em : jmin ((10 : Int32) * nI (min r 1000) + nI (c i) - (48 : Int32)) (1000 : Int32) = nI (min (if 10000 ≤ r then r else 10 * r + c i - 48) 1000) := by
          rw [show (10 : Int32) = nI 10 from rfl, show (48 : Int32) = nI 48 from rfl, show (1000 : Int32) = nI 1000 from rfl, pk_mul, nI_add, pk_sub (by omega), jmin_N (by omega) (by decide)]
          refine congrArg nI ?_
          by_cases h5 : 10000 ≤ r
          · rw [if_pos h5]; omega
          · rw [if_neg h5]; omega
        have e4 : (if 10000 ≤ r then r else 10 * r + c i - 48) < 100000 := by
          by_cases h5 : 10000 ≤ r
          · rw [if_pos h5]; exact h4
          · rw [if_neg h5]; omega
        rw [if_pos h32, d_9 hz, Option.bind_some, Option.bind_some, d_cv hz, x_byteAt hL (by omega), if_pos hi, Option.bind_some, em, d_p9 hz, Option.bind_some, d_8 hz, Option.bind_some, nI_1, d_p8 hz, Option.bind_some, ih (i + 1) _ F (by omega) (by omega) (by omega) e4, spn_s hi h32, dgv_s hi h32]
      · rw [if_neg h32, spn, if_neg (fun e => h32 e.2), dgv, if_neg (fun e => h32 e.2)]
    · rw [iLe (by omega) (by omega), spn, if_neg (fun e => hi e.1), dgv, if_neg (fun e => hi e.1)]
theorem x_advance (hL : Lx h fB c n) {e s : Nat} (he : e ≤ n) (hs : s = tS c n e) : m_X3_advance 9 (setD fl ea (nI n) er kd st (nI e) nu h) = some (setD fl ea (nI n) er (nI (ckd c n s)) (nI s) (nI (tkE c n s)) (if tT c n s = 1 then nI (min (tR c n s) 1000) else nu) h) := by
  have hz := hL.1
  have hn := hL.2.2.1
  have h1 := (tS_le (c := c) he).2
  rw [← hs] at h1
  unfold m_X3_advance
  rw [d_8 hz, Option.bind_some, d_p7 hz, Option.bind_some, x_skip hL (n - e) e LF (Nat.le_refl _) he (by unfold LF; omega), show spn (fun j => decide (c j = 32)) n (n - e) e = s from hs.symm]
  simp only [e_jK]
  rw [d_7 hz, Option.bind_some, nI_1, d_p8 hz, Option.bind_some, d_7 hz, Option.bind_some, d_cv hz, x_byteAt hL (by omega), Option.bind_some]
  unfold ckd tkE tT
  by_cases hsn : s < n
  · have hc := (hL.2.2.2 s hsn).2
    rw [if_pos hsn, if_neg (nI_nm1 (by omega)), i_ltr _ hc, Option.bind_some, if_neg (show ¬ n ≤ s by omega)]
    obtain ⟨m, hm⟩ : ∃ m, n - s = m + 1 := ⟨n - s - 1, by omega⟩
    by_cases hl : ltr (c s) = true
    · rw [if_pos hl, d_p6 hz, Option.bind_some, x_letters hL (n - (s + 1)) (s + 1) LF (Nat.le_refl _) (by omega) (by unfold LF; omega)]
      simp only [if_pos hl, if_neg (show ¬ n ≤ s by omega), if_neg (show ¬ (0 : Nat) = 1 by decide)]
      rw [hm, spn_s hsn hl, show n - (s + 1) = m by omega]
      rfl
    · rw [if_neg hl, i_dgi _ hc, Option.bind_some]
      by_cases hd : dgi (c s) = true
      · have hd' := of_decide_eq_true (show decide (48 ≤ c s ∧ c s ≤ 57) = true from hd)
        rw [if_pos hd, d_p6 hz, Option.bind_some, show (48 : Int32) = nI 48 from rfl, pk_sub (by omega), d_p9 hz, Option.bind_some]
        have e0 : nI (c s - 48) = nI (min (c s - 48) 1000) := congrArg nI (by omega)
        rw [e0, x_digits hL (n - (s + 1)) (s + 1) _ LF (Nat.le_refl _) (by omega) (by unfold LF; omega) (by omega)]
        simp only [if_neg hl, if_pos hd, if_neg (show ¬ n ≤ s by omega), ↓reduceIte]
        unfold tR
        rw [hm, spn_s hsn hd, dgv_s hsn hd, show n - (s + 1) = m by omega, if_neg (by decide), show 10 * 0 + c s - 48 = c s - 48 by omega]
        rfl
      · simp only [if_neg hl, if_neg hd, if_neg (show ¬ n ≤ s by omega), if_neg (show ¬ (2 : Nat) = 1 by decide)]
        by_cases h59 : c s = 59
        · rw [if_pos (show nI (c s) = (59 : Int32) by rw [h59]; rfl), d_p6 hz, if_pos h59]
          rfl
        · rw [if_neg (nI_neL (x := (59 : Int32)) (b := 59) (by omega) (by decide) rfl h59), d_p6 hz, if_neg h59]
          rfl
  · rw [if_neg hsn, if_pos rfl, d_p6 hz, Option.bind_some, d_7 hz, Option.bind_some, d_p8 hz, Option.bind_some]
    simp only [if_pos (show n ≤ s by omega), if_neg (show ¬ (3 : Nat) = 1 by decide)]
    rfl
end RDR
def tkv (v : Nat → Int32) (s e k m wr wa : Int32) : Nat → Int32 := fun i => if i = 11 then s else if i = 12 then e else if i = 13 then k else if i = 14 then m else if i = 15 then wr else if i = 16 then wa else v i
section TKR
variable {v : Nat → Int32} {A : Nat → Nat → Int32} {h : Hp} {s e k m wr wa x : Int32}
theorem rg10 (hz : 31 ≤ h.2.1) : gI (setR v A h) 6 20 10 = some (v 10) := rg hz rfl
theorem rg11 (hz : 31 ≤ h.2.1) : gI (setR v A h) 6 20 11 = some (v 11) := rg hz rfl
theorem rg12 (hz : 31 ≤ h.2.1) : gI (setR v A h) 6 20 12 = some (v 12) := rg hz rfl
theorem rg13 (hz : 31 ≤ h.2.1) : gI (setR v A h) 6 20 13 = some (v 13) := rg hz rfl
theorem rg14 (hz : 31 ≤ h.2.1) : gI (setR v A h) 6 20 14 = some (v 14) := rg hz rfl
theorem rg15 (hz : 31 ≤ h.2.1) : gI (setR v A h) 6 20 15 = some (v 15) := rg hz rfl
theorem rg16 (hz : 31 ≤ h.2.1) : gI (setR v A h) 6 20 16 = some (v 16) := rg hz rfl
theorem tg11 (hz : 31 ≤ h.2.1) : gI (setR (tkv v s e k m wr wa) A h) 6 20 11 = some s := rg hz rfl
theorem tu11 : upd (tkv v s e k m wr wa) 11 x = tkv v x e k m wr wa := funext fun j => by
  unfold upd tkv
  by_cases hj : j = 11
  · subst hj; rfl
  · rw [if_neg hj]
    simp only [if_neg hj]
theorem tp11 (hz : 31 ≤ h.2.1) : pV (setR (tkv v s e k m wr wa) A h) 6 20 11 (.int x) = some (setR (tkv v x e k m wr wa) A h) := (rp hz rfl (by decide)).trans (by rw [tu11])
theorem tg12 (hz : 31 ≤ h.2.1) : gI (setR (tkv v s e k m wr wa) A h) 6 20 12 = some e := rg hz rfl
theorem tu12 : upd (tkv v s e k m wr wa) 12 x = tkv v s x k m wr wa := funext fun j => by
  unfold upd tkv
  by_cases hj : j = 12
  · subst hj; rfl
  · rw [if_neg hj]
    simp only [if_neg hj]
theorem tp12 (hz : 31 ≤ h.2.1) : pV (setR (tkv v s e k m wr wa) A h) 6 20 12 (.int x) = some (setR (tkv v s x k m wr wa) A h) := (rp hz rfl (by decide)).trans (by rw [tu12])
theorem tg13 (hz : 31 ≤ h.2.1) : gI (setR (tkv v s e k m wr wa) A h) 6 20 13 = some k := rg hz rfl
theorem tu13 : upd (tkv v s e k m wr wa) 13 x = tkv v s e x m wr wa := funext fun j => by
  unfold upd tkv
  by_cases hj : j = 13
  · subst hj; rfl
  · rw [if_neg hj]
    simp only [if_neg hj]
theorem tp13 (hz : 31 ≤ h.2.1) : pV (setR (tkv v s e k m wr wa) A h) 6 20 13 (.int x) = some (setR (tkv v s e x m wr wa) A h) := (rp hz rfl (by decide)).trans (by rw [tu13])
theorem tg14 (hz : 31 ≤ h.2.1) : gI (setR (tkv v s e k m wr wa) A h) 6 20 14 = some m := rg hz rfl
theorem tu14 : upd (tkv v s e k m wr wa) 14 x = tkv v s e k x wr wa := funext fun j => by
  unfold upd tkv
  by_cases hj : j = 14
  · subst hj; rfl
  · rw [if_neg hj]
    simp only [if_neg hj]
theorem tp14 (hz : 31 ≤ h.2.1) : pV (setR (tkv v s e k m wr wa) A h) 6 20 14 (.int x) = some (setR (tkv v s e k x wr wa) A h) := (rp hz rfl (by decide)).trans (by rw [tu14])
theorem tg15 (hz : 31 ≤ h.2.1) : gI (setR (tkv v s e k m wr wa) A h) 6 20 15 = some wr := rg hz rfl
theorem tu15 : upd (tkv v s e k m wr wa) 15 x = tkv v s e k m x wa := funext fun j => by
  unfold upd tkv
  by_cases hj : j = 15
  · subst hj; rfl
  · rw [if_neg hj]
    simp only [if_neg hj]
theorem tp15 (hz : 31 ≤ h.2.1) : pV (setR (tkv v s e k m wr wa) A h) 6 20 15 (.int x) = some (setR (tkv v s e k m x wa) A h) := (rp hz rfl (by decide)).trans (by rw [tu15])
theorem tg16 (hz : 31 ≤ h.2.1) : gI (setR (tkv v s e k m wr wa) A h) 6 20 16 = some wa := rg hz rfl
theorem tu16 : upd (tkv v s e k m wr wa) 16 x = tkv v s e k m wr x := funext fun j => by
  unfold upd tkv
  by_cases hj : j = 16
  · subst hj; rfl
  · rw [if_neg hj]
    simp only [if_neg hj]
theorem tp16 (hz : 31 ≤ h.2.1) : pV (setR (tkv v s e k m wr wa) A h) 6 20 16 (.int x) = some (setR (tkv v s e k m wr x) A h) := (rp hz rfl (by decide)).trans (by rw [tu16])
def Ly (v : Nat → Int32) (A : Nat → Nat → Int32) (h : Hp) (c : Nat → Nat) (n : Nat) : Prop := 31 ≤ h.2.1 ∧ v 10 = nI n ∧ n ≤ 500 ∧ ∀ i, i < n → A 6 i = nI (c i) ∧ c i < 256
theorem tg10 (hz : 31 ≤ h.2.1) : gI (setR (tkv v s e k m wr wa) A h) 6 20 10 = some (v 10) := rg hz rfl
variable {c : Nat → Nat} {n : Nat}
theorem y_see (hL : Ly v A h c n) {i : Nat} (hi : i < 2 ^ 31) : m_X6_see 20 (nI i) (setR (tkv v s e k m wr wa) A h) = some (if i < n then nI (c i) else (-1 : Int32)) := by
  have hz := hL.1
  have hn := hL.2.2.1
  unfold m_X6_see
  rw [tg10 hz, Option.bind_some, hL.2.1]
  by_cases h1 : i < n
  · have r := r_aI (v := tkv v s e k m wr wa) (A := A) hz (show 6 < 10 by decide) (show i < rN 6 by show i < 500; omega)
    rw [iNle h1 (by omega), r_27 hz, Option.bind_some, show aI (setR (tkv v s e k m wr wa) A h) 0 27 (nI i) = some (A 6 i) from r, Option.bind_some, (hL.2.2.2 i h1).1, if_pos h1]
  · rw [iLe (by omega) hi, if_neg h1]
theorem y_skip (hL : Ly v A h c n) {K : Hp → Option Hp} : ∀ f i F, n - i ≤ f → i ≤ n → f < F → m_X6_next_L8 20 K F (setR (tkv v (nI i) e k m wr wa) A h) = K (setR (tkv v (nI (spn (fun j => decide (c j = 32)) n f i)) e k m wr wa) A h) := by
  have hz := hL.1
  have hn := hL.2.2.1
  intro f
  induction f with
  | zero =>
    intro i F h1 h2 h3
    obtain ⟨F, rfl⟩ : ∃ k, F = k + 1 := ⟨F - 1, by omega⟩
    rw [m_X6_next_L8, tg11 hz, Option.bind_some, r_cv hz, y_see hL (by omega), if_neg (by omega), Option.bind_some, if_neg (by decide)]
    rfl
  | succ f ih =>
    intro i F h1 h2 h3
    obtain ⟨F, rfl⟩ : ∃ k, F = k + 1 := ⟨F - 1, by omega⟩
    rw [m_X6_next_L8, tg11 hz, Option.bind_some, r_cv hz, y_see hL (by omega)]
    by_cases hi : i < n
    · have hc := (hL.2.2.2 i hi).2
      rw [if_pos hi, Option.bind_some]
      by_cases h32 : c i = 32
      · rw [if_pos (by rw [h32]; rfl), Option.bind_some, nI_1, tp11 hz, Option.bind_some, ih (i + 1) F (by omega) (by omega) (by omega), spn_s hi (decide_eq_true h32)]
      · rw [if_neg (nI_neL (x := (32 : Int32)) (b := 32) (by omega) (by decide) rfl h32), spn, if_neg (fun e => h32 (of_decide_eq_true e.2))]
    · rw [if_neg hi, Option.bind_some, if_neg (by decide), spn, if_neg (fun e => hi e.1)]
theorem y_letters (hL : Ly v A h c n) {K : Hp → Option Hp} : ∀ f i F, n - i ≤ f → i ≤ n → f < F → m_X6_next_L79 20 K F (setR (tkv v s (nI i) k m wr wa) A h) = K (setR (tkv v s (nI (spn (fun j => ltr (c j)) n f i)) k m wr wa) A h) := by
  have hz := hL.1
  have hn := hL.2.2.1
  intro f
  induction f with
  | zero =>
    intro i F h1 h2 h3
    obtain ⟨F, rfl⟩ : ∃ k, F = k + 1 := ⟨F - 1, by omega⟩
    rw [m_X6_next_L79, tg12 hz, Option.bind_some, r_cv hz, y_see hL (by omega), if_neg (by omega), Option.bind_some, j_ltm, Option.bind_some, if_neg (by decide)]
    rfl
  | succ f ih =>
    intro i F h1 h2 h3
    obtain ⟨F, rfl⟩ : ∃ k, F = k + 1 := ⟨F - 1, by omega⟩
    rw [m_X6_next_L79, tg12 hz, Option.bind_some, r_cv hz, y_see hL (by omega)]
    by_cases hi : i < n
    · have hc := (hL.2.2.2 i hi).2
      rw [if_pos hi, Option.bind_some, j_ltr _ hc, Option.bind_some]
      by_cases h32 : ltr (c i) = true
      · rw [if_pos h32, Option.bind_some, nI_1, tp12 hz, Option.bind_some, ih (i + 1) F (by omega) (by omega) (by omega), spn_s hi h32]
      · rw [if_neg h32, spn, if_neg (fun e => h32 e.2)]
    · rw [if_neg hi, Option.bind_some, j_ltm, Option.bind_some, if_neg (by decide), spn, if_neg (fun e => hi e.1)]
theorem y_digits (hL : Ly v A h c n) {K : Hp → Option Hp} : ∀ f i r F, n - i ≤ f → i ≤ n → f < F → r < 100000 → m_X6_next_L141 20 K F (setR (tkv v s (nI i) k (nI r) wr wa) A h) = K (setR (tkv v s (nI (spn (fun j => dgi (c j)) n f i)) k (nI (dgv c n f i r)) wr wa) A h) := by
  have hz := hL.1
  have hn := hL.2.2.1
  intro f
  induction f with
  | zero =>
    intro i r F h1 h2 h3 h4
    obtain ⟨F, rfl⟩ : ∃ k, F = k + 1 := ⟨F - 1, by omega⟩
    rw [m_X6_next_L141, tg12 hz, Option.bind_some, r_cv hz, y_see hL (by omega), if_neg (by omega), Option.bind_some, j_dgm, Option.bind_some, if_neg (by decide)]
    rfl
  | succ f ih =>
    intro i r F h1 h2 h3 h4
    obtain ⟨F, rfl⟩ : ∃ k, F = k + 1 := ⟨F - 1, by omega⟩
    rw [m_X6_next_L141, tg12 hz, Option.bind_some, r_cv hz, y_see hL (by omega)]
    simp only [e_jK]
    by_cases hi : i < n
    · have hc := (hL.2.2.2 i hi).2
      rw [if_pos hi, Option.bind_some, j_dgi _ hc, Option.bind_some]
      by_cases h32 : dgi (c i) = true
      · have hd := of_decide_eq_true (show decide (48 ≤ c i ∧ c i ≤ 57) = true from h32)
        rw [if_pos h32, tg14 hz, Option.bind_some, spn_s hi h32, dgv_s hi h32]
        by_cases h5 : 10000 ≤ r
        · rw [if_pos (show (10000 : Int32) ≤ nI r from nI_le (a := 10000) h5 (by omega)), if_pos h5, tg12 hz, Option.bind_some, nI_1, tp12 hz, Option.bind_some, ih (i + 1) _ F (by omega) (by omega) (by omega) h4]
        · rw [if_neg (show ¬ (10000 : Int32) ≤ nI r from nI_ge (a := r) (b := 10000) (by omega) (by decide)), if_neg h5, Option.bind_some, Option.bind_some, r_cv hz, y_see hL (by omega), if_pos hi, Option.bind_some]
          rw [show (10 : Int32) * nI r + nI (c i) - (48 : Int32) = nI (10 * r + c i - 48) by rw [show (10 : Int32) = nI 10 from rfl, show (48 : Int32) = nI 48 from rfl, pk_mul, nI_add, pk_sub (by omega)], tp14 hz, Option.bind_some, tg12 hz, Option.bind_some, nI_1, tp12 hz, Option.bind_some, ih (i + 1) _ F (by omega) (by omega) (by omega) (by omega)]
      · rw [if_neg h32, spn, if_neg (fun e => h32 e.2), dgv, if_neg (fun e => h32 e.2)]
    · rw [if_neg hi, Option.bind_some, j_dgm, Option.bind_some, if_neg (by decide), spn, if_neg (fun e => hi e.1), dgv, if_neg (fun e => hi e.1)]
theorem y_next (hL : Ly v A h c n) {e s : Nat} {st : Int32} (he : e ≤ n) (hs : s = tS c n e) : m_X6_next 20 (setR (tkv v st (nI e) k m wr wa) A h) = some (setR (tkv v (nI s) (nI (tkE c n s)) (nI (tT c n s)) (if tT c n s = 1 then nI (tR c n s) else m) wr wa) A h) := by
  have hz := hL.1
  have hn := hL.2.2.1
  have h1 := (tS_le (c := c) he).2
  rw [← hs] at h1
  unfold m_X6_next
  rw [tg12 hz, Option.bind_some, tp11 hz, Option.bind_some, y_skip hL (n - e) e LF (Nat.le_refl _) he (by unfold LF; omega), show spn (fun j => decide (c j = 32)) n (n - e) e = s from hs.symm, tg11 hz, Option.bind_some, tp12 hz, Option.bind_some, tg11 hz, Option.bind_some, tg10 hz, Option.bind_some, hL.2.1]
  unfold tkE tT
  by_cases hsn : s < n
  · have hc := (hL.2.2.2 s hsn).2
    rw [iLt hsn (by omega), Option.bind_some, r_cv hz, y_see hL (by omega), if_pos hsn, Option.bind_some, j_ltr _ hc, Option.bind_some]
    by_cases hl : ltr (c s) = true
    · rw [if_pos hl, y_letters hL (n - s) s LF (Nat.le_refl _) (by omega) (by unfold LF; omega), tp13 hz]
      simp only [if_pos hl, if_neg (show ¬ n ≤ s by omega), if_neg (show ¬ (0 : Nat) = 1 by decide)]
      rfl
    · rw [if_neg hl, Option.bind_some, r_cv hz, y_see hL (by omega), if_pos hsn, Option.bind_some, j_dgi _ hc, Option.bind_some]
      by_cases hd : dgi (c s) = true
      · rw [if_pos hd, tp14 hz, Option.bind_some, i0, y_digits hL (n - s) s 0 LF (Nat.le_refl _) (by omega) (by unfold LF; omega) (by decide), tp13 hz]
        simp only [if_neg hl, if_pos hd, if_neg (show ¬ n ≤ s by omega), ↓reduceIte]
        rfl
      · simp only [if_neg hl, if_neg hd, if_neg (show ¬ n ≤ s by omega), if_neg (show ¬ (2 : Nat) = 1 by decide)]
        rw [tg12 hz, Option.bind_some, nI_1, tp12 hz, Option.bind_some, tp13 hz]
        rfl
  · rw [iNlt (by omega) (by omega), tp13 hz]
    simp only [if_pos (show n ≤ s by omega), if_neg (show ¬ (3 : Nat) = 1 by decide)]
    rfl
end TKR
