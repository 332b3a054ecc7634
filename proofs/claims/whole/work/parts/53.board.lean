/-! a board of the class, and what its methods that only read answer -/
theorem i0 : (0 : Int32) = nI 0 := rfl
theorem i1 : (1 : Int32) = nI 1 := rfl
theorem i2 : (2 : Int32) = nI 2 := rfl
theorem i3 : (3 : Int32) = nI 3 := rfl
theorem i4 : (4 : Int32) = nI 4 := rfl
theorem i9 : (9 : Int32) = nI 9 := rfl
section ITE
variable {α : Type} {x y : α} {a b : Nat}
theorem iLe (h : a ≤ b) (hb : b < 2 ^ 31) : (if nI a ≤ nI b then x else y) = x := if_pos (nI_le h hb)
theorem iNle (h : b < a) (ha : a < 2 ^ 31) : (if nI a ≤ nI b then x else y) = y := if_neg (nI_ge h ha)
theorem iLt (h : a < b) (hb : b < 2 ^ 31) : (if nI a < nI b then x else y) = x := if_pos (nI_lt h hb)
theorem iNlt (h : b ≤ a) (ha : a < 2 ^ 31) : (if nI a < nI b then x else y) = y := if_neg (nI_nlt h ha)
theorem iNeg (ha : a < 2 ^ 31) : (if nI a < 0 then x else y) = y := if_neg (nI_pos ha)
theorem iEq : (if nI a = nI a then x else y) = x := if_pos rfl
theorem iNe (h : a ≠ b) (ha : a < 2 ^ 31) (hb : b < 2 ^ 31) : (if nI a = nI b then x else y) = y := if_neg fun e => h ((nI_eq ha hb).mp e)
theorem iZ (ha : a < 2 ^ 31) : (if nI a = 0 then x else y) = if a = 0 then x else y := by
  by_cases h : a = 0
  · rw [if_pos h, if_pos ((nI_z ha).mpr h)]
  · rw [if_neg h, if_neg (fun e => h ((nI_z ha).mp e))]
theorem iZ' (ha : a < 2 ^ 31) : (if nI a = nI 0 then x else y) = if a = 0 then x else y := iZ ha
end ITE
theorem forN {γ : Type} (L : Nat → Nat → Nat → Option γ) (N : Nat) (S : Nat → Nat) (R : Option γ) (step : ∀ f i, i < N → L f (i + 1) (S (i + 1)) = R → L (f + 1) i (S i) = R) (done : ∀ f, L (f + 1) N (S N) = R) : ∀ f i, i ≤ N → N - i < f → L f i (S i) = R := by
  intro f
  induction f with
  | zero => intro i _ h; omega
  | succ f ih =>
    intro i hi hf
    by_cases h : i = N
    · subst h
      exact done f
    · exact step f i (by omega) (ih (i + 1) (by omega) (by omega))
def sumN : Nat → (Nat → Nat) → Nat
  | 0, _ => 0
  | n + 1, g => sumN n g + g n
theorem sumN_congr {f g : Nat → Nat} : ∀ {n : Nat}, (∀ i, i < n → f i = g i) → sumN n f = sumN n g
  | 0, _ => rfl
  | n + 1, h => by rw [sumN, sumN, sumN_congr (fun i hi => h i (by omega)), h n (by omega)]
theorem sumN_le {g : Nat → Nat} {b : Nat} : ∀ {n : Nat}, (∀ i, i < n → g i ≤ b) → sumN n g ≤ n * b
  | 0, _ => by simp [sumN]
  | n + 1, h => by
    have h1 := sumN_le (n := n) (fun i hi => h i (by omega))
    have h2 := h n (by omega)
    rw [sumN, Nat.add_mul, Nat.one_mul]
    omega
/-- an int array that holds g on its n places -/
def ArN (h : Hp) (a n : Nat) (g : Nat → Nat) : Prop := ∃ f : Nat → Int32, At h a (.inl (0, n, .inl f)) ∧ ∀ k, k < n → f k = nI (g k)
theorem ar_n {h : Hp} {a n : Nat} {g : Nat → Nat} (A : ArN h a n g) : aN h 0 a = some (nI n) := by
  obtain ⟨f, A, -⟩ := A
  exact at_aN A
theorem ar_i {h : Hp} {a n k : Nat} {g : Nat → Nat} (A : ArN h a n g) (hk : k < n) (hn : n < 2 ^ 31) : aI h 0 a (nI k) = some (nI (g k)) := by
  obtain ⟨f, A, hf⟩ := A
  rw [at_aI A hk hn, hf k hk]
theorem ar_at {h : Hp} {a n k : Nat} {g : Nat → Nat} (A : ArN h a n g) (hk : k < n) (hn : n < 2 ^ 31) : m_X5_at a (nI k) h = some (nI (g k)) := by
  unfold m_X5_at
  rw [iNeg (by omega), ar_n A, Option.bind_some, iNle hk hn, ar_i A hk hn]
  rfl
/-! a board of numbers: 0 vertices, 1 colours, 2 passes, 3 moves made, 4+v list, 13+v neighbours, 22+v colour laid (0: free), 31+v ban -/
def nrf (al : Nat → Nat) (v : Nat) : Nat := if v < 9 then al (13 + v) else 0
theorem nrf_e {al : Nat → Nat} {v : Nat} (hv : v < 9) : nrf al v = al (13 + v) := if_pos hv
def fre (al : Nat → Nat) : Nat := mks (al 0) (fun v => al (22 + v) == 0)
def lsf (al : Nat → Nat) : Nat → Nat := fun c => mks 9 (fun v => (al (4 + v)).testBit c)
def pnf (al : Nat → Nat) : Nat → Nat := fun c => mks 9 (fun v => al (22 + v) == c + 1)
/-- the class's board at o -/
def BdH (h : Hp) (o num : Nat) (al b : Nat → Nat) (lat : Option Nat) : Prop :=
  At h o (.inr (0, [.int (nI num), .int (nI (al 1)), .int (nI (al 0)), .int (nI (al 2)), .int (nI (fre al)), .int (nI (al 3)), va_rf lat, .ref (o + 1), .ref (o + 2), .ref (o + 3), .ref (o + 4)])) ∧
  ArN h (o + 1) 9 (nrf al) ∧ ArN h (o + 2) 3 (lsf al) ∧ ArN h (o + 3) 3 (pnf al) ∧ ArN h (o + 4) 3 b
/-- the numbers stay in their ranges -/
def Rg (al : Nat → Nat) : Prop := al 0 ≤ 9 ∧ al 1 ≤ 3 ∧ al 2 ≤ 9 ∧ al 3 < 4096 ∧ (∀ v, v < 9 → al (4 + v) < 8 ∧ al (13 + v) < 512 ∧ al (22 + v) ≤ 3 ∧ al (31 + v) ≤ 3) ∧
  (∀ v w, v < 9 → (al (13 + v)).testBit w = true → w < al 0 ∧ v < al 0 ∧ w ≠ v ∧ (al (13 + w)).testBit v = true) ∧
  (∀ v, v < 9 → al 0 ≤ v → al (4 + v) = 0 ∧ al (22 + v) = 0) ∧ (∀ v, v < 9 → ∀ c, (al (4 + v)).testBit c = true → c < al 1)
theorem fre_tb {al : Nat → Nat} {v : Nat} : (fre al).testBit v = (decide (v < al 0) && (al (22 + v) == 0)) := tb_mks _ _ _
theorem fre_lt {al : Nat → Nat} (R : Rg al) : fre al < 512 := Nat.lt_of_lt_of_le (mks_lt _ _) (Nat.pow_le_pow_right (by decide) R.1)
theorem lsf_lt {al : Nat → Nat} {c : Nat} : lsf al c < 512 := mks_lt _ 9
theorem pnf_lt {al : Nat → Nat} {c : Nat} : pnf al c < 512 := mks_lt _ 9
theorem lsf_tb {al : Nat → Nat} {c v : Nat} (hv : v < 9) : (lsf al c).testBit v = (al (4 + v)).testBit c := by
  unfold lsf
  rw [tb_mks, decide_eq_true hv, Bool.true_and]
theorem pnf_tb {al : Nat → Nat} {c v : Nat} (hv : v < 9) : (pnf al c).testBit v = (al (22 + v) == c + 1) := by
  unfold pnf
  rw [tb_mks, decide_eq_true hv, Bool.true_and]
theorem nrf_lt {al : Nat → Nat} (R : Rg al) {v : Nat} (hv : v < 9) : nrf al v < 512 := by
  rw [nrf_e hv]
  exact (R.2.2.2.2.1 v hv).2.1
/-- why not: 0 can be laid -/
def wn (al b : Nat → Nat) (v c : Nat) : Nat :=
  if (fre al).testBit v then (if (lsf al c).testBit v then (if nrf al v &&& pnf al c = 0 then (if nrf al v &&& fre al = 0 then 0 else if (b c).testBit v then 4 else 0) else 3) else 2) else 1
def chs (al b : Nat → Nat) (v : Nat) : Nat := mks (al 1) (fun c => wn al b v c == 0)
section BD
variable {h : Hp} {o num : Nat} {al b : Nat → Nat} {lat : Option Nat}
theorem bd_cv (B : BdH h o num al b lat) {ρ : Type} {r : Option ρ} : cv h 0 o r = r := at_cv B.1
theorem bd_num (B : BdH h o num al b lat) : gI h 0 o 0 = some (nI num) := at_gI B.1 rfl
theorem bd_C (B : BdH h o num al b lat) : gI h 0 o 1 = some (nI (al 1)) := at_gI B.1 rfl
theorem bd_N (B : BdH h o num al b lat) : gI h 0 o 2 = some (nI (al 0)) := at_gI B.1 rfl
theorem bd_P (B : BdH h o num al b lat) : gI h 0 o 3 = some (nI (al 2)) := at_gI B.1 rfl
theorem bd_f (B : BdH h o num al b lat) : gI h 0 o 4 = some (nI (fre al)) := at_gI B.1 rfl
theorem bd_mk (B : BdH h o num al b lat) : gI h 0 o 5 = some (nI (al 3)) := at_gI B.1 rfl
theorem bd_lt (B : BdH h o num al b lat) : gN h 0 o 6 = some lat := at_gN B.1 rfl
theorem bd_7 (B : BdH h o num al b lat) : gR h 0 o 7 = some (o + 1) := at_gR B.1 rfl
theorem bd_8 (B : BdH h o num al b lat) : gR h 0 o 8 = some (o + 2) := at_gR B.1 rfl
theorem bd_9 (B : BdH h o num al b lat) : gR h 0 o 9 = some (o + 3) := at_gR B.1 rfl
theorem bd_10 (B : BdH h o num al b lat) : gR h 0 o 10 = some (o + 4) := at_gR B.1 rfl
theorem bd_n7 (B : BdH h o num al b lat) : aN h 0 (o + 1) = some (nI 9) := ar_n B.2.1
theorem bd_nr (B : BdH h o num al b lat) {v : Nat} (hv : v < 9) : aI h 0 (o + 1) (nI v) = some (nI (nrf al v)) := ar_i B.2.1 hv (by decide)
theorem x_nb (B : BdH h o num al b lat) {v : Nat} (hv : v < 9) : m_X0_neighbours o (nI v) h = some (nI (nrf al v)) := by
  unfold m_X0_neighbours
  rw [iNeg (by omega), bd_7 B, Option.bind_some, bd_n7 B, Option.bind_some, iNle hv (by decide), Option.bind_some, bd_nr B hv]
  rfl
theorem x_isFree (B : BdH h o num al b lat) {v : Nat} (hv : v < 9) : m_X0_isFree o (nI v) h = some ((fre al).testBit v) := by
  unfold m_X0_isFree
  rw [bd_f B, Option.bind_some, m_has (by omega)]
  rfl
theorem x_reach (B : BdH h o num al b lat) (R : Rg al) {s set : Nat} (hset : set < 512) : m_X0_reachable o (nI s) (nI set) h = some (nI (rch (nrf al) set s)) := by
  unfold m_X0_reachable rch nm
  rw [nI_and]
  have key : ∀ k r f n, r < 512 → f < 512 → k ≤ 9 → k < n → m_X0_reachable_L10 o (nI set) h (fun v7 => some v7) n (nI r) (nI f) (nI (9 - k)) = some (nI (wlk (nrf al) set k r f)) := by
    intro k
    induction k with
    | zero =>
      intro r f n hr hf hk hn
      obtain ⟨n, rfl⟩ : ∃ m, n = m + 1 := ⟨n - 1, by omega⟩
      rw [m_X0_reachable_L10, i9, iLe (by omega) (by omega), wlk]
    | succ k ih =>
      intro r f n hr hf hk hn
      obtain ⟨n, rfl⟩ : ∃ m, n = m + 1 := ⟨n - 1, by omega⟩
      rw [m_X0_reachable_L10, i9, iNle (by omega) (by decide), wlk]
      by_cases hf0 : f = 0
      · subst hf0
        rw [if_pos rfl]
        exact if_pos rfl
      · rw [if_neg hf0, if_neg (fun e => hf0 ((nI_z (by omega)).mp e))]
        obtain ⟨l1, l2⟩ := lo_ok hf hf0
        have hd : dif (nrf al (lo f) &&& set) r < 512 := dif_lt (n := 9) (and_lt (n := 9) (nrf_lt R l1))
        simp only [nm, jK, i_low hf hf0, i_bitsp l1, Option.bind_some, bd_7 B, bd_n7 B, bd_nr B l1]
        rw [iNeg (by omega), iNle l1 (by decide)]
        first | rw [if_pos rfl] | rw [if_pos trivial]
        rw [nI_and, nI_dif (by have := and_lt (n := 9) (b := set) (nrf_lt R l1); omega), nI_or, nI_dif (by omega), nI_or, nI_1, show 9 - (k + 1) + 1 = 9 - k by omega]
        exact ih _ _ n (or_lt (n := 9) hr hd) (or_lt (n := 9) (dif_lt (n := 9) hf) hd) (by omega) (by omega)
  exact key 9 _ _ LF (by rw [Nat.and_comm]; exact and_lt (n := 9) hset) (by rw [Nat.and_comm]; exact and_lt (n := 9) hset) (by omega) (by decide)
theorem x_partWith (B : BdH h o num al b lat) (R : Rg al) {v : Nat} (hv : v < 9) : m_X0_partWith o (nI v) h = some (nI (rch (nrf al) (fre al) (2 ^ v))) := by
  unfold m_X0_partWith
  rw [bd_f B, Option.bind_some, bd_cv B, nI_sh (by omega), x_reach B R (fre_lt R)]
  rfl
theorem x_hasVertex (B : BdH h o num al b lat) (R : Rg al) (x : Int32) : m_X0_hasVertex o x h = some (decide (0 ≤ x.toInt ∧ x.toInt < al 0)) := by
  unfold m_X0_hasVertex
  have hN : al 0 ≤ 9 := R.1
  by_cases h0 : x < 0
  · rw [if_pos h0, decide_eq_false]
    intro h1
    have := Int32.lt_iff_toInt_lt.mp h0
    have e : (0 : Int32).toInt = 0 := rfl
    omega
  · rw [if_neg h0, bd_N B, Option.bind_some]
    obtain ⟨j, hj, rfl⟩ := nI_of h0
    rw [nI_toInt hj]
    by_cases h1 : al 0 ≤ j
    · rw [iLe h1 hj, decide_eq_false (by omega)]
    · rw [iNle (by omega) (by omega), decide_eq_true (by omega)]
theorem x_coloursAt {g : Nat → Nat} {a : Nat} (A : ArN h a 3 g) {v : Nat} (hv : v < 9) : m_X0_coloursAt o a (nI v) h = some (nI (mks 3 (fun c => (g c).testBit v))) := by
  unfold m_X0_coloursAt
  refine forN (fun f i s => m_X0_coloursAt_L5 a (nI v) h (fun v5 => some v5) f (nI s) (nI i)) 3 (fun i => mks i (fun c => (g c).testBit v)) _ (fun f i hi e => ?_) (fun f => ?_) LF 0 (by decide) (by decide)
  · show m_X0_coloursAt_L5 _ _ _ _ (f + 1) _ _ = _
    rw [m_X0_coloursAt_L5, ar_n A, Option.bind_some, iNle hi (by decide), ar_i A hi (by decide), Option.bind_some, m_has (by omega), Option.bind_some]
    rw [← e]
    simp only [jK, nm, mks]
    by_cases hb : (g i).testBit v = true
    · rw [if_pos hb, if_pos hb, nI_sh (show i < 31 by omega), nI_or, nI_1]
    · rw [if_neg hb, if_neg hb, Nat.or_zero, nI_1]
  · show m_X0_coloursAt_L5 _ _ _ _ (f + 1) _ _ = _
    rw [m_X0_coloursAt_L5, ar_n A, Option.bind_some, iLe (Nat.le_refl _) (by decide)]
theorem m_least {s : Nat} (hs : s < 512) (h0 : s ≠ 0) : m_X5_least (nI s) = some (nI (lo s)) := by
  unfold m_X5_least
  rw [i_low hs h0, i_bitsp (lo_ok hs h0).1]
  rfl
end BD
