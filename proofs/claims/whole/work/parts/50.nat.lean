/-! sets of vertices and colours as numbers; what the ints' rows say of them -/
def dif (a b : Nat) : Nat := a ^^^ (a &&& b)
theorem tb_dif (a b i : Nat) : (dif a b).testBit i = (a.testBit i && !b.testBit i) := by
  unfold dif
  rw [Nat.testBit_xor, Nat.testBit_and]
  cases a.testBit i <;> cases b.testBit i <;> rfl
theorem tb_pow (v i : Nat) : (2 ^ v).testBit i = decide (v = i) := Nat.testBit_two_pow
theorem and_pow (s v : Nat) : s &&& 2 ^ v = if s.testBit v then 2 ^ v else 0 := by
  refine Nat.eq_of_testBit_eq fun i => ?_
  rw [Nat.testBit_and, tb_pow]
  by_cases h : v = i
  · subst h
    cases hs : s.testBit v
    · simp
    · simp [Nat.testBit_two_pow_self]
  · rw [decide_eq_false h, Bool.and_false]
    cases hs : s.testBit v
    · simp
    · simp [Nat.testBit_two_pow_of_ne h]
theorem nI_and (a b : Nat) : nI a &&& nI b = nI (a &&& b) := Int32.toBitVec.inj (BitVec.ofNat_and (w := 32) (x := a) (y := b)).symm
theorem nI_or (a b : Nat) : nI a ||| nI b = nI (a ||| b) := Int32.toBitVec.inj (BitVec.ofNat_or (w := 32) (x := a) (y := b)).symm
theorem nI_xor (a b : Nat) : nI a ^^^ nI b = nI (a ^^^ b) := Int32.toBitVec.inj (BitVec.ofNat_xor (w := 32) (x := a) (y := b)).symm
theorem i_m1 : (-1 : Int32) = nI 4294967295 := by decide +kernel
theorem nI_dif {a b : Nat} (h : a < 2 ^ 31) : nI a &&& (nI b ^^^ (-1 : Int32)) = nI (dif a b) := by
  rw [i_m1, nI_xor, nI_and]
  congr 1
  refine Nat.eq_of_testBit_eq fun i => ?_
  rw [Nat.testBit_and, Nat.testBit_xor, tb_dif]
  by_cases hi : i < 32
  · have e : (4294967295 : Nat).testBit i = true := by
      have := (by decide +kernel : ∀ j, j < 32 → (4294967295 : Nat).testBit j = true)
      exact this i hi
    rw [e]
    cases a.testBit i <;> cases b.testBit i <;> rfl
  · have e : a.testBit i = false := Nat.testBit_lt_two_pow (Nat.lt_of_lt_of_le h (Nat.pow_le_pow_right (by decide) (by omega)))
    rw [e]
    rfl
theorem nI_sh {v : Nat} (h : v < 31) : (1 : Int32) <<< (nI v &&& 31) = nI (2 ^ v) := (by decide +kernel : ∀ v, v < 31 → (1 : Int32) <<< (nI v &&& 31) = nI (2 ^ v)) v h
theorem nI_shv {v : Nat} (h : v < 31) : ((nI v &&& 31).toBitVec.smod 32).toNat = v := (by decide +kernel : ∀ v, v < 31 → ((nI v &&& 31).toBitVec.smod 32).toNat = v) v h
theorem nI_shr {s v : Nat} (hs : s < 2 ^ 31) (hv : v < 31) : nI s >>> (nI v &&& 31) = nI (s / 2 ^ v) := pk_shrN hs _ v (nI_shv hv)
theorem nI_bit {s v : Nat} (hs : s < 2 ^ 31) (hv : v < 31) : (nI s >>> (nI v &&& 31)) &&& (1 : Int32) = nI (s.testBit v).toNat := by
  rw [nI_shr hs hv, show (1 : Int32) = nI 1 from rfl, nI_and, Nat.and_one_is_mod, Nat.toNat_testBit]
theorem bt_0 (b : Bool) : (nI b.toNat = 0) = (b = false) := by cases b <;> decide +kernel
theorem bt_1 (b : Bool) : (nI b.toNat = 1) = (b = true) := by cases b <;> decide +kernel
theorem nI_z {s : Nat} (h : s < 2 ^ 31) : nI s = 0 ↔ s = 0 := by
  rw [← nI_0]
  exact nI_eq h (by decide)
theorem nI_hasz {s v : Nat} (hv : v < 31) : (nI s &&& nI (2 ^ v) = 0) = (s.testBit v = false) := by
  rw [nI_and, and_pow]
  cases hs : s.testBit v
  · simp [nI_0]
  · have h1 : (2 ^ v) < 2 ^ 31 := Nat.pow_lt_pow_right (by decide) hv
    have h2 : ¬ nI (2 ^ v) = 0 := fun h => absurd ((nI_z h1).mp h) (Nat.ne_of_gt (Nat.two_pow_pos v))
    simp [h2]
theorem m_has {s v : Nat} (hv : v < 31) : m_X5_has (nI s) (nI v) = some (s.testBit v) := by
  unfold m_X5_has
  rw [show (32 : Int32) = nI 32 from rfl, if_neg (nI_pos (by omega)), if_neg (fun h => absurd ((nI_leI (a := 32) (by decide) (by omega)).mp h) (by omega)), nI_sh hv]
  cases hs : s.testBit v
  · rw [if_pos ((nI_hasz hv).mpr hs)]
  · rw [if_neg (fun h => by rw [nI_hasz hv] at h; rw [h] at hs; cases hs)]
/-- the set of those below n that have p -/
def mks : Nat → (Nat → Bool) → Nat
  | 0, _ => 0
  | n + 1, p => mks n p ||| (if p n then 2 ^ n else 0)
theorem tb_mks (p : Nat → Bool) (i : Nat) : ∀ n, (mks n p).testBit i = (decide (i < n) && p i)
  | 0 => by simp [mks]
  | n + 1 => by
    rw [mks, Nat.testBit_or, tb_mks p i n]
    by_cases h : n = i
    · subst h
      cases hp : p n
      · simp
      · simp [Nat.testBit_two_pow_self]
    · have e : (if p n = true then 2 ^ n else 0).testBit i = false := by
        cases hp : p n
        · simp
        · simp [Nat.testBit_two_pow_of_ne h]
      rw [e, Bool.or_false]
      by_cases h2 : i < n
      · rw [decide_eq_true h2, decide_eq_true (show i < n + 1 by omega)]
      · rw [decide_eq_false h2, decide_eq_false (show ¬ i < n + 1 by omega)]
theorem tb_lt {s n : Nat} (h : ∀ i, n ≤ i → s.testBit i = false) : s < 2 ^ n := Nat.lt_pow_two_of_testBit s (fun i hi => h i hi)
theorem tb_ge {s n i : Nat} (h : s < 2 ^ n) (hi : n ≤ i) : s.testBit i = false := Nat.testBit_lt_two_pow (Nat.lt_of_lt_of_le h (Nat.pow_le_pow_right (by decide) hi))
theorem mks_lt (p : Nat → Bool) (n : Nat) : mks n p < 2 ^ n := tb_lt fun i hi => by rw [tb_mks, decide_eq_false (by omega), Bool.false_and]
theorem mks_congr {n : Nat} {p q : Nat → Bool} (h : ∀ i, i < n → p i = q i) : mks n p = mks n q := Nat.eq_of_testBit_eq fun i => by
  rw [tb_mks, tb_mks]
  by_cases hi : i < n
  · rw [h i hi]
  · rw [decide_eq_false hi, Bool.false_and, Bool.false_and]
theorem set_ext {s t : Nat} (hs : s < 512) (ht : t < 512) (h : ∀ i, i < 9 → s.testBit i = t.testBit i) : s = t := Nat.eq_of_testBit_eq fun i => by
  by_cases hi : i < 9
  · exact h i hi
  · rw [tb_ge (n := 9) hs (by omega), tb_ge (n := 9) ht (by omega)]
theorem dif_lt {a b n : Nat} (h : a < 2 ^ n) : dif a b < 2 ^ n := tb_lt fun i hi => by rw [tb_dif, tb_ge h hi]; rfl
theorem and_lt {a b n : Nat} (h : a < 2 ^ n) : a &&& b < 2 ^ n := tb_lt fun i hi => by rw [Nat.testBit_and, tb_ge h hi]; rfl
theorem or_lt {a b n : Nat} (h : a < 2 ^ n) (h2 : b < 2 ^ n) : a ||| b < 2 ^ n := tb_lt fun i hi => by rw [Nat.testBit_or, tb_ge h hi, tb_ge h2 hi]; rfl
theorem pow_lt9 {v : Nat} (h : v < 9) : 2 ^ v < 512 := (by decide +kernel : ∀ v, v < 9 → 2 ^ v < 512) v h
/-- the least member; how many members -/
def lo (s : Nat) : Nat := ((List.range 9).find? (fun i => s.testBit i)).getD 9
def pop (s : Nat) : Nat := ((List.range 9).filter (fun i => s.testBit i)).length
theorem lo_ok {s : Nat} (h : s < 512) (h0 : s ≠ 0) : lo s < 9 ∧ s.testBit (lo s) = true := (by decide +kernel : ∀ s, s < 512 → s ≠ 0 → lo s < 9 ∧ s.testBit (lo s) = true) s h h0
theorem lo_min {s : Nat} {i : Nat} (h : s.testBit i = true) (hi : i < 9) : lo s ≤ i := by
  unfold lo
  cases hf : (List.range 9).find? (fun i => s.testBit i) with
  | none => exact absurd h (List.find?_eq_none.mp hf i (List.mem_range.mpr hi))
  | some j =>
    show j ≤ i
    rcases Nat.lt_or_ge i j with hlt | hge
    · have := List.find?_range_eq_some.mp hf
      exact absurd h (by simpa using this.2.2 i hlt)
    · exact hge
theorem i_low {s : Nat} (h : s < 512) (h0 : s ≠ 0) : nI s &&& (-(nI s)) = nI (2 ^ lo s) := (by decide +kernel : ∀ s, s < 512 → s ≠ 0 → nI s &&& (-(nI s)) = nI (2 ^ lo s)) s h h0
theorem i_bits {s : Nat} (h : s < 512) : m_J6_bitCount (nI s) = some (nI (pop s)) := (by decide +kernel : ∀ s, s < 512 → m_J6_bitCount (nI s) = some (nI (pop s))) s h
theorem i_bitsp {v : Nat} (h : v < 9) : m_J6_bitCount (nI (2 ^ v) - (1 : Int32)) = some (nI v) := (by decide +kernel : ∀ v, v < 9 → m_J6_bitCount (nI (2 ^ v) - (1 : Int32)) = some (nI v)) v h
theorem pop_le {s : Nat} : pop s ≤ 9 := by
  unfold pop
  exact Nat.le_trans (List.length_filter_le _ _) (by rw [List.length_range]; exact Nat.le_refl 9)
theorem pop_sub {s t : Nat} (h : ∀ i, i < 9 → s.testBit i = true → t.testBit i = true) : pop s ≤ pop t := by
  unfold pop
  rw [← List.countP_eq_length_filter, ← List.countP_eq_length_filter]
  exact List.countP_mono_left fun i hi => h i (List.mem_range.mp hi)
