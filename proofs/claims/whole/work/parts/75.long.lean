/-! longs: the class's places as numbers -/
theorem lN_and (a b : Nat) : lN a &&& lN b = lN (a &&& b) := Int64.toBitVec.inj (BitVec.ofNat_and (w := 64) (x := a) (y := b)).symm
theorem lN_or (a b : Nat) : lN a ||| lN b = lN (a ||| b) := Int64.toBitVec.inj (BitVec.ofNat_or (w := 64) (x := a) (y := b)).symm
theorem lN_xor (a b : Nat) : lN a ^^^ lN b = lN (a ^^^ b) := Int64.toBitVec.inj (BitVec.ofNat_xor (w := 64) (x := a) (y := b)).symm
theorem l_m1 : (-1 : Int64) = lN 18446744073709551615 := by decide +kernel
theorem l_hd : (-68719476736 : Int64) = lN 18446744004990074880 := by decide +kernel
theorem lN_dif {a b : Nat} (h : a < 2 ^ 63) : lN a &&& (lN b ^^^ (-1 : Int64)) = lN (dif a b) := by
  rw [l_m1, lN_xor, lN_and]
  congr 1
  refine Nat.eq_of_testBit_eq fun i => ?_
  rw [Nat.testBit_and, Nat.testBit_xor, tb_dif]
  by_cases hi : i < 64
  · have e : (18446744073709551615 : Nat).testBit i = true := by
      have := (by decide +kernel : ∀ j, j < 64 → (18446744073709551615 : Nat).testBit j = true)
      exact this i hi
    rw [e]
    cases a.testBit i <;> cases b.testBit i <;> rfl
  · have e : a.testBit i = false := Nat.testBit_lt_two_pow (Nat.lt_of_lt_of_le h (Nat.pow_le_pow_right (by decide) (by omega)))
    rw [e]
    rfl
theorem l_tn {n : Nat} (h : n < 2 ^ 64) : (lN n).toBitVec.toNat = n := Nat.mod_eq_of_lt h
theorem l_shl {a s : Nat} (hs : s < 64) (h : a * 2 ^ s < 2 ^ 63) : jlshl (lN a) (nI s) = lN (a * 2 ^ s) := by
  have ha : a < 2 ^ 63 := Nat.lt_of_le_of_lt (Nat.le_mul_of_pos_right a (Nat.two_pow_pos s)) h
  have e : (((nI s).toInt64 &&& 63).toBitVec.smod 64).toNat = s := (by decide +kernel : ∀ s, s < 64 → (((nI s).toInt64 &&& 63).toBitVec.smod 64).toNat = s) s hs
  unfold jlshl
  apply Int64.toBitVec.inj
  apply BitVec.eq_of_toNat_eq
  show ((lN a).toBitVec <<< (((nI s).toInt64 &&& 63).toBitVec.smod 64).toNat).toNat = _
  rw [e, BitVec.toNat_shiftLeft, Nat.shiftLeft_eq, l_tn (by omega), l_tn (by omega), Nat.mod_eq_of_lt (by omega)]
theorem l_ushr (x : Int64) {s : Nat} (hs : s < 64) : jlushr x (nI s) = lN (x.toBitVec.toNat / 2 ^ s) := by
  have e : (((nI s).toInt64.toUInt64 &&& Int64.toUInt64 63).toBitVec % 64).toNat = s := (by decide +kernel : ∀ s, s < 64 → (((nI s).toInt64.toUInt64 &&& Int64.toUInt64 63).toBitVec % 64).toNat = s) s hs
  unfold jlushr
  have e2 : (x.toUInt64 >>> ((nI s).toInt64.toUInt64 &&& Int64.toUInt64 63)).toInt64.toBitVec = x.toBitVec >>> s := by
    have := UInt64.toBitVec_shiftRight x.toUInt64 ((nI s).toInt64.toUInt64 &&& Int64.toUInt64 63)
    exact this.trans (congrArg (fun k : Nat => x.toBitVec >>> k) e)
  apply Int64.toBitVec.inj
  apply BitVec.eq_of_toNat_eq
  have hx := x.toBitVec.isLt
  rw [e2, BitVec.toNat_ushiftRight, Nat.shiftRight_eq_div_pow, l_tn (Nat.lt_of_le_of_lt (Nat.div_le_self _ _) hx)]
theorem l_ushrN {a s : Nat} (ha : a < 2 ^ 63) (hs : s < 64) : jlushr (lN a) (nI s) = lN (a / 2 ^ s) := by
  rw [l_ushr _ hs, l_tn (by omega)]
theorem l_slot (x : Int64) : ∃ k, k < 32768 ∧ Int64.toInt32 (jlushr x (49 : Int32)) = nI k := by
  have hx := x.toBitVec.isLt
  refine ⟨x.toBitVec.toNat / 2 ^ 49, ?_, ?_⟩
  · exact Nat.div_lt_of_lt_mul (Nat.lt_of_lt_of_le hx (by decide))
  · rw [show (49 : Int32) = nI 49 from rfl, l_ushr _ (by decide), lN_i]
/-! fields side by side -/
theorem j9_tb {a b i : Nat} (hb : b < 512) : (512 * a + b).testBit i = if i < 9 then b.testBit i else a.testBit (i - 9) := Nat.testBit_two_pow_mul_add a (i := 9) hb i
theorem j2_tb {a b i : Nat} (hb : b < 4) : (4 * a + b).testBit i = if i < 2 then b.testBit i else a.testBit (i - 2) := Nat.testBit_two_pow_mul_add a (i := 2) hb i
theorem and_l9 {a b : Nat} (h : a < 512) : a &&& b < 512 := and_lt (n := 9) h
theorem or_l9 {a b : Nat} (h : a < 512) (h2 : b < 512) : a ||| b < 512 := or_lt (n := 9) h h2
theorem dif_l9 {a b : Nat} (h : a < 512) : dif a b < 512 := dif_lt (n := 9) h
theorem j9_and {a b c d : Nat} (hb : b < 512) (hd : d < 512) : (512 * a + b) &&& (512 * c + d) = 512 * (a &&& c) + (b &&& d) := Nat.eq_of_testBit_eq fun i => by
  rw [Nat.testBit_and, j9_tb hb, j9_tb hd, j9_tb (and_l9 hb)]
  by_cases h : i < 9
  · rw [if_pos h, if_pos h, if_pos h, Nat.testBit_and]
  · rw [if_neg h, if_neg h, if_neg h, Nat.testBit_and]
theorem j9_or {a b c d : Nat} (hb : b < 512) (hd : d < 512) : (512 * a + b) ||| (512 * c + d) = 512 * (a ||| c) + (b ||| d) := Nat.eq_of_testBit_eq fun i => by
  rw [Nat.testBit_or, j9_tb hb, j9_tb hd, j9_tb (or_l9 hb hd)]
  by_cases h : i < 9
  · rw [if_pos h, if_pos h, if_pos h, Nat.testBit_or]
  · rw [if_neg h, if_neg h, if_neg h, Nat.testBit_or]
theorem j9_dif {a b c d : Nat} (hb : b < 512) (hd : d < 512) : dif (512 * a + b) (512 * c + d) = 512 * dif a c + dif b d := Nat.eq_of_testBit_eq fun i => by
  rw [tb_dif, j9_tb hb, j9_tb hd, j9_tb (dif_l9 hb)]
  by_cases h : i < 9
  · rw [if_pos h, if_pos h, if_pos h, tb_dif]
  · rw [if_neg h, if_neg h, if_neg h, tb_dif]
theorem j2_and {a b c d : Nat} (hb : b < 4) (hd : d < 4) : (4 * a + b) &&& (4 * c + d) = 4 * (a &&& c) + (b &&& d) := Nat.eq_of_testBit_eq fun i => by
  rw [Nat.testBit_and, j2_tb hb, j2_tb hd, j2_tb (and_lt (n := 2) hb)]
  by_cases h : i < 2
  · rw [if_pos h, if_pos h, if_pos h, Nat.testBit_and]
  · rw [if_neg h, if_neg h, if_neg h, Nat.testBit_and]
theorem j2_or {a b c d : Nat} (hb : b < 4) (hd : d < 4) : (4 * a + b) ||| (4 * c + d) = 4 * (a ||| c) + (b ||| d) := Nat.eq_of_testBit_eq fun i => by
  rw [Nat.testBit_or, j2_tb hb, j2_tb hd, j2_tb (or_lt (n := 2) hb hd)]
  by_cases h : i < 2
  · rw [if_pos h, if_pos h, if_pos h, Nat.testBit_or]
  · rw [if_neg h, if_neg h, if_neg h, Nat.testBit_or]
theorem j2_dif {a b c d : Nat} (hb : b < 4) (hd : d < 4) : dif (4 * a + b) (4 * c + d) = 4 * dif a c + dif b d := Nat.eq_of_testBit_eq fun i => by
  rw [tb_dif, j2_tb hb, j2_tb hd, j2_tb (dif_lt (n := 2) hb)]
  by_cases h : i < 2
  · rw [if_pos h, if_pos h, if_pos h, tb_dif]
  · rw [if_neg h, if_neg h, if_neg h, tb_dif]
/-- a place: the board's number, the ban, what is open to the colours 2, 1, 0, the vertices -/
def E5 (n b o2 o1 o0 p : Nat) : Nat := 512 * (512 * (512 * (512 * (4 * n + b) + o2) + o1) + o0) + p
def F5 (b o2 o1 o0 p : Nat) : Prop := b < 4 ∧ o2 < 512 ∧ o1 < 512 ∧ o0 < 512 ∧ p < 512
section E5
variable {n b o2 o1 o0 p n' b' o2' o1' o0' p' : Nat}
theorem E5_and (h : F5 b o2 o1 o0 p) (h' : F5 b' o2' o1' o0' p') : E5 n b o2 o1 o0 p &&& E5 n' b' o2' o1' o0' p' = E5 (n &&& n') (b &&& b') (o2 &&& o2') (o1 &&& o1') (o0 &&& o0') (p &&& p') := by
  unfold E5
  rw [j9_and h.2.2.2.2 h'.2.2.2.2, j9_and h.2.2.2.1 h'.2.2.2.1, j9_and h.2.2.1 h'.2.2.1, j9_and h.2.1 h'.2.1, j2_and h.1 h'.1]
theorem E5_or (h : F5 b o2 o1 o0 p) (h' : F5 b' o2' o1' o0' p') : E5 n b o2 o1 o0 p ||| E5 n' b' o2' o1' o0' p' = E5 (n ||| n') (b ||| b') (o2 ||| o2') (o1 ||| o1') (o0 ||| o0') (p ||| p') := by
  unfold E5
  rw [j9_or h.2.2.2.2 h'.2.2.2.2, j9_or h.2.2.2.1 h'.2.2.2.1, j9_or h.2.2.1 h'.2.2.1, j9_or h.2.1 h'.2.1, j2_or h.1 h'.1]
theorem E5_dif (h : F5 b o2 o1 o0 p) (h' : F5 b' o2' o1' o0' p') : dif (E5 n b o2 o1 o0 p) (E5 n' b' o2' o1' o0' p') = E5 (dif n n') (dif b b') (dif o2 o2') (dif o1 o1') (dif o0 o0') (dif p p') := by
  unfold E5
  rw [j9_dif h.2.2.2.2 h'.2.2.2.2, j9_dif h.2.2.2.1 h'.2.2.2.1, j9_dif h.2.2.1 h'.2.2.1, j9_dif h.2.1 h'.2.1, j2_dif h.1 h'.1]
theorem E5_inj (h : F5 b o2 o1 o0 p) (h' : F5 b' o2' o1' o0' p') (e : E5 n b o2 o1 o0 p = E5 n' b' o2' o1' o0' p') : n = n' ∧ b = b' ∧ o2 = o2' ∧ o1 = o1' ∧ o0 = o0' ∧ p = p' := by
  unfold F5 at h h'
  unfold E5 at e
  omega
theorem E5_lt (h : F5 b o2 o1 o0 p) (hn : n ≤ 1000) : E5 n b o2 o1 o0 p < 2 ^ 63 := by
  unfold F5 at h
  unfold E5
  omega
theorem E5_p (h : F5 b o2 o1 o0 p) : E5 n b o2 o1 o0 p % 512 = p := by
  unfold F5 at h
  unfold E5
  omega
theorem E5_b (h : F5 b o2 o1 o0 p) : E5 n b o2 o1 o0 p / 2 ^ 36 % 4 = b := by
  unfold F5 at h
  unfold E5
  omega
theorem E5_0 (h : F5 b o2 o1 o0 p) : E5 n b o2 o1 o0 p / 2 ^ 9 % 512 = o0 := by
  unfold F5 at h
  unfold E5
  omega
theorem E5_1 (h : F5 b o2 o1 o0 p) : E5 n b o2 o1 o0 p / 2 ^ 18 % 512 = o1 := by
  unfold F5 at h
  unfold E5
  omega
theorem E5_2 (h : F5 b o2 o1 o0 p) : E5 n b o2 o1 o0 p / 2 ^ 27 % 512 = o2 := by
  unfold F5 at h
  unfold E5
  omega
theorem E5_hd (h : F5 b o2 o1 o0 p) (hn : n ≤ 1000) : E5 n b o2 o1 o0 p &&& 18446744004990074880 = E5 n b 0 0 0 0 := by
  have e : (18446744004990074880 : Nat) = E5 67108863 3 0 0 0 0 := by decide
  have hb : b &&& 3 = b := (by decide : ∀ b, b < 4 → b &&& 3 = b) b h.1
  have hn' : n &&& 67108863 = n := by
    have := Nat.and_two_pow_sub_one_eq_mod n 26
    rw [show (2 ^ 26 - 1 : Nat) = 67108863 by decide] at this
    rw [this]
    exact Nat.mod_eq_of_lt (by omega)
  rw [e, E5_and h ⟨by decide, by decide, by decide, by decide, by decide⟩, hn', hb]
  simp only [Nat.and_zero]
end E5
theorem dif_0 {a : Nat} : dif a 0 = a := by
  unfold dif
  rw [Nat.and_zero, Nat.xor_zero]
theorem dif_z {a : Nat} : dif 0 a = 0 := by
  unfold dif
  rw [Nat.zero_and, Nat.xor_zero]
theorem dif_or {a b c : Nat} : dif a (b ||| c) = dif (dif a b) c := Nat.eq_of_testBit_eq fun i => by
  rw [tb_dif, tb_dif, tb_dif, Nat.testBit_or]
  cases a.testBit i <;> cases b.testBit i <;> cases c.testBit i <;> rfl
theorem or_0 {a : Nat} : a ||| 0 = a := Nat.or_zero a
theorem z_or {a : Nat} : 0 ||| a = a := Nat.zero_or a
theorem nI_511 {a : Nat} : nI a &&& (511 : Int32) = nI (a % 512) := by
  rw [show (511 : Int32) = nI 511 from rfl, nI_and]
  congr 1
  exact Nat.and_two_pow_sub_one_eq_mod a 9
