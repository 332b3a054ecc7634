/-! bytes appended -/
theorem c255 {i : Nat} (hi : i < 32) : (255 : Int32).toBitVec.getLsbD i = decide (i < 8) := (by decide +kernel : ∀ i, i < 32 → (255 : Int32).toBitVec.getLsbD i = decide (i < 8)) i hi
theorem and_255 {x y : Int32} (h : ∀ i, i < 8 → x.toBitVec.getLsbD i = y.toBitVec.getLsbD i) : x &&& (255 : Int32) = y &&& (255 : Int32) := by
  refine Int32.toBitVec.inj (BitVec.eq_of_getLsbD_eq fun i hi => ?_)
  rw [Int32.toBitVec_and, Int32.toBitVec_and, BitVec.getLsbD_and, BitVec.getLsbD_and, c255 hi]
  by_cases h8 : i < 8
  · rw [h i h8]
  · rw [decide_eq_false h8, Bool.and_false, Bool.and_false]
theorem bit_8 (x : Int32) {i : Nat} (h : i < 8) : (x.toInt8.toInt32).toBitVec.getLsbD i = x.toBitVec.getLsbD i := by
  rw [Int8.toBitVec_toInt32, BitVec.getLsbD_signExtend, Int32.toBitVec_toInt8, BitVec.getLsbD_signExtend]
  simp [h, show i < 32 by omega]
theorem bit_us (x : Int32) {n i : Nat} (hn : n < 31) : (jushr x (nI n)).toBitVec.getLsbD i = x.toBitVec.getLsbD (n + i) := by
  have h := pk_ushr x (nI n) n ((by decide +kernel : ∀ n, n < 31 → (((nI n).toUInt32 &&& Int32.toUInt32 31).toBitVec % 32).toNat = n) n hn)
  have h' : (jushr x (nI n)).toBitVec.toNat = x.toBitVec.toNat / 2 ^ n := h
  rw [← BitVec.testBit_toNat, ← BitVec.testBit_toNat, h', Nat.testBit_div_two_pow]
  rw [Nat.add_comm]
theorem bit_ss (x : Int32) {n i : Nat} (hn : n < 31) (h : n + i < 32) : (x >>> (nI n &&& 31)).toBitVec.getLsbD i = x.toBitVec.getLsbD (n + i) := by
  rw [Int32.toBitVec_shiftRight, BitVec.sshiftRight_eq', nI_shv hn, BitVec.getLsbD_sshiftRight]
  simp [h, show i < 32 by omega, show ¬ 32 ≤ i by omega]
theorem by_eq (p : Int32) {n : Nat} (hn : n ≤ 24) : nar 2 (ji2b (jushr p (nI n))) &&& (255 : Int32) = (p >>> (nI n &&& 31)) &&& (255 : Int32) := by
  refine and_255 fun i hi => ?_
  have e1 : (nar 2 (ji2b (jushr p (nI n)))).toBitVec.getLsbD i = (ji2b (jushr p (nI n))).toBitVec.getLsbD i := bit_8 _ hi
  have e2 : (ji2b (jushr p (nI n))).toBitVec.getLsbD i = (jushr p (nI n)).toBitVec.getLsbD i := bit_8 _ hi
  rw [e1, e2, bit_us p (by omega), bit_ss p (by omega) (by omega)]
section APP
variable {H : Hp} {fl : Nat} {f : Nat → Int32} {ea ln er kd st en nu p : Int32}
def cSr (ea ln er kd st en nu : Int32) (H : Hp) (fl : Nat) (f : Nat → Int32) : Hp := hset (hset H 15 (.inl (2, 500, .inl f))) 9 (.inr (3, dO (nI fl) ea ln er kd st en nu))
theorem cSr_9 (hz : 32 ≤ H.2.1) : At (cSr ea ln er kd st en nu H fl f) 9 (.inr (3, dO (nI fl) ea ln er kd st en nu)) := at_hs (show 9 < H.2.1 by omega)
theorem cSr_15 (hz : 32 ≤ H.2.1) : At (cSr ea ln er kd st en nu H fl f) 15 (.inl (2, 500, .inl f)) := at_set_ne (at_hs (show 15 < H.2.1 by omega)) (by decide)
theorem cSr_cS {fl' : Nat} {f' : Nat → Int32} : hset (hset (cSr ea ln er kd st en nu H fl f) 15 (.inl (2, 500, .inl f'))) 9 (.inr (3, dO (nI fl') ea ln er kd st en nu)) = cSr ea ln er kd st en nu H fl' f' := Prod.ext (funext fun x => by
  show (if x = 9 then _ else if x = 15 then _ else if x = 9 then _ else if x = 15 then _ else H.1 x) = (if x = 9 then _ else if x = 15 then _ else H.1 x)
  by_cases h0 : x = 9
  · simp only [if_pos h0]
  · by_cases h1 : x = 15
    · simp only [if_neg h0, if_pos h1]
    · simp only [if_neg h0, if_neg h1]) rfl
theorem x_four1 (hz : 32 ≤ H.2.1) (hf : fl < 500) {K : Hp → Option Hp} {F w : Nat} (hw : w < 2 ^ 31) : m_X3_addFour_L3 9 p K (F + 1) (nI w) (cSr ea ln er kd st en nu H fl f) = m_X3_addFour_L3 9 p K F (nI w + (-8)) (cSr ea ln er kd st en nu H (fl + 1) (upd f fl (nar 2 (ji2b (jushr p (nI w)))))) := by
  have a9 := cSr_9 (ea := ea) (ln := ln) (er := er) (kd := kd) (st := st) (en := en) (nu := nu) (fl := fl) (f := f) hz
  have a15 := cSr_15 (ea := ea) (ln := ln) (er := er) (kd := kd) (st := st) (en := en) (nu := nu) (fl := fl) (f := f) hz
  have g1 : gI (cSr ea ln er kd st en nu H fl f) 3 9 1 = some (nI fl) := at_gI a9 rfl
  have g3 : gR (cSr ea ln er kd st en nu H fl f) 3 9 3 = some 15 := at_gR a9 rfl
  have a9' := at_set_ne (c' := (.inl (2, 500, .inl (upd f fl (nar 2 (ji2b (jushr p (nI w)))))) : Ac)) a9 (show 9 ≠ 15 by decide)
  rw [m_X3_addFour_L3, iNeg hw, g1, Option.bind_some]
  simp only [e_jK, e_nm]
  rw [iNeg (by omega), Option.bind_some, g3, Option.bind_some, at_aN a15, Option.bind_some, iNle hf (by decide), Option.bind_some, Option.bind_some, at_sI a15 hf (by decide), Option.bind_some, at_gI (x := nI fl) a9' rfl, Option.bind_some, at_pV a9' (by show 1 < 10; decide), Option.bind_some, nI_1]
  exact congrArg (m_X3_addFour_L3 9 p K F (nI w + (-8))) cSr_cS
def fr4 (p : Int32) (f : Nat → Int32) (fl : Nat) : Nat → Int32 := upd (upd (upd (upd f fl (nar 2 (ji2b (jushr p (nI 24))))) (fl + 1) (nar 2 (ji2b (jushr p (nI 16))))) (fl + 1 + 1) (nar 2 (ji2b (jushr p (nI 8))))) (fl + 1 + 1 + 1) (nar 2 (ji2b (jushr p (nI 0))))
theorem x_four (hz : 32 ≤ H.2.1) (hf : fl + 4 ≤ 500) : m_X3_addFour 9 p (cSr ea ln er kd st en nu H fl f) = some (cSr ea ln er kd st en nu H (fl + 4) (fr4 p f fl)) := by
  unfold m_X3_addFour
  show m_X3_addFour_L3 9 p _ (999999 + 1) (nI 24) _ = _
  rw [x_four1 hz (by omega) (by decide)]
  show m_X3_addFour_L3 9 p _ (999998 + 1) (nI 24 + (-8)) _ = _
  rw [show nI 24 + (-8 : Int32) = nI 16 by decide +kernel, x_four1 hz (by omega) (by decide)]
  show m_X3_addFour_L3 9 p _ (999997 + 1) (nI 16 + (-8)) _ = _
  rw [show nI 16 + (-8 : Int32) = nI 8 by decide +kernel, x_four1 hz (by omega) (by decide)]
  show m_X3_addFour_L3 9 p _ (999996 + 1) (nI 8 + (-8)) _ = _
  rw [show nI 8 + (-8 : Int32) = nI 0 by decide +kernel, x_four1 hz (by omega) (by decide)]
  show m_X3_addFour_L3 9 p _ (999995 + 1) (nI 0 + (-8)) _ = _
  rw [m_X3_addFour_L3, if_pos (by decide +kernel)]
  rfl
theorem fr4_o {i : Nat} (h : i < fl) : fr4 p f fl i = f i := (if_neg (by omega)).trans ((if_neg (by omega)).trans ((if_neg (by omega)).trans (if_neg (by omega))))
theorem fr4_n {j : Nat} (h : j < 4) : fr4 p f fl (fl + j) &&& (255 : Int32) = (p >>> (nI (24 - 8 * j) &&& 31)) &&& (255 : Int32) := by
  have e : fr4 p f fl (fl + j) = nar 2 (ji2b (jushr p (nI (24 - 8 * j)))) := by
    have d : j = 0 ∨ j = 1 ∨ j = 2 ∨ j = 3 := by omega
    rcases d with e | e | e | e
    · subst e
      exact (if_neg (by omega)).trans ((if_neg (by omega)).trans ((if_neg (by omega)).trans (if_pos rfl)))
    · subst e
      exact (if_neg (by omega)).trans ((if_neg (by omega)).trans (if_pos rfl))
    · subst e
      exact (if_neg (by omega)).trans (if_pos rfl)
    · subst e
      exact if_pos rfl
  rw [e]
  exact by_eq p (by omega)
end APP
