/-! answers packed in ints, on both sides; the reference's places -/
def pk (x : An) : Nat := x.1 + 256 * x.2.1 + 65536 * x.2.2
def pr (x : An) : Nat := x.1 + 32 * x.2.1 + 1024 * x.2.2
theorem pk_dec : ∀ v, v < 16 → ∀ l, l < 16 → ∀ s, s < 16 → nI (v + 256 * l + 65536 * s) &&& (255 : Int32) = nI v ∧ (nI (v + 256 * l + 65536 * s) >>> ((8 : Int32) &&& 31)) &&& (255 : Int32) = nI l ∧ (nI (v + 256 * l + 65536 * s) >>> ((16 : Int32) &&& 31)) &&& (255 : Int32) = nI s ∧
    nI (v + 256 * l + 65536 * s) &&& (-256 : Int32) = nI (256 * l + 65536 * s) ∧ (nI v ||| (nI l <<< ((8 : Int32) &&& 31))) ||| (nI s <<< ((16 : Int32) &&& 31)) = nI (v + 256 * l + 65536 * s) ∧ nI v ||| nI (256 * l + 65536 * s) = nI (v + 256 * l + 65536 * s) := by decide +kernel
theorem pr_dec : ∀ v, v < 16 → ∀ l, l < 16 → ∀ s, s < 16 → nI (v + 32 * l + 1024 * s) &&& (31 : Int32) = nI v ∧ (nI (v + 32 * l + 1024 * s) >>> ((5 : Int32) &&& 31)) &&& (31 : Int32) = nI l ∧ (nI (v + 32 * l + 1024 * s) >>> ((10 : Int32) &&& 31)) = nI s ∧
    (nI v ||| (nI l <<< ((5 : Int32) &&& 31))) ||| (nI s <<< ((10 : Int32) &&& 31)) = nI (v + 32 * l + 1024 * s) ∧ ¬ nI (v + 32 * l + 1024 * s) = (-1 : Int32) := by decide +kernel
section PK
variable {x y : An} {n : Nat}
theorem c_value (h : Bd3 x n) (hn : n ≤ 9) : m_X5_valueIn (nI (pk x)) = some (nI x.1) := congrArg some (pk_dec x.1 (by have := h.1; omega) x.2.1 (by have := h.2.1; omega) x.2.2 (by have := h.2.2; omega)).1
theorem c_long (h : Bd3 x n) (hn : n ≤ 9) : m_X5_longestIn (nI (pk x)) = some (nI x.2.1) := congrArg some (pk_dec x.1 (by have := h.1; omega) x.2.1 (by have := h.2.1; omega) x.2.2 (by have := h.2.2; omega)).2.1
theorem c_short (h : Bd3 x n) (hn : n ≤ 9) : m_X5_shortestIn (nI (pk x)) = some (nI x.2.2) := congrArg some (pk_dec x.1 (by have := h.1; omega) x.2.1 (by have := h.2.1; omega) x.2.2 (by have := h.2.2; omega)).2.2.1
theorem c_answer {a l s : Nat} (h1 : a ≤ 9) (h2 : l ≤ 9) (h3 : s ≤ 9) : m_X5_answerOf (nI a) (nI l) (nI s) = some (nI (pk (a, l, s))) := congrArg some (pk_dec a (by omega) l (by omega) s (by omega)).2.2.2.2.1
theorem c_cmb {m : Nat} (hx : Bd3 x n) (hy : Bd3 y m) (hn : n + m ≤ 9) : m_X5_together (nI (pk x)) (nI (pk y)) = some (nI (pk (cmb x y))) := by
  have ex := pk_dec x.1 (by have := hx.1; omega) x.2.1 (by have := hx.2.1; omega) x.2.2 (by have := hx.2.2; omega)
  have ey := pk_dec y.1 (by have := hy.1; omega) y.2.1 (by have := hy.2.1; omega) y.2.2 (by have := hy.2.2; omega)
  have hc := cmb_bd hx hy hn
  have ec := pk_dec (cmb x y).1 (by have := hc.1; omega) (cmb x y).2.1 (by have := hc.2.1; omega) (cmb x y).2.2 (by have := hc.2.2; omega)
  unfold m_X5_together
  simp only [nm]
  have e1 : nI (pk x) &&& (-256 : Int32) = nI (256 * x.2.1 + 65536 * x.2.2) := ex.2.2.2.1
  have e2 : nI (pk y) &&& (-256 : Int32) = nI (256 * y.2.1 + 65536 * y.2.2) := ey.2.2.2.1
  have e3 : (nI (pk x) ^^^ nI (pk y)) &&& (255 : Int32) = nI (x.1 ^^^ y.1) := by
    have a1 : nI (pk x) &&& (255 : Int32) = nI x.1 := ex.1
    have a2 : nI (pk y) &&& (255 : Int32) = nI y.1 := ey.1
    rw [← nI_xor, ← a1, ← a2, show (255 : Int32) = nI 255 from rfl, nI_xor, nI_and, nI_and, nI_and, nI_xor]
    congr 1
    refine Nat.eq_of_testBit_eq fun i => ?_
    simp only [Nat.testBit_and, Nat.testBit_xor]
    cases (pk x).testBit i <;> cases (pk y).testBit i <;> cases (255 : Nat).testBit i <;> rfl
  rw [e1, e2, e3, nI_add, show 256 * x.2.1 + 65536 * x.2.2 + (256 * y.2.1 + 65536 * y.2.2) = 256 * (cmb x y).2.1 + 65536 * (cmb x y).2.2 by show _ = 256 * (x.2.1 + y.2.1) + 65536 * (x.2.2 + y.2.2); omega]
  exact congrArg some ec.2.2.2.2.2
end PK
/-- the digit of a vertex in a place -/
def dgt (al : Nat → Nat) (p v : Nat) : Nat := if p.testBit v = true then 0 else if al (22 + v) ≠ 0 ∧ nrf al v &&& p ≠ 0 then al (22 + v) else 1
def cde (al : Nat → Nat) (p : Nat) : Nat → Nat
  | 0 => 0
  | m + 1 => cde al p m * (al 1 + 1) + dgt al p (al 0 - (m + 1))
def cod (al : Nat → Nat) (p bb : Nat) : Nat := cde al p (al 0) * (al 1 + 1) + bb
/-- few enough colourings -/
def Fw (al : Nat → Nat) : Prop := (al 1 + 1) ^ al 0 ≤ 20000 ∧ 1 ≤ al 1 ∧ ∀ v, v < 9 → al (22 + v) ≤ al 1 ∧ al (31 + v) ≤ al 1
theorem dgt_le {al : Nat → Nat} {p v : Nat} (F : Fw al) (hv : v < 9) : dgt al p v ≤ al 1 := by
  unfold dgt
  have := (F.2.2 v hv).1
  have := F.2.1
  split
  · omega
  · split <;> omega
theorem cde_lt {al : Nat → Nat} {p : Nat} (F : Fw al) (R : Rg al) : ∀ m, m ≤ al 0 → cde al p m < (al 1 + 1) ^ m
  | 0, _ => by
    show 0 < (al 1 + 1) ^ 0
    rw [Nat.pow_zero]
    decide
  | m + 1, h => by
    have ih := cde_lt (p := p) F R m (by omega)
    have hN := R.1
    have hd := dgt_le (p := p) (v := al 0 - (m + 1)) F (by omega)
    rw [cde, Nat.pow_succ]
    have : (cde al p m + 1) * (al 1 + 1) ≤ (al 1 + 1) ^ m * (al 1 + 1) := Nat.mul_le_mul_right _ ih
    rw [Nat.add_mul, Nat.one_mul] at this
    omega
theorem cod_lt {al : Nat → Nat} {p bb : Nat} (F : Fw al) (R : Rg al) (hb : bb ≤ al 1) : cod al p bb < 80000 := by
  have h := cde_lt (p := p) F R (al 0) (Nat.le_refl _)
  have h1 := F.1
  have h2 := R.2.1
  unfold cod
  have : (cde al p (al 0) + 1) * (al 1 + 1) ≤ 20000 * 4 := Nat.mul_le_mul (by omega) (by omega)
  rw [Nat.add_mul, Nat.one_mul] at this
  omega
/-- the same place: the same digits -/
theorem cde_inj {al al' : Nat → Nat} {p p' : Nat} (F : Fw al) (F' : Fw al') (h0 : al' 0 = al 0) (h1 : al' 1 = al 1) (hN : al 0 ≤ 9) : ∀ m, m ≤ al 0 → cde al p m = cde al' p' m → ∀ i, i < al 0 → al 0 - m ≤ i → dgt al p i = dgt al' p' i
  | 0, _, _, i, hi, h => by omega
  | m + 1, hm, e, i, hi, h => by
    rw [cde, cde, h1, h0] at e
    have a1 := dgt_le (p := p) (v := al 0 - (m + 1)) F (by omega)
    have a2 := dgt_le (p := p') (v := al 0 - (m + 1)) F' (by omega)
    rw [h1] at a2
    have hd : dgt al p (al 0 - (m + 1)) = dgt al' p' (al 0 - (m + 1)) := by
      have := congrArg (· % (al 1 + 1)) e
      simp only [Nat.mul_comm _ (al 1 + 1), Nat.mul_add_mod] at this
      rw [Nat.mod_eq_of_lt (by omega), Nat.mod_eq_of_lt (by omega)] at this
      exact this
    have hc : cde al p m = cde al' p' m := by
      rw [hd] at e
      have := Nat.add_right_cancel e
      exact Nat.eq_of_mul_eq_mul_right (by omega) this
    by_cases hi' : i = al 0 - (m + 1)
    · rw [hi']
      exact hd
    · exact cde_inj F F' h0 h1 hN m (by omega) hc i hi (by omega)
theorem cod_inj {al al' : Nat → Nat} {p p' bb bb' : Nat} (F : Fw al) (F' : Fw al') (h0 : al' 0 = al 0) (h1 : al' 1 = al 1) (hN : al 0 ≤ 9) (hb : bb ≤ al 1) (hb' : bb' ≤ al 1) (e : cod al p bb = cod al' p' bb') : bb = bb' ∧ ∀ i, i < al 0 → dgt al p i = dgt al' p' i := by
  unfold cod at e
  rw [h1, h0] at e
  have hd : bb = bb' := by
    have := congrArg (· % (al 1 + 1)) e
    simp only [Nat.mul_comm _ (al 1 + 1), Nat.mul_add_mod] at this
    rw [Nat.mod_eq_of_lt (by omega), Nat.mod_eq_of_lt (by omega)] at this
    exact this
  subst hd
  have hc : cde al p (al 0) = cde al' p' (al 0) := Nat.eq_of_mul_eq_mul_right (show 0 < al 1 + 1 by omega) (Nat.add_right_cancel e)
  exact ⟨rfl, fun i hi => cde_inj F F' h0 h1 hN (al 0) (Nat.le_refl _) hc i hi (by omega)⟩
section RR
variable {v : Nat → Int32} {A : Nat → Nat → Int32} {h : Hp} {al : Nat → Nat}
theorem r_al0 (hz : 31 ≤ h.2.1) (ha : Al A al) : aI (setR v A h) 0 21 (0 : Int32) = some (nI (al 0)) := r_al (k := 0) hz ha (by decide)
theorem r_al1 (hz : 31 ≤ h.2.1) (ha : Al A al) : aI (setR v A h) 0 21 (1 : Int32) = some (nI (al 1)) := r_al (k := 1) hz ha (by decide)
theorem r_al2 (hz : 31 ≤ h.2.1) (ha : Al A al) : aI (setR v A h) 0 21 (2 : Int32) = some (nI (al 2)) := r_al (k := 2) hz ha (by decide)
theorem r_al3 (hz : 31 ≤ h.2.1) (ha : Al A al) : aI (setR v A h) 0 21 (3 : Int32) = some (nI (al 3)) := r_al (k := 3) hz ha (by decide)
theorem y_placeOf (hz : 31 ≤ h.2.1) (ha : Al A al) (R : Rg al) (F : Fw al) {p bb : Nat} (hp : p < 512) (hb : bb ≤ al 1) : m_X6_placeOf 20 (nI p) (nI bb - 1) (setR v A h) = some (nI (cod al p bb)) := by
  unfold m_X6_placeOf
  have hN := R.1
  have hC := R.2.1
  rw [r_a hz, Option.bind_some, r_al0 hz ha, Option.bind_some]
  simp only [nm]
  have key : ∀ (K : Int32 → Option Int32) m f, m ≤ al 0 → al 0 - m < f → m_X6_placeOf_L12 20 (nI p) (nI bb - 1) (setR v A h) K f (nI (cde al p m)) (nI (al 0 - m) - 1) = K (nI (cde al p (al 0))) := by
    intro K m f hm
    induction f generalizing m with
    | zero => intro hf; omega
    | succ f ih =>
      intro hf
      rw [m_X6_placeOf_L12]
      by_cases hmN : m = al 0
      · subst hmN
        rw [Nat.sub_self, if_pos (by decide +kernel)]
      · obtain ⟨w, hw⟩ : ∃ w, al 0 - m = w + 1 := ⟨al 0 - m - 1, by omega⟩
        have hwm : al 0 - (m + 1) = w := by omega
        have h3 := (R.2.2.2.2.1 w (by omega)).2.2.1
        have hnr := nrf_lt R (show w < 9 by omega)
        have han : nrf al w &&& p < 512 := and_lt (n := 9) hnr
        have ihm := ih (m + 1) (by omega) (by omega)
        rw [hwm, cde, hwm] at ihm
        rw [hw, nI_pred, iNeg (by omega), nI_bit (by omega) (by omega)]
        have em : nI w + (-1 : Int32) = nI w - 1 := by rw [Int32.sub_eq_add_neg]
        simp only [jK, nm, r_cv hz, y_isFree hz ha R (show w < 9 by omega), Option.bind_some, r_a hz, i13, i22, nI_add, r_nr hz ha (show w < 9 by omega), r_al1 hz ha, r_al hz ha (show 22 + w < 40 by omega), nI_1, pk_mul, Int32.add_zero, em]
        unfold dgt at ihm
        by_cases f1 : p.testBit w = true
        · rw [if_pos f1, Nat.add_zero] at ihm
          rw [f1, if_pos (show nI true.toNat = 1 by decide)]
          simp only [if_true]
          by_cases f2 : al (22 + w) = 0
          · rw [f2]
            exact ihm
          · rw [beq_eq_false_iff_ne.mpr f2, if_neg (by decide)]
            split <;> exact ihm
        · rw [if_neg f1] at ihm
          rw [Bool.eq_false_iff.mpr f1, if_neg (show ¬ nI false.toNat = 1 by decide)]
          by_cases f2 : al (22 + w) = 0
          · rw [if_neg (fun e => e.1 f2)] at ihm
            rw [f2]
            exact ihm
          · rw [beq_eq_false_iff_ne.mpr f2, if_neg (by decide)]
            by_cases f3 : nrf al w &&& p = 0
            · rw [if_neg (fun e => e.2 f3)] at ihm
              rw [if_pos (show nI (nrf al w) &&& nI p = 0 by rw [nI_and]; exact (nI_z (Nat.lt_trans han (by decide))).mpr f3)]
              exact ihm
            · rw [if_pos ⟨f2, f3⟩] at ihm
              rw [if_neg (show ¬ nI (nrf al w) &&& nI p = 0 by rw [nI_and]; exact fun e => f3 ((nI_z (Nat.lt_trans han (by decide))).mp e))]
              exact ihm
  have k0 := fun K => key K 0 LF (Nat.zero_le _) (by unfold LF; omega)
  simp only [Nat.sub_zero] at k0
  refine (k0 _).trans ?_
  simp only [Option.bind_some, r_a hz, r_al1 hz ha]
  rw [Int32.add_assoc, Int32.sub_add_cancel, nI_1, pk_mul, nI_add]
  rfl
end RR
