/-! cells that are known; the reference's part of the heap as one state -/
def At (h : Hp) (a : Nat) (c : Ac) : Prop := a < h.2.1 ∧ h.1 a = c
theorem at_hO {h : Hp} {a ci : Nat} {fs : List Value} (A : At h a (.inr (ci, fs))) : hO h ci a = some fs := by
  unfold hO
  rw [if_pos A.1, A.2]
  exact if_pos rfl
theorem at_hA {h : Hp} {a t : Nat} {x : vp_A} (A : At h a (.inl (t, x))) : hA h t a = some x := by
  unfold hA
  rw [if_pos A.1, A.2]
  exact if_pos rfl
theorem at_set_eq {h : Hp} {a : Nat} {c c' : Ac} (A : At h a c) : At (hset h a c') a c' := ⟨A.1, if_pos rfl⟩
theorem at_set_ne {h : Hp} {a b : Nat} {c c' : Ac} (A : At h a c) (hn : a ≠ b) : At (hset h b c') a c := ⟨A.1, (if_neg hn).trans A.2⟩
theorem at_push {h : Hp} {a n : Nat} {c c' : Ac} (A : At h a c) : At (hpush h c' n) a c := ⟨Nat.lt_succ_of_lt A.1, (if_neg (Nat.ne_of_lt A.1)).trans A.2⟩
theorem at_new {h : Hp} {n : Nat} {c : Ac} : At (hpush h c n) h.2.1 c := ⟨Nat.lt_succ_self _, if_pos rfl⟩
theorem at_cv {h : Hp} {a ci : Nat} {fs : List Value} {ρ : Type} {r : Option ρ} (A : At h a (.inr (ci, fs))) : cv h ci a r = r := by
  unfold cv
  rw [(at_hO A)]
  rfl
theorem at_gV {h : Hp} {a ci k : Nat} {fs : List Value} (A : At h a (.inr (ci, fs))) : gV h ci a k = fs[k]? := by
  unfold gV
  rw [(at_hO A)]
  rfl
theorem at_gI {h : Hp} {a ci k : Nat} {fs : List Value} {x : Int32} (A : At h a (.inr (ci, fs))) (hk : fs[k]? = some (.int x)) : gI h ci a k = some x := by
  unfold gI
  rw [(at_gV A), hk]
  rfl
theorem at_gR {h : Hp} {a ci k b : Nat} {fs : List Value} (A : At h a (.inr (ci, fs))) (hk : fs[k]? = some (.ref b)) : gR h ci a k = some b := by
  unfold gR
  rw [(at_gV A), hk]
  rfl
theorem at_gN {h : Hp} {a ci k : Nat} {q : Option Nat} {fs : List Value} (A : At h a (.inr (ci, fs))) (hk : fs[k]? = some (va_rf q)) : gN h ci a k = some q := by
  unfold gN
  rw [(at_gV A), hk]
  cases q <;> rfl
theorem at_pV {h : Hp} {a ci k : Nat} {v : Value} {fs : List Value} (A : At h a (.inr (ci, fs))) (hk : k < fs.length) : pV h ci a k v = some (hset h a (.inr (ci, fs.set k v))) := by
  unfold pV
  rw [(at_hO A)]
  exact if_pos hk
theorem at_aN {h : Hp} {a t n : Nat} {y} (A : At h a (.inl (t, n, y))) : aN h t a = some (nI n) := by
  unfold aN
  rw [(at_hA A)]
  rfl
theorem at_aI {h : Hp} {a t n k : Nat} {f : Nat → Int32} (A : At h a (.inl (t, n, .inl f))) (hk : k < n) (hn : n < 2 ^ 31) : aI h t a (nI k) = some (f k) := by
  unfold aI
  rw [(at_hA A)]
  show (if nI k < 0 ∨ n ≤ (nI k).toNatClampNeg then none else some (f (nI k).toNatClampNeg)) = _
  rw [if_neg (nI_in hk hn), nI_clamp (by omega)]
theorem at_sI {h : Hp} {a t n k : Nat} {f : Nat → Int32} {x : Int32} (A : At h a (.inl (t, n, .inl f))) (hk : k < n) (hn : n < 2 ^ 31) : sI h t a (nI k) x = some (hset h a (.inl (t, n, .inl (upd f k (nar t x))))) := by
  unfold sI
  rw [(at_hA A)]
  show (if nI k < 0 ∨ n ≤ (nI k).toNatClampNeg then none else some (hset h a (.inl (t, n, .inl (upd f (nI k).toNatClampNeg (nar t x)))))) = _
  rw [if_neg (nI_in hk hn), nI_clamp (by omega)]
theorem at_aL {h : Hp} {a t n k : Nat} {f : Nat → Int64} (A : At h a (.inl (t, n, .inr (.inl f)))) (hk : k < n) (hn : n < 2 ^ 31) : aL h t a (nI k) = some (f k) := by
  unfold aL
  rw [(at_hA A)]
  show (if nI k < 0 ∨ n ≤ (nI k).toNatClampNeg then none else some (f (nI k).toNatClampNeg)) = _
  rw [if_neg (nI_in hk hn), nI_clamp (by omega)]
theorem at_sL {h : Hp} {a t n k : Nat} {f : Nat → Int64} {x : Int64} (A : At h a (.inl (t, n, .inr (.inl f)))) (hk : k < n) (hn : n < 2 ^ 31) : sL h t a (nI k) x = some (hset h a (.inl (t, n, .inr (.inl (vp_updL f k x))))) := by
  unfold sL
  rw [(at_hA A)]
  show (if nI k < 0 ∨ n ≤ (nI k).toNatClampNeg then none else some (hset h a (.inl (t, n, .inr (.inl (vp_updL f (nI k).toNatClampNeg x)))))) = _
  rw [if_neg (nI_in hk hn), nI_clamp (by omega)]
theorem at_aQ {h : Hp} {a t n k : Nat} {f : Nat → Option Nat} (A : At h a (.inl (t, n, .inr (.inr (.inr (.inr f)))))) (hk : k < n) (hn : n < 2 ^ 31) : aQ h t a (nI k) = some (f k) := by
  unfold aQ
  rw [(at_hA A)]
  show (if nI k < 0 ∨ n ≤ (nI k).toNatClampNeg then none else some (f (nI k).toNatClampNeg)) = _
  rw [if_neg (nI_in hk hn), nI_clamp (by omega)]
theorem at_sQ {h : Hp} {a t n k x : Nat} {f : Nat → Option Nat} {fs : List Value} (A : At h a (.inl (t, n, .inr (.inr (.inr (.inr f)))))) (hk : k < n) (hn : n < 2 ^ 31) (hx : At h x (.inr (0, fs))) : sQ h t a (nI k) x = some (hset h a (.inl (t, n, .inr (.inr (.inr (.inr (va_up f k (some x)))))))) := by
  unfold sQ
  rw [(at_hA A)]
  show (if nI k < 0 ∨ n ≤ (nI k).toNatClampNeg then none else (hO h 0 x).map fun _ => hset h a (.inl (t, n, .inr (.inr (.inr (.inr (va_up f (nI k).toNatClampNeg (some x)))))))) = _
  rw [if_neg (nI_in hk hn), nI_clamp (by omega), (at_hO hx)]
  rfl
/-! the reference: its object at 20, its arrays at 21 to 30 -/
def rO (v : Nat → Int32) : List Value := [.ref 21, .ref 22, .ref 23, .ref 24, .ref 25, .ref 26, .int (v 6), .int (v 7), .ref 27, .int (v 9), .int (v 10), .int (v 11), .int (v 12), .int (v 13), .int (v 14), .int (v 15), .int (v 16), .int (v 17), .ref 28, .ref 29, .ref 30, .int (v 21)]
def rT : Nat → Nat := fun i => if i = 5 then 3 else 0
def rN : Nat → Nat := fun i => match i with
  | 0 => 4136
  | 1 => 4136
  | 2 => 4136
  | 3 => 33088
  | 4 => 8272
  | 5 => 2
  | 6 => 500
  | 7 => 80000
  | 8 => 9
  | _ => 14
def setR (v : Nat → Int32) (A : Nat → Nat → Int32) (h : Hp) : Hp := (fun x => if x = 20 then .inr (6, rO v) else if 21 ≤ x ∧ x ≤ 30 then .inl (rT (x - 21), rN (x - 21), .inl (A (x - 21))) else h.1 x, h.2)
def updA (A : Nat → Nat → Int32) (i k : Nat) (x : Int32) : Nat → Nat → Int32 := fun j => if j = i then upd (A i) k x else A j
section RF
variable {v : Nat → Int32} {A : Nat → Nat → Int32} {h : Hp}
theorem rAt (hz : 31 ≤ h.2.1) : At (setR v A h) 20 (.inr (6, rO v)) := ⟨by show 20 < h.2.1; omega, rfl⟩
theorem rAr (hz : 31 ≤ h.2.1) {i : Nat} (hi : i < 10) : At (setR v A h) (21 + i) (.inl (rT i, rN i, .inl (A i))) := by
  refine ⟨by show 21 + i < h.2.1; omega, ?_⟩
  show (if 21 + i = 20 then _ else if 21 ≤ 21 + i ∧ 21 + i ≤ 30 then _ else h.1 (21 + i)) = _
  rw [if_neg (by omega), if_pos ⟨by omega, by omega⟩, show 21 + i - 21 = i by omega]
theorem r_cv (hz : 31 ≤ h.2.1) {ρ : Type} {r : Option ρ} : cv (setR v A h) 6 20 r = r := at_cv (rAt hz)
theorem setR_setR {v' : Nat → Int32} {A' : Nat → Nat → Int32} : setR v' A' (setR v A h) = setR v' A' h := by
  refine Prod.ext (funext fun x => ?_) rfl
  show (if x = 20 then _ else if 21 ≤ x ∧ x ≤ 30 then _ else (if x = 20 then _ else if 21 ≤ x ∧ x ≤ 30 then _ else h.1 x)) = (if x = 20 then _ else if 21 ≤ x ∧ x ≤ 30 then _ else h.1 x)
  by_cases h1 : x = 20
  · simp only [if_pos h1]
  · by_cases h2 : 21 ≤ x ∧ x ≤ 30
    · simp only [if_neg h1, if_pos h2]
    · simp only [if_neg h1, if_neg h2]
theorem r_pV (hz : 31 ≤ h.2.1) {k : Nat} {x : Int32} (hk : (rO v).set k (.int x) = rO (upd v k x)) (hl : k < 22) : pV (setR v A h) 6 20 k (.int x) = some (setR (upd v k x) A h) := by
  rw [at_pV (rAt hz) hl, hk]
  congr 1
  refine Prod.ext (funext fun y => ?_) rfl
  show (if y = 20 then _ else (if y = 20 then _ else _)) = (if y = 20 then _ else _)
  by_cases h1 : y = 20
  · rw [if_pos h1, if_pos h1]
  · rw [if_neg h1, if_neg h1, if_neg h1]
theorem r_sI (hz : 31 ≤ h.2.1) {i k : Nat} {x : Int32} (hi : i < 10) (hk : k < rN i) (hx : nar (rT i) x = x) : sI (setR v A h) (rT i) (21 + i) (nI k) x = some (setR v (updA A i k x) h) := by
  have hN : rN i < 2 ^ 31 := (by decide +kernel : ∀ i, i < 10 → rN i < 2 ^ 31) i hi
  rw [at_sI (rAr hz hi) hk hN, hx]
  congr 1
  refine Prod.ext (funext fun y => ?_) rfl
  show (if y = 21 + i then _ else (if y = 20 then _ else if 21 ≤ y ∧ y ≤ 30 then _ else h.1 y)) = (if y = 20 then _ else if 21 ≤ y ∧ y ≤ 30 then _ else h.1 y)
  by_cases h1 : y = 21 + i
  · subst h1
    rw [if_pos rfl, if_neg (by omega), if_pos ⟨by omega, by omega⟩, show 21 + i - 21 = i by omega]
    unfold updA
    rw [if_pos rfl]
  · rw [if_neg h1]
    by_cases h2 : y = 20
    · rw [if_pos h2, if_pos h2]
    · rw [if_neg h2, if_neg h2]
      by_cases h3 : 21 ≤ y ∧ y ≤ 30
      · rw [if_pos h3, if_pos h3]
        unfold updA
        rw [if_neg (by omega)]
      · rw [if_neg h3, if_neg h3]
theorem r_aI (hz : 31 ≤ h.2.1) {i k : Nat} (hi : i < 10) (hk : k < rN i) : aI (setR v A h) (rT i) (21 + i) (nI k) = some (A i k) := at_aI (rAr hz hi) hk ((by decide +kernel : ∀ i, i < 10 → rN i < 2 ^ 31) i hi)
theorem r_a (hz : 31 ≤ h.2.1) : gR (setR v A h) 6 20 0 = some 21 := at_gR (rAt hz) rfl
theorem r_a0 (hz : 31 ≤ h.2.1) {k : Nat} (hk : k < 4136) : aI (setR v A h) 0 21 (nI k) = some (A 0 k) := r_aI (i := 0) hz (by decide) hk
theorem r_s0 (hz : 31 ≤ h.2.1) {k : Nat} {x : Int32} (hk : k < 4136) : sI (setR v A h) 0 21 (nI k) x = some (setR v (updA A 0 k x) h) := r_sI (i := 0) hz (by decide) hk rfl
end RF
