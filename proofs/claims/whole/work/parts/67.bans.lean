/-! the reference's bans, saved and put back -/
def sv8 (A : Nat → Nat → Int32) (n : Nat) : Nat → Nat → Int32 := fun j => if j = 8 then (fun k => if k < n then A 0 (31 + k) else A 8 k) else A j
theorem sv8_s {A : Nat → Nat → Int32} {n : Nat} : updA (sv8 A n) 8 n (A 0 (31 + n)) = sv8 A (n + 1) := funext fun j => by
  unfold updA sv8
  by_cases h : j = 8
  · subst h
    refine funext fun k => ?_
    show (if k = n then A 0 (31 + n) else if k < n then A 0 (31 + k) else A 8 k) = if k < n + 1 then A 0 (31 + k) else A 8 k
    by_cases h2 : k = n
    · rw [if_pos h2, if_pos (by omega), h2]
    · rw [if_neg h2]
      by_cases h3 : k < n
      · rw [if_pos h3, if_pos (by omega)]
      · rw [if_neg h3, if_neg (by omega)]
  · simp only [if_neg h]
theorem sv8_0 {A : Nat → Nat → Int32} : sv8 A 0 = A := funext fun j => by
  unfold sv8
  by_cases h : j = 8
  · subst h
    rw [if_pos rfl]
    refine funext fun k => ?_
    rw [if_neg (Nat.not_lt_zero k)]
  · rw [if_neg h]
section RR
variable {v : Nat → Int32} {A : Nat → Nat → Int32} {h : Hp}
theorem r_29 (hz : 31 ≤ h.2.1) : gR (setR v A h) 6 20 19 = some 29 := at_gR (rAt hz) rfl
theorem y_save (hz : 31 ≤ h.2.1) {u5 u6 x2 : Int32} (K : Hp → Option (Int32 × Hp)) : m_X6_boardIf_L13 20 u5 u6 x2 K LF (0 : Int32) (setR v A h) = K (setR v (sv8 A 9) h) := by
  have key := forS (fun f i H => m_X6_boardIf_L13 20 u5 u6 x2 K f (nI i) H) 9 (fun i => setR v (sv8 A i) h) (K (setR v (sv8 A 9) h)) (fun f i hi e => ?_) (fun f => ?_) LF 0 (Nat.zero_le _) (by decide)
  · have key' : m_X6_boardIf_L13 20 u5 u6 x2 K LF (nI 0) (setR v (sv8 A 0) h) = _ := key
    rw [sv8_0] at key'
    exact key'
  · show m_X6_boardIf_L13 20 u5 u6 x2 K (f + 1) (nI i) (setR v (sv8 A i) h) = _
    have e8 : sI (setR v (sv8 A i) h) 0 29 (nI i) (A 0 (31 + i)) = some (setR v (updA (sv8 A i) 8 i (A 0 (31 + i))) h) := r_sI (i := 8) hz (by decide) hi rfl
    have e0 : sv8 A i 0 = A 0 := rfl
    rw [m_X6_boardIf_L13, i9, iNle hi (by decide), r_29 hz, Option.bind_some, r_a hz, Option.bind_some, i31, nI_add, r_a0 hz (by omega), Option.bind_some, e0, e8, Option.bind_some, sv8_s]
    simp only [nm]
    rw [nI_1]
    exact e
  · show m_X6_boardIf_L13 20 u5 u6 x2 K (f + 1) (nI 9) (setR v (sv8 A 9) h) = _
    rw [m_X6_boardIf_L13, i9, iLe (Nat.le_refl _) (by decide)]
end RR
