/-! the bans put back -/
def rs31 (A : Nat → Nat → Int32) (n : Nat) : Nat → Nat → Int32 := fun j => if j = 0 then (fun k => if 31 ≤ k ∧ k < 31 + n then A 8 (k - 31) else A 0 k) else A j
theorem rs31_0 {A : Nat → Nat → Int32} : rs31 A 0 = A := funext fun j => by
  unfold rs31
  by_cases h : j = 0
  · subst h
    rw [if_pos rfl]
    refine funext fun k => ?_
    rw [if_neg (by omega)]
  · rw [if_neg h]
theorem rs31_s {A : Nat → Nat → Int32} {n : Nat} : updA (rs31 A n) 0 (31 + n) (A 8 n) = rs31 A (n + 1) := funext fun j => by
  unfold updA rs31
  by_cases h : j = 0
  · subst h
    refine funext fun k => ?_
    show (if k = 31 + n then A 8 n else if 31 ≤ k ∧ k < 31 + n then A 8 (k - 31) else A 0 k) = if 31 ≤ k ∧ k < 31 + (n + 1) then A 8 (k - 31) else A 0 k
    by_cases h2 : k = 31 + n
    · subst h2
      rw [if_pos rfl, if_pos ⟨by omega, by omega⟩, Nat.add_sub_cancel_left]
    · rw [if_neg h2]
      by_cases h3 : 31 ≤ k ∧ k < 31 + n
      · rw [if_pos h3, if_pos ⟨h3.1, by omega⟩]
      · rw [if_neg h3, if_neg (fun e => h3 ⟨e.1, by omega⟩)]
  · simp only [if_neg h]
section RR
variable {v : Nat → Int32} {A : Nat → Nat → Int32} {h : Hp}
theorem y_back (hz : 31 ≤ h.2.1) {u37 : Int32} (K : Hp → Option (Int32 × Hp)) : m_X6_boardIf_L117 20 u37 K LF (0 : Int32) (setR v A h) = K (setR v (rs31 A 9) h) := by
  have key := forS (fun f i H => m_X6_boardIf_L117 20 u37 K f (nI i) H) 9 (fun i => setR v (rs31 A i) h) (K (setR v (rs31 A 9) h)) (fun f i hi e => ?_) (fun f => ?_) LF 0 (Nat.zero_le _) (by decide)
  · have key' : m_X6_boardIf_L117 20 u37 K LF (nI 0) (setR v (rs31 A 0) h) = _ := key
    rw [rs31_0] at key'
    exact key'
  · show m_X6_boardIf_L117 20 u37 K (f + 1) (nI i) (setR v (rs31 A i) h) = _
    have e8 : aI (setR v (rs31 A i) h) 0 29 (nI i) = some (A 8 i) := r_aI (i := 8) hz (by decide) hi
    rw [m_X6_boardIf_L117, i9, iNle hi (by decide), r_a hz, Option.bind_some, r_29 hz, Option.bind_some, e8, Option.bind_some, i31, nI_add, r_s0 hz (by omega), Option.bind_some, rs31_s]
    simp only [nm]
    rw [nI_1]
    exact e
  · show m_X6_boardIf_L117 20 u37 K (f + 1) (nI 9) (setR v (rs31 A 9) h) = _
    rw [m_X6_boardIf_L117, i9, iLe (Nat.le_refl _) (by decide)]
end RR
