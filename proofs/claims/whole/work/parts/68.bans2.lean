/-! a ban set on a part, in the reference's array -/
def st31 (A : Nat → Nat → Int32) (p : Nat) (x : Int32) (n : Nat) : Nat → Nat → Int32 := fun j => if j = 0 then (fun k => if 31 ≤ k ∧ k < 31 + n ∧ p.testBit (k - 31) = true then x else A 0 k) else A j
theorem st31_0 {A : Nat → Nat → Int32} {p : Nat} {x : Int32} : st31 A p x 0 = A := funext fun j => by
  unfold st31
  by_cases h : j = 0
  · subst h
    rw [if_pos rfl]
    refine funext fun k => ?_
    rw [if_neg (by omega)]
  · rw [if_neg h]
theorem st31_s {A : Nat → Nat → Int32} {p n : Nat} {x : Int32} : (if p.testBit n = true then updA (st31 A p x n) 0 (31 + n) x else st31 A p x n) = st31 A p x (n + 1) := by
  by_cases hp : p.testBit n = true
  · rw [if_pos hp]
    refine funext fun j => ?_
    unfold updA st31
    by_cases h : j = 0
    · subst h
      refine funext fun k => ?_
      show (if k = 31 + n then x else if 31 ≤ k ∧ k < 31 + n ∧ p.testBit (k - 31) = true then x else A 0 k) = if 31 ≤ k ∧ k < 31 + (n + 1) ∧ p.testBit (k - 31) = true then x else A 0 k
      by_cases h2 : k = 31 + n
      · subst h2
        rw [if_pos rfl, if_pos ⟨by omega, by omega, by rw [Nat.add_sub_cancel_left]; exact hp⟩]
      · rw [if_neg h2]
        by_cases h3 : 31 ≤ k ∧ k < 31 + n ∧ p.testBit (k - 31) = true
        · rw [if_pos h3, if_pos ⟨h3.1, by omega, h3.2.2⟩]
        · rw [if_neg h3, if_neg (fun e => h3 ⟨e.1, by omega, e.2.2⟩)]
    · simp only [if_neg h]
  · rw [if_neg hp]
    refine funext fun j => ?_
    unfold st31
    by_cases h : j = 0
    · subst h
      rw [if_pos rfl, if_pos rfl]
      refine funext fun k => ?_
      by_cases h3 : 31 ≤ k ∧ k < 31 + n ∧ p.testBit (k - 31) = true
      · rw [if_pos h3, if_pos ⟨h3.1, by omega, h3.2.2⟩]
      · rw [if_neg h3, if_neg (fun e => h3 ⟨e.1, by
          have : k ≠ 31 + n := fun g => by
            subst g
            rw [Nat.add_sub_cancel_left] at e
            exact hp e.2.2
          omega, e.2.2⟩)]
    · simp only [if_neg h]
