/-! the board behind a lay, in the reference -/
theorem bif_back {A : Nat → Nat → Int32} {M : Nat → Int32} {p u n : Nat} {x : Int32} (hn : n ≤ 9) (hu : u < 9) (h0 : A 0 (22 + u) = 0) : rs31 (updA (wK (updA (st31 (sv8 A 9) p x n) 0 (22 + u) x) M) 0 (22 + u) 0) 9 = wK (sv8 A 9) M := funext fun j => by
  by_cases hj : j = 0
  · subst hj
    refine funext fun k => ?_
    show (if 31 ≤ k ∧ k < 31 + 9 then (if k - 31 < 9 then A 0 (31 + (k - 31)) else A 8 (k - 31)) else if k = 22 + u then 0 else if k = 22 + u then x else if 31 ≤ k ∧ k < 31 + n ∧ p.testBit (k - 31) = true then x else A 0 k) = A 0 k
    by_cases h1 : 31 ≤ k ∧ k < 31 + 9
    · rw [if_pos h1, if_pos (by omega), show 31 + (k - 31) = k by omega]
    · rw [if_neg h1]
      by_cases h2 : k = 22 + u
      · rw [if_pos h2, h2, h0]
      · rw [if_neg h2, if_neg h2, if_neg (by omega)]
  · unfold rs31 updA wK st31
    simp only [if_neg hj]
