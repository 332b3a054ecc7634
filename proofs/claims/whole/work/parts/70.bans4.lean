/-! the same loop in lays -/
section RR
variable {v : Nat → Int32} {A : Nat → Nat → Int32} {h : Hp}
theorem y_ban13 (hz : 31 ≤ h.2.1) {p c n0 : Nat} {u16 : Int32} (hN : A 0 0 = nI n0) (h9 : n0 ≤ 9) (hp : p < 512) (K : Hp → Option Hp) : m_X6_lays_L13 20 u16 (nI c) (nI p) K LF (0 : Int32) (setR v A h) = K (setR v (st31 A p (nI (c + 1)) n0) h) := by
  have key := forS (fun f i H => m_X6_lays_L13 20 u16 (nI c) (nI p) K f (nI i) H) n0 (fun i => setR v (st31 A p (nI (c + 1)) i) h) (K (setR v (st31 A p (nI (c + 1)) n0) h)) (fun f i hi e => ?_) (fun f => ?_) LF 0 (Nat.zero_le _) (by unfold LF; omega)
  · have key' : m_X6_lays_L13 20 u16 (nI c) (nI p) K LF (nI 0) (setR v (st31 A p (nI (c + 1)) 0) h) = _ := key
    rw [st31_0] at key'
    exact key'
  · show m_X6_lays_L13 20 u16 (nI c) (nI p) K (f + 1) (nI i) (setR v (st31 A p (nI (c + 1)) i) h) = _
    have e0 : aI (setR v (st31 A p (nI (c + 1)) i) h) 0 21 (0 : Int32) = some (nI n0) := (r_a0 (k := 0) hz (by decide)).trans (by rw [st31_low (by decide), hN])
    rw [m_X6_lays_L13, r_a hz, Option.bind_some, e0, Option.bind_some, iNle hi (by omega), nI_bit (by omega) (by omega)]
    simp only [jK, nm]
    rw [← e, ← st31_s]
    by_cases hb : p.testBit i = true
    · rw [hb, if_pos (by decide), if_pos rfl, Option.bind_some, i31, nI_add, nI_1, r_s0 hz (by omega), Option.bind_some, nI_1]
    · rw [if_neg hb, Bool.eq_false_iff.mpr hb, if_neg (by decide), nI_1]
  · show m_X6_lays_L13 20 u16 (nI c) (nI p) K (f + 1) (nI n0) (setR v (st31 A p (nI (c + 1)) n0) h) = _
    have e0 : aI (setR v (st31 A p (nI (c + 1)) n0) h) 0 21 (0 : Int32) = some (nI n0) := (r_a0 (k := 0) hz (by decide)).trans (by rw [st31_low (by decide), hN])
    rw [m_X6_lays_L13, r_a hz, Option.bind_some, e0, Option.bind_some, iLe (Nat.le_refl _) (by omega)]
end RR
