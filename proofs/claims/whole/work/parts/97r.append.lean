/-! append answered alike -/
def apB (p : Nat → Int32) (i : Nat) : Int32 := (p (i / 4) >>> (nI (24 - 8 * (i % 4)) &&& 31)) &&& (255 : Int32)
theorem byN (x : Int32) : x &&& (255 : Int32) = nI (x &&& (255 : Int32)).toBitVec.toNat ∧ (x &&& (255 : Int32)).toBitVec.toNat < 256 := by
  obtain ⟨j, hj, e⟩ := pk_andE x (m := (255 : Int32)) 8 rfl
  have h : (x &&& (255 : Int32)).toBitVec.toNat = j := by
    rw [e]
    show (BitVec.ofNat 32 j).toNat = j
    rw [BitVec.toNat_ofNat]
    omega
  rw [h]
  exact ⟨e, by omega⟩
section APY
variable {g : Hp} {v : Nat → Int32} {A : Nat → Nat → Int32} {fl : Nat} {p : Nat → Int32}
theorem y_app (hg : 31 ≤ g.2.1) (h9 : v 9 = nI fl) (hf : fl + 20 ≤ 500) : ∃ v' A', m_X6_append_L34 20 (p 0) (p 1) (p 2) (p 3) (p 4) (fun h13 => (gI h13 6 20 9).bind fun x27 => some (x27, h13)) LF (0 : Int32) (setR v A g) = some (nI (fl + 20), setR v' A' g) ∧ v' 9 = nI (fl + 20) ∧ (∀ j, j ≠ 9 → v' j = v j) ∧ (∀ j, j ≠ 6 → A' j = A j) ∧ (∀ j, j < fl → A' 6 j = A 6 j) ∧ ∀ j, j < 20 → A' 6 (fl + j) = apB p j := by
  refine forQ (σ := (Nat → Int32) × (Nat → Nat → Int32)) (fun F i q => m_X6_append_L34 20 (p 0) (p 1) (p 2) (p 3) (p 4) (fun h13 => (gI h13 6 20 9).bind fun x27 => some (x27, h13)) F (nI i) (setR q.1 q.2 g)) 20 (fun i q => q.1 9 = nI (fl + i) ∧ (∀ j, j ≠ 9 → q.1 j = v j) ∧ (∀ j, j ≠ 6 → q.2 j = A j) ∧ (∀ j, j < fl → q.2 6 j = A 6 j) ∧ ∀ j, j < i → q.2 6 (fl + j) = apB p j) (fun r => ∃ v' A', r = some (nI (fl + 20), setR v' A' g) ∧ v' 9 = nI (fl + 20) ∧ (∀ j, j ≠ 9 → v' j = v j) ∧ (∀ j, j ≠ 6 → A' j = A j) ∧ (∀ j, j < fl → A' 6 j = A 6 j) ∧ ∀ j, j < 20 → A' 6 (fl + j) = apB p j) (fun F i q hi hq e => ?_) (fun F q hq => ?_) LF 0 (v, A) (by decide) (by decide) ⟨h9, fun _ _ => rfl, fun _ _ => rfl, fun _ _ => rfl, fun j hj => absurd hj (Nat.not_lt_zero j)⟩
  · obtain ⟨v1, A1⟩ := q
    obtain ⟨q1, q2, q3, q4, q5⟩ := hq
    have rs := r_sI (v := v1) (A := A1) (h := g) (x := apB p i) (i := 6) (k := fl + i) hg (by decide) (show fl + i < 500 by omega) rfl
    have body : ∀ x : Int32, x = p (i / 4) → ∃ v' A', ((gR (setR v1 A1 g) 6 20 8).bind fun a16 => (gI (setR v1 A1 g) 6 20 9).bind fun x17 => (sI (setR v1 A1 g) 0 a16 x17 ((x >>> (((24 : Int32) - ((8 : Int32) * (jrem (nI i) (4 : Int32)))) &&& 31)) &&& (255 : Int32))).bind fun h18 => (gI h18 6 20 9).bind fun x19 => (pV h18 6 20 9 (.int (x19 + (1 : Int32)))).bind fun h20 => m_X6_append_L34 20 (p 0) (p 1) (p 2) (p 3) (p 4) (fun h13 => (gI h13 6 20 9).bind fun x27 => some (x27, h13)) F (nI i + 1) h20) = some (nI (fl + 20), setR v' A' g) ∧ v' 9 = nI (fl + 20) ∧ (∀ j, j ≠ 9 → v' j = v j) ∧ (∀ j, j ≠ 6 → A' j = A j) ∧ (∀ j, j < fl → A' 6 j = A 6 j) ∧ ∀ j, j < 20 → A' 6 (fl + j) = apB p j := fun x hx => by
      have e8 : (x >>> (((24 : Int32) - ((8 : Int32) * (jrem (nI i) (4 : Int32)))) &&& 31)) &&& (255 : Int32) = apB p i := by
        rw [hx, i_rem4 (by omega), show (8 : Int32) * nI (i % 4) = nI (8 * (i % 4)) from pk_mul 8 (i % 4), show (24 : Int32) - nI (8 * (i % 4)) = nI (24 - 8 * (i % 4)) from pk_sub (a := 24) (by omega)]
        rfl
      rw [e8, r_27 hg, Option.bind_some, rg9 hg, Option.bind_some, show v1 9 = nI (fl + i) from q1, show sI (setR v1 A1 g) 0 27 (nI (fl + i)) (apB p i) = _ from rs, Option.bind_some, rg9 hg, Option.bind_some, show v1 9 = nI (fl + i) from q1, nI_1, yp9 hg, Option.bind_some, nI_1]
      refine e (upd v1 9 (nI (fl + i + 1)), updA A1 6 (fl + i) (apB p i)) ⟨rfl, fun j hj => (if_neg hj).trans (q2 j hj), fun j hj => (updA_o hj).trans (q3 j hj), fun j hj => ?_, fun j hj => ?_⟩
      · show (if j = fl + i then _ else A1 6 j) = _
        rw [if_neg (by omega)]
        exact q4 j hj
      · show (if fl + j = fl + i then _ else A1 6 (fl + j)) = _
        by_cases hji : j = i
        · rw [if_pos (by omega), hji]
        · rw [if_neg (by omega)]
          exact q5 j (by omega)
    show ∃ v' A', m_X6_append_L34 20 (p 0) (p 1) (p 2) (p 3) (p 4) _ (F + 1) (nI i) (setR v1 A1 g) = _ ∧ _
    rw [m_X6_append_L34, if_neg (show ¬ (20 : Int32) ≤ nI i from nI_ge (b := 20) hi (by decide))]
    simp only [e_jK, e_nm]
    by_cases h4 : 4 ≤ i
    · rw [if_pos (show (4 : Int32) ≤ nI i from nI_le (a := 4) h4 (by omega))]
      by_cases h8 : 8 ≤ i
      · rw [if_pos (show (8 : Int32) ≤ nI i from nI_le (a := 8) h8 (by omega))]
        by_cases h12 : 12 ≤ i
        · rw [if_pos (show (12 : Int32) ≤ nI i from nI_le (a := 12) h12 (by omega))]
          by_cases h16 : 16 ≤ i
          · rw [if_pos (show (16 : Int32) ≤ nI i from nI_le (a := 16) h16 (by omega))]
            exact body (p 4) (by rw [show i / 4 = 4 by omega])
          · rw [if_neg (show ¬ (16 : Int32) ≤ nI i from nI_ge (b := 16) (by omega) (by decide))]
            exact body (p 3) (by rw [show i / 4 = 3 by omega])
        · rw [if_neg (show ¬ (12 : Int32) ≤ nI i from nI_ge (b := 12) (by omega) (by decide))]
          exact body (p 2) (by rw [show i / 4 = 2 by omega])
      · rw [if_neg (show ¬ (8 : Int32) ≤ nI i from nI_ge (b := 8) (by omega) (by decide))]
        exact body (p 1) (by rw [show i / 4 = 1 by omega])
    · rw [if_neg (show ¬ (4 : Int32) ≤ nI i from nI_ge (b := 4) (by omega) (by decide))]
      exact body (p 0) (by rw [show i / 4 = 0 by omega])
  · obtain ⟨v1, A1⟩ := q
    obtain ⟨q1, q2, q3, q4, q5⟩ := hq
    show ∃ v' A', m_X6_append_L34 20 (p 0) (p 1) (p 2) (p 3) (p 4) _ (F + 1) (nI 20) (setR v1 A1 g) = _ ∧ _
    rw [m_X6_append_L34, if_pos (show (20 : Int32) ≤ nI 20 by decide), rg9 hg, Option.bind_some, show v1 9 = nI (fl + 20) from q1]
    exact ⟨v1, A1, rfl, q1, q2, q3, q4, q5⟩
end APY
