/-! the reference forgets its table -/
theorem forS {σ γ : Type} (L : Nat → Nat → σ → Option γ) (N : Nat) (S : Nat → σ) (R : Option γ) (step : ∀ f i, i < N → L f (i + 1) (S (i + 1)) = R → L (f + 1) i (S i) = R) (done : ∀ f, L (f + 1) N (S N) = R) : ∀ f i, i ≤ N → N - i < f → L f i (S i) = R := by
  intro f
  induction f with
  | zero => intro i _ h; omega
  | succ f ih =>
    intro i hi hf
    by_cases h : i = N
    · subst h
      exact done f
    · exact step f i (by omega) (ih (i + 1) (by omega) (by omega))
def fgt (M : Nat → Int32) (n : Nat) : Nat → Int32 := fun k => if k < n then (-1 : Int32) else M k
theorem fgt_s {M : Nat → Int32} {n : Nat} : upd (fgt M n) n (-1 : Int32) = fgt M (n + 1) := funext fun k => by
  unfold upd fgt
  by_cases h : k = n
  · rw [if_pos h, if_pos (by omega)]
  · rw [if_neg h]
    by_cases h2 : k < n
    · rw [if_pos h2, if_pos (by omega)]
    · rw [if_neg h2, if_neg (by omega)]
theorem fgt_0 {M : Nat → Int32} : fgt M 0 = M := funext fun k => if_neg (Nat.not_lt_zero k)
theorem MK_fgt {al : Nat → Nat} {M : Nat → Int32} : MK al (fgt M 80000) := fun al' p bb _ C => Or.inl (if_pos (cod_lt C.2.1 C.1 C.2.2.2.2.2))
section RR
variable {v : Nat → Int32} {A : Nat → Nat → Int32} {h : Hp}
theorem y_forgets (hz : 31 ≤ h.2.1) : m_X6_forgets 20 (setR v A h) = some (setR v (wK A (fgt (A 7) 80000)) h) := by
  unfold m_X6_forgets
  have key := forS (fun f i H => m_X6_forgets_L2 20 (fun h3 => some h3) f (nI i) H) 80000 (fun i => setR v (wK A (fgt (A 7) i)) h) (some (setR v (wK A (fgt (A 7) 80000)) h)) (fun f i hi e => ?_) (fun f => ?_) LF 0 (Nat.zero_le _) (by decide)
  · have key' : m_X6_forgets_L2 20 (fun h3 => some h3) LF (nI 0) (setR v (wK A (fgt (A 7) 0)) h) = _ := key
    rw [fgt_0, wK_self] at key'
    exact key'
  · show m_X6_forgets_L2 20 (fun h3 => some h3) (f + 1) (nI i) (setR v (wK A (fgt (A 7) i)) h) = _
    rw [m_X6_forgets_L2, show (80000 : Int32) = nI 80000 from rfl, iNle hi (by decide), r_28 hz, Option.bind_some, r_sk hz hi, Option.bind_some]
    simp only [nm]
    rw [nI_1, wK_7, wK_wK, fgt_s]
    exact e
  · show m_X6_forgets_L2 20 (fun h3 => some h3) (f + 1) (nI 80000) (setR v (wK A (fgt (A 7) 80000)) h) = _
    rw [m_X6_forgets_L2, show (80000 : Int32) = nI 80000 from rfl, iLe (Nat.le_refl _) (by decide)]
end RR
