/-! the reference's way through a part: its table is all that changes -/
def wK (A : Nat → Nat → Int32) (M : Nat → Int32) : Nat → Nat → Int32 := fun j => if j = 7 then M else A j
theorem wK_wK {A : Nat → Nat → Int32} {M M' : Nat → Int32} : wK (wK A M) M' = wK A M' := funext fun j => by
  unfold wK
  by_cases h : j = 7
  · rw [if_pos h, if_pos h]
  · rw [if_neg h, if_neg h, if_neg h]
theorem wK_self {A : Nat → Nat → Int32} : wK A (A 7) = A := funext fun j => by
  unfold wK
  by_cases h : j = 7
  · rw [if_pos h, h]
  · rw [if_neg h]
theorem wK_7 {A : Nat → Nat → Int32} {M : Nat → Int32} : wK A M 7 = M := if_pos rfl
theorem wK_0 {A : Nat → Nat → Int32} {M : Nat → Int32} : wK A M 0 = A 0 := if_neg (by decide)
theorem Al_wK {A : Nat → Nat → Int32} {M : Nat → Int32} {al : Nat → Nat} (h : Al A al) : Al (wK A M) al := fun k hk => by rw [wK_0]; exact h k hk
theorem updA_7 {A : Nat → Nat → Int32} {k : Nat} {x : Int32} : updA A 7 k x = wK A (upd (A 7) k x) := funext fun j => by
  unfold updA wK
  by_cases h : j = 7
  · subst h
    rfl
  · simp only [if_neg h]
theorem Al_onv {A : Nat → Nat → Int32} {al : Nat → Nat} {v c : Nat} (h : Al A al) : Al (updA A 0 (22 + v) (nI (c + 1))) (onv al v c) := fun k hk => by
  unfold updA onv upd
  rw [if_pos rfl]
  by_cases e : k = 22 + v
  · rw [if_pos e, if_pos e]
  · rw [if_neg e, if_neg e, h k hk]
theorem back_onv {A : Nat → Nat → Int32} {M : Nat → Int32} {k : Nat} {x : Int32} (h : A 0 k = 0) : updA (wK (updA A 0 k x) M) 0 k 0 = wK A M := funext fun j => by
  by_cases h0 : j = 0
  · subst h0
    show upd (upd (A 0) k x) k 0 = A 0
    refine funext fun i => ?_
    unfold upd
    by_cases e : i = k
    · rw [if_pos e, e, h]
    · rw [if_neg e, if_neg e]
  · unfold updA wK
    simp only [if_neg h0]
/-- the shortest game so far as the reference holds it: 10 stands for none -/
def shI (s : Nat) : Int32 := if s = 10 then (-1 : Int32) else nI s
def Bq (a : An) : Prop := a.1 < 1024 ∧ a.2.1 ≤ 9 ∧ a.2.2 ≤ 10
theorem Bq_stp {a x : An} (ha : Bq a) (hx : Bd3 x 8) : Bq (stp3 a x) := by
  obtain ⟨a1, a2, a3⟩ := ha
  obtain ⟨x1, x2, x3⟩ := hx
  refine ⟨or_lt (n := 10) a1 (Nat.pow_lt_pow_right (by decide) (by omega)), ?_, ?_⟩
  · show max a.2.1 (x.2.1 + 1) ≤ 9
    omega
  · show min a.2.2 (x.2.2 + 1) ≤ 10
    omega
theorem shI_step {s t : Nat} (hs : s ≤ 10) (ht : t ≤ 9) : (if shI s = (-1 : Int32) then nI t else if shI s ≤ nI t then shI s else nI t) = shI (min s t) := (by decide +kernel : ∀ s, s < 11 → ∀ t, t < 10 → (if shI s = (-1 : Int32) then nI t else if shI s ≤ nI t then shI s else nI t) = shI (min s t)) s (by omega) t (by omega)
theorem lo_step {l t : Nat} (hl : l ≤ 9) (ht : t ≤ 9) : (if nI t ≤ nI l then nI l else nI t) = nI (max l t) := (by decide +kernel : ∀ l, l < 10 → ∀ t, t < 10 → (if nI t ≤ nI l then nI l else nI t) = nI (max l t)) l (by omega) t (by omega)
theorem y_mex {s : Nat} (hs : s < 1024) : m_X6_lowest (nI s ^^^ (-1 : Int32)) = some (nI (mex s)) := by
  unfold m_X6_lowest
  have hm := mex_ok (n := 1024) hs (fun i hi => Nat.lt_of_lt_of_le (show i < 10 from by
    rcases Nat.lt_or_ge i 10 with h | h
    · exact h
    · rw [tb_ge (n := 10) hs h] at hi
      cases hi) (by decide))
  have hb : ∀ s, s < 1024 → ∀ i, i < 11 → ((nI s ^^^ (-1 : Int32)) >>> (nI i &&& 31)) &&& (1 : Int32) = nI (!s.testBit i).toNat := by decide +kernel
  refine forN (fun f i _ => m_X6_lowest_L2 (nI s ^^^ (-1 : Int32)) (fun v3 => some v3) f (nI i)) (mex s) (fun i => i) _ (fun f i hi e => ?_) (fun f => ?_) LF 0 (Nat.zero_le _) (by unfold LF; omega)
  · show m_X6_lowest_L2 _ _ (f + 1) _ = _
    rw [m_X6_lowest_L2, hb s hs i (by omega), hm.2.2.1 i hi, if_pos (by decide)]
    simp only [nm]
    rw [nI_1]
    exact e
  · show m_X6_lowest_L2 _ _ (f + 1) _ = _
    rw [m_X6_lowest_L2, hb s hs _ (by omega), hm.2.1, if_neg (by decide)]
