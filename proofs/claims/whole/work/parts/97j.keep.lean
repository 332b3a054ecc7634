/-! the history keeps the board -/
section KEE
variable {k L num : Nat} {H : Hp} {v v' : Nat → Int32} {A A' : Nat → Nat → Int32} {Gn : Nat → Nat → Nat} {al bn : Nat → Nat} {lat : Option Nat}
theorem BdS_2 {a x : Nat} {fs : List Value} (B : BdS H a) (hx : InB a x) (h : At H x (.inr (2, fs))) : False := by
  obtain ⟨⟨_, _, _, _, _, _, _, t0⟩, ⟨_, t1⟩, ⟨_, t2⟩, ⟨_, t3⟩, ⟨_, t4⟩⟩ := B
  have h2 := h.2
  have hd : x = a ∨ x = a + 1 ∨ x = a + 2 ∨ x = a + 3 ∨ x = a + 4 := by unfold InB at hx; omega
  rcases hd with e | e | e | e | e
  · rw [e, t0.2] at h2; cases h2
  · rw [e, t1.2] at h2; cases h2
  · rw [e, t2.2] at h2; cases h2
  · rw [e, t3.2] at h2; cases h2
  · rw [e, t4.2] at h2; cases h2
theorem BdS_lt {a : Nat} (B : BdS H a) : a + 4 < H.2.1 := by
  obtain ⟨_, _, _, _, ⟨_, t4⟩⟩ := B
  exact t4.1
theorem up_eq {f : Nat → Option Nat} {i : Nat} {x : Option Nat} : va_up f i x i = x := if_pos rfl
theorem up_ne {f : Nat → Option Nat} {i j : Nat} {x : Option Nat} (h : j ≠ i) : va_up f i x j = f j := if_neg h
theorem X_keep (hH : Hst k L Gn H v A) (z : 32 ≤ H.2.1) (B : BdH H 2 num al bn lat) (hk : Bk al bn) (C : Chn H al (al 3) lat) (W : WfB al) (hn : num ≤ L) (hG : Gn num = nrf al) (pt : Pot k al) (ha : AlF A al) :
    ∃ (H1 : Hp) (S : Nat → Prop) (hd : Nat), m_X1_keep 16 2 H = some H1 ∧ Fr H H1 S 5 29 ∧ (∀ x, S x → x = 16 ∨ x = 17 ∨ 32 ≤ x) ∧ (∀ x fs, 32 ≤ x → At H x (.inr (2, fs)) → ¬ S x) ∧ hd ≤ 8 ∧ v 6 = nI hd ∧
      ∀ (v' : Nat → Int32) (A' : Nat → Nat → Int32), v' 6 = nI (min (hd + 1) 8) → A' 4 = A 4 → A' 5 = A 5 → (∀ i t, i < min (hd + 1) 8 → t < 4136 → A' 3 (4136 * i + t) = if i + 1 = min (hd + 1) 8 then A 0 t else A 3 (4136 * (i + (if hd = 8 then 1 else 0)) + t)) → Hst k L Gn H1 v' A' := by
  obtain ⟨hd, nx, kb, sb, t16, t17, t18, hd8, nx8, h6, ⟨b7, b8⟩, b9, b10⟩ := hH
  have hold : ∀ a, kb nx = some a → BdS H a ∧ 32 ≤ a := fun a e => by
    have := b7 nx a (by omega) (by unfold bdx; rw [if_pos nx8]; exact e)
    exact ⟨this.2, this.1⟩
  obtain ⟨H1, a, e1, u16, u17, B1, hcase, F⟩ := x_keep t16 t17 nx8 hd8 B (by decide) hold
  have ha32 : 32 ≤ a := by
    rcases hcase with e | e
    · exact (hold a e).2
    · rw [e.2]; exact z
  have hS1 : ∀ x, (x = 16 ∨ x = 17 ∨ (kb nx = some a ∧ InB a x)) → x = 16 ∨ x = 17 ∨ 32 ≤ x := fun x e => by
    rcases e with e | e | ⟨-, e⟩
    · exact .inl e
    · exact .inr (.inl e)
    · unfold InB at e
      exact .inr (.inr (by omega))
  have hS2 : ∀ x fs, 32 ≤ x → At H x (.inr (2, fs)) → ¬ (x = 16 ∨ x = 17 ∨ (kb nx = some a ∧ InB a x)) := fun x fs hx h e => by
    rcases e with e | e | ⟨e0, e⟩
    · omega
    · omega
    · exact BdS_2 (hold a e0).1 e h
  have dis : ∀ j a', j < 10 → j ≠ nx → bdx kb sb j = some a' → ∀ i, i < 5 → ¬ (a' + i = 16 ∨ a' + i = 17 ∨ (kb nx = some a ∧ InB a (a' + i))) := fun j a' hj hne e i hi h => by
    have h32 := (b7 j a' hj e).1
    rcases h with h | h | ⟨h0, h⟩
    · omega
    · omega
    · have := b8 j nx a' a hj (by omega) hne e (by unfold bdx; rw [if_pos nx8]; exact h0)
      unfold InB at h
      omega
  have apart : ∀ j a', j < 10 → j ≠ nx → bdx kb sb j = some a' → a' + 4 < a ∨ a + 4 < a' := fun j a' hj hne e => by
    rcases hcase with e0 | ⟨-, e0⟩
    · exact b8 j nx a' a hj (by omega) hne e (by unfold bdx; rw [if_pos nx8]; exact e0)
    · have := BdS_lt (b7 j a' hj e).2
      exact .inl (by omega)
  have bn' : ∀ j, j ≠ nx → bdx (va_up kb nx (some a)) sb j = bdx kb sb j := fun j hj => by
    unfold bdx
    by_cases h8 : j < 8
    · rw [if_pos h8, if_pos h8, up_ne hj]
    · rw [if_neg h8, if_neg h8]
  have bn0 : bdx (va_up kb nx (some a)) sb nx = some a := by
    unfold bdx
    rw [if_pos nx8, up_eq]
  refine ⟨H1, _, hd, e1, F, hS1, hS2, hd8, h6, fun v' A' hv h4 h5 h3 => ⟨min (hd + 1) 8, (if nx + 1 < 8 then nx + 1 else 0), va_up kb nx (some a), sb, u16, u17, Fr_at F t18 (fun e => by have := hS1 18 e; omega), by omega, by split <;> omega, hv, ⟨fun j a' hj e => ?_, fun i j a1 a2 hi hj hij e1 e2 => ?_⟩, fun i hi => ?_, fun i hi => ?_⟩⟩
  · by_cases hjn : j = nx
    · subst hjn
      rw [bn0] at e
      obtain rfl := Option.some.inj e
      exact ⟨ha32, BdH_S B1⟩
    · rw [bn' j hjn] at e
      have := b7 j a' hj e
      exact ⟨this.1, BdS_fr F this.2 (dis j a' hj hjn e)⟩
  · by_cases hin : i = nx
    · subst hin
      rw [bn0] at e1
      obtain rfl := Option.some.inj e1
      rw [bn' j (fun e => hij e.symm)] at e2
      exact (apart j a2 hj (fun e => hij e.symm) e2).symm
    · rw [bn' i hin] at e1
      by_cases hjn : j = nx
      · subst hjn
        rw [bn0] at e2
        obtain rfl := Option.some.inj e2
        exact apart i a1 hi hin e1
      · rw [bn' j hjn] at e2
        exact b8 i j a1 a2 hi hj hij e1 e2
  · have hpos : (if nx + 1 < 8 then nx + 1 else 0) = (nx + 1) % 8 := by split <;> omega
    rw [hpos]
    by_cases hl : i + 1 = min (hd + 1) 8
    · refine ⟨a, ?_, num, al, bn, lat, B1, hk, Chn_fr F hS2 _ _ C, W, hn, hG, pt, fun t ht => ?_⟩
      · rw [show ((nx + 1) % 8 + 8 - min (hd + 1) 8 + i) % 8 = nx by omega, up_eq]
      · show A' 3 (4136 * i + t) = nI (al t)
        rw [h3 i t hi ht, if_pos hl]
        exact ha t ht
    · generalize hi0 : i + (if hd = 8 then 1 else 0) = i0
      have hi0' : i0 < hd := by
        rw [← hi0]
        split <;> omega
      have hp : ((nx + 1) % 8 + 8 - min (hd + 1) 8 + i) % 8 = (nx + 8 - hd + i0) % 8 := by
        rw [← hi0]
        split <;> omega
      have hne : (nx + 8 - hd + i0) % 8 ≠ nx := by
        rw [← hi0]
        split <;> omega
      obtain ⟨a', c1, c2⟩ := b9 i0 hi0'
      have ej : bdx kb sb ((nx + 8 - hd + i0) % 8) = some a' := by
        unfold bdx
        rw [if_pos (by omega)]
        exact c1
      refine ⟨a', ?_, Snp_fr F c2 (dis _ a' (by omega) hne ej) hS2 (fun t ht => ?_) (Nat.le_refl _)⟩
      · rw [hp, up_ne hne]
        exact c1
      · show A' 3 (4136 * i + t) = A 3 (4136 * i0 + t)
        rw [h3 i t hi ht, if_neg hl, hi0]
  · rcases b10 i hi with ⟨c1, c2⟩ | ⟨a', c1, c2, c3⟩
    · exact .inl ⟨c1, by rw [h5]; exact c2⟩
    · have ej : bdx kb sb (8 + i) = some a' := by
        unfold bdx
        rw [if_neg (by omega), show 8 + i - 8 = i by omega]
        exact c1
      exact .inr ⟨a', c1, by rw [h5]; exact c2, Snp_fr F c3 (dis (8 + i) a' (by omega) (by omega) ej) hS2 (fun t _ => by rw [h4]) (Nat.le_refl _)⟩
end KEE
