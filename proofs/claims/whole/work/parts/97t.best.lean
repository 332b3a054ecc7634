/-! the best move is a move -/
def Mvs (al b : Nat → Nat) (x : Nat) : Prop := ∃ u c, x = 4 * u + c ∧ c < 3 ∧ u < al 0 ∧ (chs al b u).testBit c = true
theorem upS_mv {al b : Nat → Nat} {s : Option (Nat × Nat)} {x k : Nat} (h : ∀ q, s = some q → Mvs al b q.1) (hk : Mvs al b k) : ∀ q, upS s x k = some q → Mvs al b q.1 := by
  intro q hq
  cases s with
  | none =>
    cases hq
    exact hk
  | some p =>
    rw [upS_s] at hq
    by_cases e : p.2 < x
    · rw [if_pos e] at hq
      cases hq
      exact hk
    · rw [if_neg e] at hq
      cases hq
      exact h _ rfl
theorem sc1_mv {al b : Nat → Nat} {u : Nat} (hu : u < al 0) : ∀ n s, n ≤ 3 → (∀ q, s = some q → Mvs al b q.1) → ∀ q, sc1 al b u n s = some q → Mvs al b q.1
  | 0, _, _, h => h
  | n + 1, s, hn, h => by
    rw [sc1_s]
    by_cases hb : (chs al b u).testBit n = true
    · rw [if_pos hb]
      exact upS_mv (sc1_mv hu n s (by omega) h) ⟨u, n, rfl, by omega, hu, hb⟩
    · rw [if_neg hb]
      exact sc1_mv hu n s (by omega) h
theorem sc_mv {al b : Nat → Nat} : ∀ n, n ≤ al 0 → ∀ q, scN al b n = some q → Mvs al b q.1
  | 0, _ => fun q hq => by cases hq
  | n + 1, hn => by
    rw [sc_s]
    exact sc1_mv (by omega) 3 _ (Nat.le_refl _) (sc_mv n (by omega))
theorem bs_ok {al b : Nat → Nat} (R : Rg al) (hn : Nov al b) : (bsN al b = 100 ∧ al 2 ≠ 0) ∨ Mvs al b (bsN al b) := by
  unfold bsN
  have hfw := fw_ok (al := al) (b := b)
  cases hf : fw al b with
  | some u =>
    obtain ⟨hu, hw⟩ := hfw u hf
    have h8 := wof_lt (al := al) (b := b) (u := u)
    obtain ⟨h9, hb⟩ := lo_ok (s := wof al b u) (by omega) hw
    obtain ⟨hc, hb', -⟩ := wof_tb.mp hb
    exact .inr ⟨u, lo (wof al b u), rfl, hc, hu, hb'⟩
  | none =>
    show ((if pwn al = true then 100 else _) = 100 ∧ _) ∨ Mvs al b (if pwn al = true then 100 else _)
    by_cases hp : pwn al = true
    · rw [if_pos hp]
      refine .inl ⟨rfl, fun e => ?_⟩
      unfold pwn at hp
      rw [e] at hp
      simp at hp
    · rw [if_neg hp]
      cases hs : scN al b (al 0) with
      | none =>
        refine .inl ⟨rfl, fun e => hn ⟨e, sc_over R hs⟩⟩
      | some q =>
        show ((if 0 < al 2 ∧ q.2 < (brd al).2.1 + al 2 - 1 then 100 else q.1) = 100 ∧ _) ∨ Mvs al b (if 0 < al 2 ∧ q.2 < (brd al).2.1 + al 2 - 1 then 100 else q.1)
        by_cases hq : 0 < al 2 ∧ q.2 < (brd al).2.1 + al 2 - 1
        · rw [if_pos hq]
          exact .inl ⟨rfl, by omega⟩
        · rw [if_neg hq]
          exact .inr (sc_mv (al 0) (Nat.le_refl _) q hs)
