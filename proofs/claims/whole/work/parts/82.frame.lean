/-! frames; boards as cells; chains of moves -/
def Fr (h h' : Hp) (S : Nat → Prop) (n m : Nat) : Prop := h.2.1 ≤ h'.2.1 ∧ h'.2.1 ≤ h.2.1 + n ∧ h'.2.2 ≤ h.2.2 + m ∧ ∀ a, a < h.2.1 → ¬ S a → h'.1 a = h.1 a
section FR
variable {h h' h2 : Hp} {S T : Nat → Prop} {n m n' m' : Nat}
theorem Fr_refl : Fr h h S 0 0 := ⟨Nat.le_refl _, Nat.le_refl _, Nat.le_refl _, fun _ _ _ => rfl⟩
theorem Fr_trans (f : Fr h h' S n m) (f' : Fr h' h2 S n' m') : Fr h h2 S (n + n') (m + m') := by
  obtain ⟨a1, a2, a3, a4⟩ := f
  obtain ⟨b1, b2, b3, b4⟩ := f'
  exact ⟨by omega, by omega, by omega, fun a ha hs => (b4 a (by omega) hs).trans (a4 a ha hs)⟩
theorem Fr_mono (f : Fr h h' S n m) (hs : ∀ a, S a → T a) (hn : n ≤ n') (hm : m ≤ m') : Fr h h' T n' m' := by
  obtain ⟨a1, a2, a3, a4⟩ := f
  exact ⟨a1, by omega, by omega, fun a ha ht => a4 a ha fun e => ht (hs a e)⟩
theorem Fr_set {a : Nat} {c : Ac} (hs : S a) : Fr h (hset h a c) S 0 0 := ⟨Nat.le_refl _, Nat.le_refl _, Nat.le_refl _, fun x _ hx => if_neg (fun e : x = a => hx (by rw [e]; exact hs))⟩
theorem Fr_push {c : Ac} {k : Nat} : Fr h (hpush h c k) S 1 k := ⟨Nat.le_succ _, Nat.le_refl _, Nat.le_refl _, fun x hx _ => if_neg (Nat.ne_of_lt hx)⟩
theorem Fr_at {a : Nat} {c : Ac} (f : Fr h h' S n m) (A : At h a c) (hs : ¬ S a) : At h' a c := ⟨Nat.lt_of_lt_of_le A.1 f.1, (f.2.2.2 a A.1 hs).trans A.2⟩
theorem Fr_ar {a k : Nat} {g : Nat → Nat} (f : Fr h h' S n m) (A : ArN h a k g) (hs : ¬ S a) : ArN h' a k g := by
  obtain ⟨q, A, hq⟩ := A
  exact ⟨q, Fr_at f A hs, hq⟩
theorem Fr_bd {o num : Nat} {al b : Nat → Nat} {lat : Option Nat} (f : Fr h h' S n m) (B : BdH h o num al b lat) (hs : ∀ i, i < 5 → ¬ S (o + i)) : BdH h' o num al b lat := ⟨Fr_at f B.1 (hs 0 (by omega)), Fr_ar f B.2.1 (hs 1 (by omega)), Fr_ar f B.2.2.1 (hs 2 (by omega)), Fr_ar f B.2.2.2.1 (hs 3 (by omega)), Fr_ar f B.2.2.2.2 (hs 4 (by omega))⟩
end FR
theorem hset_hset {h : Hp} {a : Nat} {c c' : Ac} : hset (hset h a c) a c' = hset h a c' := Prod.ext (funext fun x => by
  show (if x = a then c' else if x = a then c else h.1 x) = (if x = a then c' else h.1 x)
  by_cases e : x = a
  · rw [if_pos e, if_pos e]
  · rw [if_neg e, if_neg e, if_neg e]) rfl
theorem hset_self {h : Hp} {a : Nat} {c : Ac} (A : At h a c) : hset h a c = h := Prod.ext (funext fun x => by
  show (if x = a then c else h.1 x) = h.1 x
  by_cases e : x = a
  · rw [if_pos e, e, A.2]
  · rw [if_neg e]) rfl
/-- a board's object -/
def bo (o : Nat) (n c v p f m : Int32) (q : Option Nat) : Ac := .inr (0, [.int n, .int c, .int v, .int p, .int f, .int m, va_rf q, .ref (o + 1), .ref (o + 2), .ref (o + 3), .ref (o + 4)])
/-- a board of any content at o -/
def BdS (h : Hp) (o : Nat) : Prop := (∃ n c v p f m q, At h o (bo o n c v p f m q)) ∧ (∃ x, At h (o + 1) (.inl (0, 9, .inl x))) ∧ (∃ x, At h (o + 2) (.inl (0, 3, .inl x))) ∧ (∃ x, At h (o + 3) (.inl (0, 3, .inl x))) ∧ ∃ x, At h (o + 4) (.inl (0, 3, .inl x))
theorem BdH_S {h : Hp} {o num : Nat} {al b : Nat → Nat} {lat : Option Nat} (B : BdH h o num al b lat) : BdS h o := by
  obtain ⟨b0, ⟨x1, b1, _⟩, ⟨x2, b2, _⟩, ⟨x3, b3, _⟩, ⟨x4, b4, _⟩⟩ := B
  exact ⟨⟨_, _, _, _, _, _, _, b0⟩, ⟨x1, b1⟩, ⟨x2, b2⟩, ⟨x3, b3⟩, ⟨x4, b4⟩⟩
section BO
variable {h : Hp} {o : Nat} {n c v p f m x : Int32} {q : Option Nat}
theorem bp_0 (A : At h o (bo o n c v p f m q)) : pV h 0 o 0 (.int x) = some (hset h o (bo o x c v p f m q)) := at_pV A (Nat.le_of_ble_eq_true rfl)
theorem bp_1 (A : At h o (bo o n c v p f m q)) : pV h 0 o 1 (.int x) = some (hset h o (bo o n x v p f m q)) := at_pV A (Nat.le_of_ble_eq_true rfl)
theorem bp_2 (A : At h o (bo o n c v p f m q)) : pV h 0 o 2 (.int x) = some (hset h o (bo o n c x p f m q)) := at_pV A (Nat.le_of_ble_eq_true rfl)
theorem bp_3 (A : At h o (bo o n c v p f m q)) : pV h 0 o 3 (.int x) = some (hset h o (bo o n c v x f m q)) := at_pV A (Nat.le_of_ble_eq_true rfl)
theorem bp_4 (A : At h o (bo o n c v p f m q)) : pV h 0 o 4 (.int x) = some (hset h o (bo o n c v p x m q)) := at_pV A (Nat.le_of_ble_eq_true rfl)
theorem bp_5 (A : At h o (bo o n c v p f m q)) : pV h 0 o 5 (.int x) = some (hset h o (bo o n c v p f x q)) := at_pV A (Nat.le_of_ble_eq_true rfl)
theorem bp_6 {q' : Option Nat} (A : At h o (bo o n c v p f m q)) : pV h 0 o 6 (va_rf q') = some (hset h o (bo o n c v p f m q')) := at_pV A (Nat.le_of_ble_eq_true rfl)
theorem bg_0 (A : At h o (bo o n c v p f m q)) : gI h 0 o 0 = some n := at_gI A rfl
theorem bg_1 (A : At h o (bo o n c v p f m q)) : gI h 0 o 1 = some c := at_gI A rfl
theorem bg_2 (A : At h o (bo o n c v p f m q)) : gI h 0 o 2 = some v := at_gI A rfl
theorem bg_3 (A : At h o (bo o n c v p f m q)) : gI h 0 o 3 = some p := at_gI A rfl
theorem bg_4 (A : At h o (bo o n c v p f m q)) : gI h 0 o 4 = some f := at_gI A rfl
theorem bg_5 (A : At h o (bo o n c v p f m q)) : gI h 0 o 5 = some m := at_gI A rfl
theorem bg_6 (A : At h o (bo o n c v p f m q)) : gN h 0 o 6 = some q := at_gN A rfl
theorem bg_7 (A : At h o (bo o n c v p f m q)) : gR h 0 o 7 = some (o + 1) := at_gR A rfl
theorem bg_8 (A : At h o (bo o n c v p f m q)) : gR h 0 o 8 = some (o + 2) := at_gR A rfl
theorem bg_9 (A : At h o (bo o n c v p f m q)) : gR h 0 o 9 = some (o + 3) := at_gR A rfl
theorem bg_10 (A : At h o (bo o n c v p f m q)) : gR h 0 o 10 = some (o + 4) := at_gR A rfl
end BO
/-! rows copied and cleared -/
theorem x_copyRow {h : Hp} {a b n : Nat} {f f' : Nat → Int32} (A : At h a (.inl (0, n, .inl f))) (B : At h b (.inl (0, n, .inl f'))) (hab : a ≠ b) (hn : n < 1000) : ∃ q, (∀ k, k < n → q k = f k) ∧ m_X5_copyRow a b h = some (hset h b (.inl (0, n, .inl q))) := by
  refine ⟨fun k => if k < n then f k else f' k, fun k hk => if_pos hk, ?_⟩
  unfold m_X5_copyRow
  have key := forQ (σ := Unit) (fun g i _ => m_X5_copyRow_L2 a b (fun h4 => some h4) g (nI i) (hset h b (.inl (0, n, .inl (fun k => if k < i then f k else f' k))))) n (fun _ _ => True) (fun r => r = some (hset h b (.inl (0, n, .inl (fun k => if k < n then f k else f' k))))) (fun g i s hi _ e => ?_) (fun g s _ => ?_) LF 0 () (Nat.zero_le _) (by unfold LF; omega) trivial
  · have key' : m_X5_copyRow_L2 a b (fun h4 => some h4) LF (nI 0) (hset h b (.inl (0, n, .inl (fun k => if k < 0 then f k else f' k)))) = _ := key
    have e0 : (fun k => if k < 0 then f k else f' k) = f' := funext fun k => if_neg (Nat.not_lt_zero k)
    rw [e0, hset_self B] at key'
    exact key'
  · have e' : m_X5_copyRow_L2 a b (fun h4 => some h4) g (nI (i + 1)) (hset h b (.inl (0, n, .inl (fun k => if k < i + 1 then f k else f' k)))) = _ := e () trivial
    show m_X5_copyRow_L2 a b (fun h4 => some h4) (g + 1) (nI i) (hset h b (.inl (0, n, .inl (fun k => if k < i then f k else f' k)))) = _
    have A' := at_set_ne (c' := (.inl (0, n, .inl (fun k => if k < i then f k else f' k)) : Ac)) A hab
    have B' := at_set_eq (c' := (.inl (0, n, .inl (fun k => if k < i then f k else f' k)) : Ac)) B
    rw [m_X5_copyRow_L2, at_aN B', Option.bind_some, iNle hi (by omega), at_aN A', Option.bind_some, iNle hi (by omega), at_aI A' hi (by omega), Option.bind_some, at_sI B' hi (by omega), Option.bind_some, hset_hset, nar_0]
    simp only [e_nm]
    rw [nI_1]
    have eq : upd (fun k => if k < i then f k else f' k) i (f i) = fun k => if k < i + 1 then f k else f' k := funext fun k => by
      show (if k = i then f i else if k < i then f k else f' k) = if k < i + 1 then f k else f' k
      by_cases h1 : k = i
      · rw [if_pos h1, if_pos (by omega), h1]
      · rw [if_neg h1]
        by_cases h2 : k < i
        · rw [if_pos h2, if_pos (by omega)]
        · rw [if_neg h2, if_neg (by omega)]
    rw [eq]
    exact e'
  · show m_X5_copyRow_L2 a b (fun h4 => some h4) (g + 1) (nI n) (hset h b (.inl (0, n, .inl (fun k => if k < n then f k else f' k)))) = _
    rw [m_X5_copyRow_L2, at_aN (at_set_eq B), Option.bind_some, iLe (Nat.le_refl _) (by omega)]
theorem x_clearRow {h : Hp} {b n : Nat} {f' : Nat → Int32} (B : At h b (.inl (0, n, .inl f'))) (hn : n < 1000) : ∃ q, (∀ k, k < n → q k = nI 0) ∧ m_X5_clearRow b h = some (hset h b (.inl (0, n, .inl q))) := by
  refine ⟨fun k => if k < n then (0 : Int32) else f' k, fun k hk => if_pos hk, ?_⟩
  unfold m_X5_clearRow
  have key := forQ (σ := Unit) (fun g i _ => m_X5_clearRow_L2 b (fun h3 => some h3) g (nI i) (hset h b (.inl (0, n, .inl (fun k => if k < i then (0 : Int32) else f' k))))) n (fun _ _ => True) (fun r => r = some (hset h b (.inl (0, n, .inl (fun k => if k < n then (0 : Int32) else f' k))))) (fun g i s hi _ e => ?_) (fun g s _ => ?_) LF 0 () (Nat.zero_le _) (by unfold LF; omega) trivial
  · have key' : m_X5_clearRow_L2 b (fun h3 => some h3) LF (nI 0) (hset h b (.inl (0, n, .inl (fun k => if k < 0 then (0 : Int32) else f' k)))) = _ := key
    have e0 : (fun k => if k < 0 then (0 : Int32) else f' k) = f' := funext fun k => if_neg (Nat.not_lt_zero k)
    rw [e0, hset_self B] at key'
    exact key'
  · have e' : m_X5_clearRow_L2 b (fun h3 => some h3) g (nI (i + 1)) (hset h b (.inl (0, n, .inl (fun k => if k < i + 1 then (0 : Int32) else f' k)))) = _ := e () trivial
    show m_X5_clearRow_L2 b (fun h3 => some h3) (g + 1) (nI i) (hset h b (.inl (0, n, .inl (fun k => if k < i then (0 : Int32) else f' k)))) = _
    have B' := at_set_eq (c' := (.inl (0, n, .inl (fun k => if k < i then (0 : Int32) else f' k)) : Ac)) B
    rw [m_X5_clearRow_L2, at_aN B', Option.bind_some, iNle hi (by omega), at_sI B' hi (by omega), Option.bind_some, hset_hset, nar_0]
    simp only [e_nm]
    rw [nI_1]
    have eq : upd (fun k => if k < i then (0 : Int32) else f' k) i 0 = fun k => if k < i + 1 then (0 : Int32) else f' k := funext fun k => by
      show (if k = i then (0 : Int32) else if k < i then (0 : Int32) else f' k) = if k < i + 1 then (0 : Int32) else f' k
      by_cases h1 : k = i
      · rw [if_pos h1, if_pos (by omega)]
      · rw [if_neg h1]
        by_cases h2 : k < i
        · rw [if_pos h2, if_pos (by omega)]
        · rw [if_neg h2, if_neg (by omega)]
    rw [eq]
    exact e'
  · show m_X5_clearRow_L2 b (fun h3 => some h3) (g + 1) (nI n) (hset h b (.inl (0, n, .inl (fun k => if k < n then (0 : Int32) else f' k)))) = _
    rw [m_X5_clearRow_L2, at_aN (at_set_eq B), Option.bind_some, iLe (Nat.le_refl _) (by omega)]
/-- the cells of the board at o -/
def InB (o a : Nat) : Prop := o ≤ a ∧ a ≤ o + 4
theorem x_takeFrom {h : Hp} {o p num : Nat} {al b : Nat → Nat} {lat : Option Nat} (B : BdH h p num al b lat) (S : BdS h o) (hop : o + 4 < p ∨ p + 4 < o) : ∃ h', m_X0_takeFrom o p h = some h' ∧ BdH h' o num al b lat ∧ BdH h' p num al b lat ∧ Fr h h' (InB o) 0 0 := by
  obtain ⟨⟨n0, c0, v0, p0, f0, m0, q0, s0⟩, ⟨x1, s1⟩, ⟨x2, s2⟩, ⟨x3, s3⟩, ⟨x4, s4⟩⟩ := S
  obtain ⟨b0, ⟨y1, b1, e1⟩, ⟨y2, b2, e2⟩, ⟨y3, b3, e3⟩, ⟨y4, b4, e4⟩⟩ := id B
  have b0' : At h p (bo p (nI num) (nI (al 1)) (nI (al 0)) (nI (al 2)) (nI (fre al)) (nI (al 3)) lat) := b0
  have ne : ∀ i j, i < 5 → j < 5 → p + i ≠ o + j := fun i j _ _ => by omega
  have ne0 : ∀ j, j < 5 → p ≠ o + j := fun j _ => by omega
  have h0 : p ≠ o := by omega
  unfold m_X0_takeFrom
  rw [bg_0 b0', Option.bind_some, bp_0 s0, Option.bind_some]
  rw [bg_1 (at_set_ne b0' h0), Option.bind_some, bp_1 (at_set_eq s0), Option.bind_some, hset_hset]
  rw [bg_2 (at_set_ne b0' h0), Option.bind_some, bp_2 (at_set_eq s0), Option.bind_some, hset_hset]
  rw [bg_3 (at_set_ne b0' h0), Option.bind_some, bp_3 (at_set_eq s0), Option.bind_some, hset_hset]
  rw [bg_4 (at_set_ne b0' h0), Option.bind_some, bp_4 (at_set_eq s0), Option.bind_some, hset_hset]
  rw [bg_5 (at_set_ne b0' h0), Option.bind_some, bp_5 (at_set_eq s0), Option.bind_some, hset_hset]
  rw [bg_6 (at_set_ne b0' h0), Option.bind_some, bp_6 (at_set_eq s0), Option.bind_some, hset_hset]
  generalize hH : hset h o (bo o (nI num) (nI (al 1)) (nI (al 0)) (nI (al 2)) (nI (fre al)) (nI (al 3)) lat) = H0
  have F0 : Fr h H0 (InB o) 0 0 := by rw [← hH]; exact Fr_set ⟨Nat.le_refl _, by omega⟩
  have i0 : At H0 o (bo o (nI num) (nI (al 1)) (nI (al 0)) (nI (al 2)) (nI (fre al)) (nI (al 3)) lat) := by rw [← hH]; exact at_set_eq s0
  have t1 : At H0 (o + 1) (.inl (0, 9, .inl x1)) := by rw [← hH]; exact at_set_ne s1 (by omega)
  have t2 : At H0 (o + 2) (.inl (0, 3, .inl x2)) := by rw [← hH]; exact at_set_ne s2 (by omega)
  have t3 : At H0 (o + 3) (.inl (0, 3, .inl x3)) := by rw [← hH]; exact at_set_ne s3 (by omega)
  have t4 : At H0 (o + 4) (.inl (0, 3, .inl x4)) := by rw [← hH]; exact at_set_ne s4 (by omega)
  have nI_ : ∀ i, i < 5 → ¬ InB o (p + i) := fun i hi e => by unfold InB at e; omega
  have B0 := Fr_bd F0 B nI_
  obtain ⟨q1, w1, r1⟩ := x_copyRow (Fr_at F0 b1 (nI_ 1 (by omega))) t1 (ne 1 1 (by omega) (by omega)) (by decide)
  have b00 : At H0 p (bo p (nI num) (nI (al 1)) (nI (al 0)) (nI (al 2)) (nI (fre al)) (nI (al 3)) lat) := B0.1
  rw [bg_7 b00, Option.bind_some, bg_7 i0, Option.bind_some, r1, Option.bind_some]
  generalize hH1 : hset H0 (o + 1) (.inl (0, 9, .inl q1)) = H1
  have F1 : Fr h H1 (InB o) 0 0 := by rw [← hH1]; exact Fr_trans F0 (Fr_set ⟨by omega, by omega⟩)
  have i1 : At H1 o (bo o (nI num) (nI (al 1)) (nI (al 0)) (nI (al 2)) (nI (fre al)) (nI (al 3)) lat) := by rw [← hH1]; exact at_set_ne i0 (by omega)
  have u1 : At H1 (o + 1) (.inl (0, 9, .inl q1)) := by rw [← hH1]; exact at_set_eq t1
  have t2 : At H1 (o + 2) (.inl (0, 3, .inl x2)) := by rw [← hH1]; exact at_set_ne t2 (by omega)
  have t3 : At H1 (o + 3) (.inl (0, 3, .inl x3)) := by rw [← hH1]; exact at_set_ne t3 (by omega)
  have t4 : At H1 (o + 4) (.inl (0, 3, .inl x4)) := by rw [← hH1]; exact at_set_ne t4 (by omega)
  have B1 := Fr_bd F1 B nI_
  obtain ⟨q2, w2, r2⟩ := x_copyRow (Fr_at F1 b2 (nI_ 2 (by omega))) t2 (ne 2 2 (by omega) (by omega)) (by decide)
  have b01 : At H1 p (bo p (nI num) (nI (al 1)) (nI (al 0)) (nI (al 2)) (nI (fre al)) (nI (al 3)) lat) := B1.1
  rw [bg_8 b01, Option.bind_some, bg_8 i1, Option.bind_some, r2, Option.bind_some]
  generalize hH2 : hset H1 (o + 2) (.inl (0, 3, .inl q2)) = H2
  have F2 : Fr h H2 (InB o) 0 0 := by rw [← hH2]; exact Fr_trans F1 (Fr_set ⟨by omega, by omega⟩)
  have i2 : At H2 o (bo o (nI num) (nI (al 1)) (nI (al 0)) (nI (al 2)) (nI (fre al)) (nI (al 3)) lat) := by rw [← hH2]; exact at_set_ne i1 (by omega)
  have u1 : At H2 (o + 1) (.inl (0, 9, .inl q1)) := by rw [← hH2]; exact at_set_ne u1 (by omega)
  have u2 : At H2 (o + 2) (.inl (0, 3, .inl q2)) := by rw [← hH2]; exact at_set_eq t2
  have t3 : At H2 (o + 3) (.inl (0, 3, .inl x3)) := by rw [← hH2]; exact at_set_ne t3 (by omega)
  have t4 : At H2 (o + 4) (.inl (0, 3, .inl x4)) := by rw [← hH2]; exact at_set_ne t4 (by omega)
  have B2 := Fr_bd F2 B nI_
  obtain ⟨q3, w3, r3⟩ := x_copyRow (Fr_at F2 b3 (nI_ 3 (by omega))) t3 (ne 3 3 (by omega) (by omega)) (by decide)
  have b02 : At H2 p (bo p (nI num) (nI (al 1)) (nI (al 0)) (nI (al 2)) (nI (fre al)) (nI (al 3)) lat) := B2.1
  rw [bg_9 b02, Option.bind_some, bg_9 i2, Option.bind_some, r3, Option.bind_some]
  generalize hH3 : hset H2 (o + 3) (.inl (0, 3, .inl q3)) = H3
  have F3 : Fr h H3 (InB o) 0 0 := by rw [← hH3]; exact Fr_trans F2 (Fr_set ⟨by omega, by omega⟩)
  have i3 : At H3 o (bo o (nI num) (nI (al 1)) (nI (al 0)) (nI (al 2)) (nI (fre al)) (nI (al 3)) lat) := by rw [← hH3]; exact at_set_ne i2 (by omega)
  have u1 : At H3 (o + 1) (.inl (0, 9, .inl q1)) := by rw [← hH3]; exact at_set_ne u1 (by omega)
  have u2 : At H3 (o + 2) (.inl (0, 3, .inl q2)) := by rw [← hH3]; exact at_set_ne u2 (by omega)
  have u3 : At H3 (o + 3) (.inl (0, 3, .inl q3)) := by rw [← hH3]; exact at_set_eq t3
  have t4 : At H3 (o + 4) (.inl (0, 3, .inl x4)) := by rw [← hH3]; exact at_set_ne t4 (by omega)
  have B3 := Fr_bd F3 B nI_
  obtain ⟨q4, w4, r4⟩ := x_copyRow (Fr_at F3 b4 (nI_ 4 (by omega))) t4 (ne 4 4 (by omega) (by omega)) (by decide)
  have b03 : At H3 p (bo p (nI num) (nI (al 1)) (nI (al 0)) (nI (al 2)) (nI (fre al)) (nI (al 3)) lat) := B3.1
  rw [bg_10 b03, Option.bind_some, bg_10 i3, Option.bind_some, r4, Option.bind_some]
  have F4 : Fr h (hset H3 (o + 4) (.inl (0, 3, .inl q4))) (InB o) 0 0 := Fr_trans F3 (Fr_set ⟨by omega, by omega⟩)
  refine ⟨_, rfl, ⟨at_set_ne i3 (by omega), ⟨q1, at_set_ne u1 (by omega), fun k hk => (w1 k hk).trans (e1 k hk)⟩, ⟨q2, at_set_ne u2 (by omega), fun k hk => (w2 k hk).trans (e2 k hk)⟩, ⟨q3, at_set_ne u3 (by omega), fun k hk => (w3 k hk).trans (e3 k hk)⟩, ⟨q4, at_set_eq t4, fun k hk => (w4 k hk).trans (e4 k hk)⟩⟩, Fr_bd F4 B nI_, F4⟩
/-- a move packed by the reference -/
def mvP (t vx cl pt pc : Nat) : Nat := t + 2 * vx + 32 * cl + 128 * pt + 2048 * pc
/-- the chain of the moves made, the latest first -/
def Chn (h : Hp) (al : Nat → Nat) : Nat → Option Nat → Prop
  | 0, q => q = none
  | n + 1, q => ∃ a bf vx cl pt pc, q = some a ∧ 32 ≤ a ∧ At h a (.inr (2, [va_rf bf, .int (nI vx - 1), .int (nI cl - 1), .int (nI pt), .int (if vx = 0 then (-1 : Int32) else nI pc)])) ∧ al (40 + n) = mvP (n % 2) vx cl pt pc ∧ vx ≤ 9 ∧ cl ≤ 3 ∧ pt ≤ 9 ∧ pc ≤ 9 ∧ (vx = 0 ↔ cl = 0) ∧ Chn h al n bf
theorem Chn_fr {h h' : Hp} {S : Nat → Prop} {n' m' : Nat} {al : Nat → Nat} (f : Fr h h' S n' m') (hs : ∀ a fs, 32 ≤ a → At h a (.inr (2, fs)) → ¬ S a) : ∀ n q, Chn h al n q → Chn h' al n q
  | 0, _, c => c
  | n + 1, q, c => by
    obtain ⟨a, bf, vx, cl, pt, pc, e1, e2, e3, e4, e5, e6, e7, e8, e9, e10⟩ := c
    exact ⟨a, bf, vx, cl, pt, pc, e1, e2, Fr_at f e3 (hs a _ e2 e3), e4, e5, e6, e7, e8, e9, Chn_fr f hs n bf e10⟩
theorem Chn_al {h : Hp} {al al' : Nat → Nat} : ∀ n q, (∀ k, k < n → al' (40 + k) = al (40 + k)) → Chn h al n q → Chn h al' n q
  | 0, _, _, c => c
  | n + 1, q, hk, c => by
    obtain ⟨a, bf, vx, cl, pt, pc, e1, e2, e3, e4, e5⟩ := c
    exact ⟨a, bf, vx, cl, pt, pc, e1, e2, e3, (hk n (by omega)).trans e4, e5.1, e5.2.1, e5.2.2.1, e5.2.2.2.1, e5.2.2.2.2.1, Chn_al n bf (fun k h => hk k (by omega)) e5.2.2.2.2.2⟩
