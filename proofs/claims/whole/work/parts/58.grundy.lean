/-! value, longest and shortest game of a part, as a function of its place -/
abbrev An : Type := Nat × Nat × Nat
def cmb (x y : An) : An := (x.1 ^^^ y.1, x.2.1 + y.2.1, x.2.2 + y.2.2)
def pcsF (nr : Nat → Nat) (set : Nat) (G : Nat → An) : Nat → Nat → An → An
  | 0, _, a => a
  | k + 1, j, a => if rst nr set j = 0 then a else pcsF nr set G k (j + 1) (cmb a (G (prt nr set j)))
/-- all parts of a set together -/
def pcs (nr : Nat → Nat) (set : Nat) (G : Nat → An) : An := pcsF nr set G 9 0 (0, 0, 0)
def itN {β : Type} : Nat → (Nat → β → β) → β → β
  | 0, _, a => a
  | n + 1, f, a => f n (itN n f a)
def stp3 (a x : An) : An := (a.1 ||| 2 ^ x.1, max a.2.1 (x.2.1 + 1), min a.2.2 (x.2.2 + 1))
/-- the least number that isn't in a set -/
def mex (s : Nat) : Nat := ((List.range 32).find? (fun i => !s.testBit i)).getD 0
def fin3 (a : An) : An := if a.1 = 0 then (0, 0, 0) else (mex a.1, a.2.1, a.2.2)
def lgl (p : Nat) (O : Nat → Nat) (b v c : Nat) : Bool := (O c).testBit v && !(c + 1 == b && !(pop p == 1))
def mvO (nr : Nat → Nat) (O : Nat → Nat) (v c w : Nat) : Nat := dif (dif (O w) (2 ^ v)) (if w = c then nr v else 0)
def gr (nr : Nat → Nat) : Nat → Nat → (Nat → Nat) → Nat → An
  | 0, _, _, _ => (0, 0, 0)
  | d + 1, p, O, b => fin3 (itN 3 (fun c a => itN 9 (fun v a => if lgl p O b v c then stp3 a (pcs nr (dif p (2 ^ v)) (fun q => gr nr d q (fun w => mvO nr O v c w &&& q) (c + 1))) else a) a) (0, 0, 10))
theorem itN_or {β : Type} {f : Nat → β → β} {P : β → Prop} {Q : Nat → Prop} : ∀ {n : Nat} {a : β}, (∀ i a, i < n → (P (f i a) ↔ P a ∨ Q i)) → (P (itN n f a) ↔ P a ∨ ∃ i, i < n ∧ Q i)
  | 0, a, _ => ⟨Or.inl, fun h => h.elim id fun ⟨i, hi, _⟩ => absurd hi (Nat.not_lt_zero i)⟩
  | n + 1, a, h => by
    rw [itN, h n _ (by omega), itN_or (fun i a hi => h i a (by omega))]
    constructor
    · rintro ((h1 | ⟨i, hi, h1⟩) | h1)
      · exact Or.inl h1
      · exact Or.inr ⟨i, by omega, h1⟩
      · exact Or.inr ⟨n, by omega, h1⟩
    · rintro (h1 | ⟨i, hi, h1⟩)
      · exact Or.inl (Or.inl h1)
      · by_cases e : i = n
        · subst e
          exact Or.inr h1
        · exact Or.inl (Or.inr ⟨i, by omega, h1⟩)
theorem itN_and {β : Type} {f : Nat → β → β} {P : β → Prop} {Q : Nat → Prop} : ∀ {n : Nat} {a : β}, (∀ i a, i < n → (P (f i a) ↔ P a ∧ Q i)) → (P (itN n f a) ↔ P a ∧ ∀ i, i < n → Q i)
  | 0, a, _ => ⟨fun h => ⟨h, fun i hi => absurd hi (Nat.not_lt_zero i)⟩, fun h => h.1⟩
  | n + 1, a, h => by
    rw [itN, h n _ (by omega), itN_and (fun i a hi => h i a (by omega))]
    constructor
    · rintro ⟨⟨h1, h2⟩, h3⟩
      refine ⟨h1, fun i hi => ?_⟩
      by_cases e : i = n
      · subst e
        exact h3
      · exact h2 i (by omega)
    · rintro ⟨h1, h2⟩
      exact ⟨⟨h1, fun i hi => h2 i (by omega)⟩, h2 n (by omega)⟩
theorem itN_congr {β : Type} {f g : Nat → β → β} : ∀ {n : Nat} {a : β}, (∀ i a, i < n → f i a = g i a) → itN n f a = itN n g a
  | 0, _, _ => rfl
  | n + 1, a, h => by rw [itN, itN, itN_congr (fun i a hi => h i a (by omega)), h n _ (by omega)]
/-- what a double loop over moves gathers: a row of moves (i, j), legal by L, with answers X -/
def gat (n m : Nat) (L : Nat → Nat → Bool) (X : Nat → Nat → An) (a : An) : An := itN n (fun i a => itN m (fun j a => if L i j then stp3 a (X i j) else a) a) a
theorem gat_1 {n m : Nat} {L : Nat → Nat → Bool} {X : Nat → Nat → An} {a : An} {k : Nat} : (gat n m L X a).1.testBit k = true ↔ a.1.testBit k = true ∨ ∃ i, i < n ∧ ∃ j, j < m ∧ (L i j = true ∧ (X i j).1 = k) := by
  refine itN_or (P := fun a : An => a.1.testBit k = true) (Q := fun i => ∃ j, j < m ∧ (L i j = true ∧ (X i j).1 = k)) fun i a hi => ?_
  refine itN_or (P := fun a : An => a.1.testBit k = true) (Q := fun j => L i j = true ∧ (X i j).1 = k) fun j a hj => ?_
  by_cases h : L i j = true
  · rw [if_pos h]
    show (a.1 ||| 2 ^ (X i j).1).testBit k = true ↔ _
    rw [Nat.testBit_or, tb_pow, Bool.or_eq_true, decide_eq_true_eq]
    exact or_congr Iff.rfl ⟨fun e => ⟨h, e⟩, fun e => e.2⟩
  · rw [if_neg h]
    exact ⟨Or.inl, fun e => e.elim id fun e => absurd e.1 h⟩
theorem gat_2 {n m : Nat} {L : Nat → Nat → Bool} {X : Nat → Nat → An} {a : An} {k : Nat} : (gat n m L X a).2.1 ≤ k ↔ a.2.1 ≤ k ∧ ∀ i, i < n → ∀ j, j < m → (L i j = true → (X i j).2.1 + 1 ≤ k) := by
  refine itN_and (P := fun a : An => a.2.1 ≤ k) (Q := fun i => ∀ j, j < m → (L i j = true → (X i j).2.1 + 1 ≤ k)) fun i a hi => ?_
  refine itN_and (P := fun a : An => a.2.1 ≤ k) (Q := fun j => L i j = true → (X i j).2.1 + 1 ≤ k) fun j a hj => ?_
  by_cases h : L i j = true
  · rw [if_pos h]
    show max a.2.1 ((X i j).2.1 + 1) ≤ k ↔ _
    rw [Nat.max_le]
    exact and_congr Iff.rfl ⟨fun e _ => e, fun e => e h⟩
  · rw [if_neg h]
    exact ⟨fun e => ⟨e, fun g => absurd g h⟩, fun e => e.1⟩
theorem gat_3 {n m : Nat} {L : Nat → Nat → Bool} {X : Nat → Nat → An} {a : An} {k : Nat} : k ≤ (gat n m L X a).2.2 ↔ k ≤ a.2.2 ∧ ∀ i, i < n → ∀ j, j < m → (L i j = true → k ≤ (X i j).2.2 + 1) := by
  refine itN_and (P := fun a : An => k ≤ a.2.2) (Q := fun i => ∀ j, j < m → (L i j = true → k ≤ (X i j).2.2 + 1)) fun i a hi => ?_
  refine itN_and (P := fun a : An => k ≤ a.2.2) (Q := fun j => L i j = true → k ≤ (X i j).2.2 + 1) fun j a hj => ?_
  by_cases h : L i j = true
  · rw [if_pos h]
    show k ≤ min a.2.2 ((X i j).2.2 + 1) ↔ _
    rw [Nat.le_min]
    exact and_congr Iff.rfl ⟨fun e _ => e, fun e => e h⟩
  · rw [if_neg h]
    exact ⟨fun e => ⟨e, fun g => absurd g h⟩, fun e => e.1⟩
/-- the order of the loops and moves that aren't legal don't matter -/
theorem gat_same {n m n' m' : Nat} {L L' : Nat → Nat → Bool} {X X' : Nat → Nat → An} {a : An} (h1 : ∀ i, i < n → ∀ j, j < m → L i j = true → ∃ i', i' < n' ∧ ∃ j', j' < m' ∧ L' i' j' = true ∧ X' i' j' = X i j) (h2 : ∀ i, i < n' → ∀ j, j < m' → L' i j = true → ∃ i', i' < n ∧ ∃ j', j' < m ∧ L i' j' = true ∧ X i' j' = X' i j) : gat n m L X a = gat n' m' L' X' a := by
  refine Prod.ext (bit_eq fun k => ?_) (Prod.ext ?_ ?_)
  · rw [gat_1, gat_1]
    refine or_congr Iff.rfl ⟨fun ⟨i, hi, j, hj, l, e⟩ => ?_, fun ⟨i, hi, j, hj, l, e⟩ => ?_⟩
    · obtain ⟨i', hi', j', hj', l', e'⟩ := h1 i hi j hj l
      exact ⟨i', hi', j', hj', l', by rw [e']; exact e⟩
    · obtain ⟨i', hi', j', hj', l', e'⟩ := h2 i hi j hj l
      exact ⟨i', hi', j', hj', l', by rw [e']; exact e⟩
  · refine Nat.le_antisymm ?_ ?_
    · refine gat_2.mpr ⟨(gat_2.mp (Nat.le_refl (gat n' m' L' X' a).2.1)).1, fun i hi j hj l => ?_⟩
      obtain ⟨i', hi', j', hj', l', e'⟩ := h1 i hi j hj l
      rw [← e']
      exact (gat_2.mp (Nat.le_refl _)).2 i' hi' j' hj' l'
    · refine gat_2.mpr ⟨(gat_2.mp (Nat.le_refl (gat n m L X a).2.1)).1, fun i hi j hj l => ?_⟩
      obtain ⟨i', hi', j', hj', l', e'⟩ := h2 i hi j hj l
      rw [← e']
      exact (gat_2.mp (Nat.le_refl _)).2 i' hi' j' hj' l'
  · refine Nat.le_antisymm ?_ ?_
    · refine gat_3.mpr ⟨(gat_3.mp (Nat.le_refl (gat n m L X a).2.2)).1, fun i hi j hj l => ?_⟩
      obtain ⟨i', hi', j', hj', l', e'⟩ := h2 i hi j hj l
      rw [← e']
      exact (gat_3.mp (Nat.le_refl _)).2 i' hi' j' hj' l'
    · refine gat_3.mpr ⟨(gat_3.mp (Nat.le_refl (gat n' m' L' X' a).2.2)).1, fun i hi j hj l => ?_⟩
      obtain ⟨i', hi', j', hj', l', e'⟩ := h1 i hi j hj l
      rw [← e']
      exact (gat_3.mp (Nat.le_refl _)).2 i' hi' j' hj' l'
/-! bounds: all three stay within the part's size -/
theorem cnt_dif (t c : Nat) : ∀ L : List Nat, (∀ i, c.testBit i = true → t.testBit i = true) → (L.filter (fun i => (dif t c).testBit i)).length + (L.filter (fun i => c.testBit i)).length = (L.filter (fun i => t.testBit i)).length
  | [], _ => rfl
  | a :: L, h => by
    have ih := cnt_dif t c L h
    rw [List.filter_cons, List.filter_cons, List.filter_cons, tb_dif]
    cases hc : c.testBit a
    · cases ht : t.testBit a
      · simpa using ih
      · simp
        omega
    · rw [h a hc]
      simp
      omega
theorem pop_split {t c : Nat} (h : ∀ i, c.testBit i = true → t.testBit i = true) : pop (dif t c) + pop c = pop t := cnt_dif t c _ h
def Bd3 (a : An) (n : Nat) : Prop := a.1 ≤ n ∧ a.2.1 ≤ n ∧ a.2.2 ≤ n
theorem xor_le {x y : Nat} (hx : x < 16) (hy : y < 16) : x ^^^ y ≤ x + y := (by decide +kernel : ∀ x, x < 16 → ∀ y, y < 16 → x ^^^ y ≤ x + y) x hx y hy
theorem cmb_bd {x y : An} {a b : Nat} (hx : Bd3 x a) (hy : Bd3 y b) (ha : a + b ≤ 9) : Bd3 (cmb x y) (a + b) := by
  obtain ⟨x1, x2, x3⟩ := hx
  obtain ⟨y1, y2, y3⟩ := hy
  have := xor_le (x := x.1) (y := y.1) (by omega) (by omega)
  exact ⟨by show x.1 ^^^ y.1 ≤ a + b; omega, by show x.2.1 + y.2.1 ≤ a + b; omega, by show x.2.2 + y.2.2 ≤ a + b; omega⟩
theorem prt_sub {nr : Nat → Nat} {set j : Nat} (hy : Sy nr) (hset : set < 512) : ∀ i, (prt nr set j).testBit i = true → (rst nr set j).testBit i = true := by
  intro i hi
  rw [← prt_left hy hset] at hi
  exact (rch_cl (rst_lt hset j)).2.1 i hi
theorem pcsF_bd {nr : Nat → Nat} {set : Nat} {G : Nat → An} (hy : Sy nr) (hset : set < 512) (hG : ∀ j, rst nr set j ≠ 0 → Bd3 (G (prt nr set j)) (pop (prt nr set j))) : ∀ k j a, Bd3 a (pop set - pop (rst nr set j)) → pop (rst nr set j) ≤ pop set → Bd3 (pcsF nr set G k j a) (pop set)
  | 0, j, a, h, _ => ⟨by have := h.1; rw [pcsF]; omega, by have := h.2.1; rw [pcsF]; omega, by have := h.2.2; rw [pcsF]; omega⟩
  | k + 1, j, a, h, hle => by
    rw [pcsF]
    by_cases h0 : rst nr set j = 0
    · rw [if_pos h0]
      exact ⟨by have := h.1; omega, by have := h.2.1; omega, by have := h.2.2; omega⟩
    · rw [if_neg h0]
      have e := pop_split (prt_sub (j := j) hy hset)
      have e' : pop (rst nr set (j + 1)) + pop (prt nr set j) = pop (rst nr set j) := e
      have h9 := pop_le (s := set)
      refine pcsF_bd hy hset hG k (j + 1) _ ?_ (by omega)
      have := cmb_bd h (hG j h0) (by omega)
      rw [show pop set - pop (rst nr set (j + 1)) = pop set - pop (rst nr set j) + pop (prt nr set j) by omega]
      exact this
theorem pcs_bd {nr : Nat → Nat} {set : Nat} {G : Nat → An} (hy : Sy nr) (hset : set < 512) (hG : ∀ j, rst nr set j ≠ 0 → Bd3 (G (prt nr set j)) (pop (prt nr set j))) : Bd3 (pcs nr set G) (pop set) :=
  pcsF_bd hy hset hG 9 0 _ ⟨Nat.zero_le _, Nat.zero_le _, Nat.zero_le _⟩ (Nat.le_refl _)
theorem pcsF_congr {nr : Nat → Nat} {set : Nat} {G G' : Nat → An} (hG : ∀ j, rst nr set j ≠ 0 → G (prt nr set j) = G' (prt nr set j)) : ∀ k j a, pcsF nr set G k j a = pcsF nr set G' k j a
  | 0, _, _ => rfl
  | k + 1, j, a => by
    rw [pcsF, pcsF]
    by_cases h0 : rst nr set j = 0
    · rw [if_pos h0, if_pos h0]
    · rw [if_neg h0, if_neg h0, hG j h0, pcsF_congr hG]
theorem pcs_congr {nr : Nat → Nat} {set : Nat} {G G' : Nat → An} (hG : ∀ j, rst nr set j ≠ 0 → G (prt nr set j) = G' (prt nr set j)) : pcs nr set G = pcs nr set G' := pcsF_congr hG 9 0 _
theorem mex_ok {s n : Nat} (hs : s < 1024) (h : ∀ i, s.testBit i = true → i < n) : mex s ≤ n ∧ s.testBit (mex s) = false ∧ (∀ i, i < mex s → s.testBit i = true) ∧ mex s ≤ 10 := by
  have d : ∀ s, s < 1024 → s.testBit (mex s) = false ∧ (∀ i, i < mex s → s.testBit i = true) ∧ mex s ≤ 10 := by decide +kernel
  obtain ⟨d1, d2, d3⟩ := d s hs
  refine ⟨?_, d1, d2, d3⟩
  rcases Nat.lt_or_ge n (mex s) with h1 | h1
  · exact absurd (h n (d2 n h1)) (Nat.lt_irrefl n)
  · exact h1
/-- the open sets lie in the part -/
def Op (p : Nat) (O : Nat → Nat) : Prop := p < 512 ∧ ∀ c i, c < 3 → (O c).testBit i = true → p.testBit i = true
theorem pop_v {p v : Nat} (hv : p.testBit v = true) (hp : p < 512) : pop (dif p (2 ^ v)) + 1 = pop p := by
  have h := pop_split (t := p) (c := 2 ^ v) fun i hi => by
    rw [tb_pow] at hi
    cases of_decide_eq_true hi
    exact hv
  rw [pop_2w (bit_lt hp hv)] at h
  exact h
theorem mvO_tb {nr O : Nat → Nat} {v c w i : Nat} (h : (mvO nr O v c w).testBit i = true) : (O w).testBit i = true ∧ i ≠ v := by
  unfold mvO at h
  rw [tb_dif, tb_dif, tb_pow, Bool.and_eq_true, Bool.and_eq_true, Bool.not_eq_true', decide_eq_false_iff_not] at h
  exact ⟨h.1.1, fun e => h.1.2 e.symm⟩
theorem Op_sub {nr : Nat → Nat} {p : Nat} {O : Nat → Nat} {v c j : Nat} (h : Op p O) : Op (prt nr (dif p (2 ^ v)) j) (fun w => mvO nr O v c w &&& prt nr (dif p (2 ^ v)) j) := by
  have hd : dif p (2 ^ v) < 512 := dif_lt (n := 9) h.1
  refine ⟨rch_lt hd, fun c i _ hi => ?_⟩
  rw [Nat.testBit_and, Bool.and_eq_true] at hi
  exact hi.2
theorem lgl_in {p : Nat} {O : Nat → Nat} {b v c : Nat} (h : Op p O) (hc : c < 3) (l : lgl p O b v c = true) : p.testBit v = true := by
  unfold lgl at l
  rw [Bool.and_eq_true] at l
  exact h.2 c v hc l.1
theorem gr_bd {nr : Nat → Nat} (hy : Sy nr) : ∀ d p O b, Op p O → Bd3 (gr nr d p O b) (pop p)
  | 0, p, O, b, _ => ⟨Nat.zero_le _, Nat.zero_le _, Nat.zero_le _⟩
  | d + 1, p, O, b, h => by
    rw [gr]
    have ih := gr_bd hy d
    let X : Nat → Nat → An := fun c v => pcs nr (dif p (2 ^ v)) (fun q => gr nr d q (fun w => mvO nr O v c w &&& q) (c + 1))
    let L : Nat → Nat → Bool := fun c v => lgl p O b v c
    have hX : ∀ c v, c < 3 → L c v = true → Bd3 (X c v) (pop p - 1) := fun c v hc l => by
      have hv := lgl_in h hc l
      have e := pop_v hv h.1
      have := pcs_bd (G := fun q => gr nr d q (fun w => mvO nr O v c w &&& q) (c + 1)) hy (dif_lt (n := 9) (b := 2 ^ v) h.1) (fun j _ => ih _ _ _ (Op_sub h))
      rw [show pop p - 1 = pop (dif p (2 ^ v)) by omega]
      exact this
    show Bd3 (fin3 (gat 3 9 L X (0, 0, 10))) (pop p)
    have hp9 := pop_le (s := p)
    have g1 : ∀ k, (gat 3 9 L X (0, 0, 10)).1.testBit k = true → k < pop p ∧ ∃ c, c < 3 ∧ ∃ v, v < 9 ∧ L c v = true := fun k hk => by
      rcases gat_1.mp hk with e | ⟨c, hc, v, hv, l, e⟩
      · rw [Nat.zero_testBit] at e; cases e
      · have := (hX c v hc l).1
        have h1 := pop_v (lgl_in h hc l) h.1
        exact ⟨by omega, c, hc, v, hv, l⟩
    unfold fin3
    by_cases h0 : (gat 3 9 L X (0, 0, 10)).1 = 0
    · rw [if_pos h0]
      exact ⟨Nat.zero_le _, Nat.zero_le _, Nat.zero_le _⟩
    · rw [if_neg h0]
      obtain ⟨k, hk⟩ := ne_0.mp h0
      obtain ⟨-, c, hc, v, hv, l⟩ := g1 k hk
      have hb := hX c v hc l
      have h1 := pop_v (lgl_in h hc l) h.1
      refine ⟨(mex_ok (tb_lt (n := 10) fun i hi => ?_) (fun i hi => (g1 i hi).1)).1, gat_2.mpr ⟨Nat.zero_le _, fun c hc v hv l => ?_⟩, ?_⟩
      · cases e : (gat 3 9 L X (0, 0, 10)).1.testBit i
        · rfl
        · have := (g1 i e).1
          omega
      · have := (hX c v hc l).2.1
        have h1 := pop_v (lgl_in h hc l) h.1
        omega
      · have := (gat_3.mp (Nat.le_refl (gat 3 9 L X (0, 0, 10)).2.2)).2 c hc v hv l
        have h3 := hb.2.2
        show (gat 3 9 L X (0, 0, 10)).2.2 ≤ pop p
        omega
theorem gr_fuel {nr : Nat → Nat} : ∀ d d' p O b, Op p O → pop p ≤ d → pop p ≤ d' → gr nr d p O b = gr nr d' p O b := by
  have zero : ∀ d p O b, Op p O → pop p = 0 → gr nr d p O b = (0, 0, 0) := by
    intro d p O b h h0
    have hp := pop_0 h.1 h0
    cases d with
    | zero => rfl
    | succ d =>
      rw [gr]
      show fin3 (gat 3 9 (fun c v => lgl p O b v c) _ (0, 0, 10)) = _
      have : (gat 3 9 (fun c v => lgl p O b v c) (fun c v => pcs nr (dif p (2 ^ v)) (fun q => gr nr d q (fun w => mvO nr O v c w &&& q) (c + 1))) (0, 0, 10)).1 = 0 := by
        refine Classical.byContradiction fun hn => ?_
        obtain ⟨k, hk⟩ := ne_0.mp hn
        rcases gat_1.mp hk with e | ⟨c, hc, v, hv, l, e⟩
        · rw [Nat.zero_testBit] at e; cases e
        · have := lgl_in h hc l
          rw [hp, Nat.zero_testBit] at this
          cases this
      unfold fin3
      rw [if_pos this]
  intro d
  induction d with
  | zero =>
    intro d' p O b h h1 h2
    rw [zero d' p O b h (by omega)]
    rfl
  | succ d ih =>
    intro d' p O b h h1 h2
    by_cases h0 : pop p = 0
    · rw [zero _ p O b h h0, zero _ p O b h h0]
    · obtain ⟨d', rfl⟩ : ∃ m, d' = m + 1 := ⟨d' - 1, by omega⟩
      rw [gr, gr]
      congr 1
      refine itN_congr fun c a hc => itN_congr fun v a hv => ?_
      by_cases l : lgl p O b v c = true
      · rw [if_pos l, if_pos l]
        congr 1
        have h3 := pop_v (lgl_in h hc l) h.1
        refine pcs_congr fun j hj => ?_
        have h4 : pop (prt nr (dif p (2 ^ v)) j) ≤ pop (dif p (2 ^ v)) := pop_sub fun i _ hi => (rch_cl (dif_lt (n := 9) h.1)).2.1 i hi
        exact ih d' _ _ _ (Op_sub h) (by omega) (by omega)
      · rw [if_neg l, if_neg l]
