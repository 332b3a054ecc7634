/-! what can be reached inside a set; the parts of a set -/
theorem loopM {σ : Type} (W : Nat → σ → Prop) (I : σ → Prop) (μ : σ → Nat) (hs : ∀ n s, I s → (∀ s', I s' → μ s' < μ s → W n s') → W (n + 1) s) : ∀ n s, μ s < n → I s → W n s := by
  intro n
  induction n with
  | zero => intro s h; omega
  | succ n ih => intro s hn hI; exact hs n s hI (fun s' h' hm => ih s' (by omega) h')
def wlk (nr : Nat → Nat) (set : Nat) : Nat → Nat → Nat → Nat
  | 0, r, _ => r
  | k + 1, r, f => if f = 0 then r else wlk nr set k (r ||| dif (nr (lo f) &&& set) r) (dif f (2 ^ lo f) ||| dif (nr (lo f) &&& set) r)
/-- what can be reached from s inside the set -/
def rch (nr : Nat → Nat) (set s : Nat) : Nat := wlk nr set 9 (s &&& set) (s &&& set)
def Cl (nr : Nat → Nat) (set s X : Nat) : Prop :=
  (∀ i, s.testBit i = true → set.testBit i = true → X.testBit i = true) ∧ (∀ i, X.testBit i = true → set.testBit i = true) ∧
  (∀ u w, X.testBit u = true → (nr u).testBit w = true → set.testBit w = true → X.testBit w = true) ∧
  ∀ Y : Nat → Prop, (∀ i, s.testBit i = true → set.testBit i = true → Y i) → (∀ u w, Y u → (nr u).testBit w = true → set.testBit w = true → Y w) → ∀ i, X.testBit i = true → Y i
theorem Cl_uniq {nr : Nat → Nat} {set s X X' : Nat} (h : Cl nr set s X) (h' : Cl nr set s X') : X = X' := by
  refine Nat.eq_of_testBit_eq fun i => ?_
  have a := h.2.2.2 (fun i => X'.testBit i = true) h'.1 h'.2.2.1 i
  have b := h'.2.2.2 (fun i => X.testBit i = true) h.1 h.2.2.1 i
  cases hx : X.testBit i <;> cases hx' : X'.testBit i
  · rfl
  · rw [b hx'] at hx; cases hx
  · rw [a hx] at hx'; cases hx'
  · rfl
theorem pop_add {a u : Nat} (ha : a < 512) (hu : u < 9) (h : a.testBit u = false) : pop (a ||| 2 ^ u) = pop a + 1 := (by decide +kernel : ∀ a, a < 512 → ∀ u, u < 9 → a.testBit u = false → pop (a ||| 2 ^ u) = pop a + 1) a ha u hu h
theorem pop_full {a : Nat} (ha : a < 512) (h : 9 ≤ pop a) : a = 511 := (by decide +kernel : ∀ a, a < 512 → 9 ≤ pop a → a = 511) a ha h
theorem bit_lt {s i : Nat} (h : s < 512) (hi : s.testBit i = true) : i < 9 := by
  rcases Nat.lt_or_ge i 9 with h1 | h1
  · exact h1
  · rw [tb_ge (n := 9) h h1] at hi; cases hi
theorem wlk_cl {nr : Nat → Nat} {set s : Nat} (hset : set < 512) : ∀ (k r f : Nat), (∀ i, f.testBit i = true → r.testBit i = true) → (∀ i, r.testBit i = true → set.testBit i = true) → (∀ i, s.testBit i = true → set.testBit i = true → r.testBit i = true) →
    (∀ u w, r.testBit u = true → f.testBit u = false → (nr u).testBit w = true → set.testBit w = true → r.testBit w = true) →
    (∀ Y : Nat → Prop, (∀ i, s.testBit i = true → set.testBit i = true → Y i) → (∀ u w, Y u → (nr u).testBit w = true → set.testBit w = true → Y w) → ∀ i, r.testBit i = true → Y i) →
    9 ≤ pop (dif r f) + k → Cl nr set s (wlk nr set k r f) := by
  intro k
  induction k with
  | zero =>
    intro r f h1 h2 h3 h4 h5 h6
    have hr : r < 512 := tb_lt (n := 9) fun i hi => by
      cases h : r.testBit i
      · rfl
      · exact absurd (h2 i h) (by rw [tb_ge (n := 9) hset hi]; decide)
    have hd := pop_full (dif_lt (n := 9) hr) (by omega)
    refine ⟨h3, h2, fun u w hu hn hw => h4 u w hu ?_ hn hw, h5⟩
    have hu9 := bit_lt hset (h2 u hu)
    have e : (dif r f).testBit u = true := by
      rw [hd]
      exact (by decide +kernel : ∀ u, u < 9 → (511 : Nat).testBit u = true) u hu9
    rw [tb_dif] at e
    cases hf : f.testBit u
    · rfl
    · rw [hf, Bool.not_true, Bool.and_false] at e; cases e
  | succ k ih =>
    intro r f h1 h2 h3 h4 h5 h6
    rw [wlk]
    by_cases hf0 : f = 0
    · rw [if_pos hf0]
      subst hf0
      exact ⟨h3, h2, fun u w hu hn hw => h4 u w hu (Nat.zero_testBit u) hn hw, h5⟩
    · rw [if_neg hf0]
      have hf : f < 512 := tb_lt (n := 9) fun i hi => by
        cases h : f.testBit i
        · rfl
        · exact absurd (h2 i (h1 i h)) (by rw [tb_ge (n := 9) hset hi]; decide)
      have hr : r < 512 := tb_lt (n := 9) fun i hi => by
        cases h : r.testBit i
        · rfl
        · exact absurd (h2 i h) (by rw [tb_ge (n := 9) hset hi]; decide)
      obtain ⟨l1, l2⟩ := lo_ok hf hf0
      have hfr := h1 _ l2
      refine ih _ _ (fun i hi => ?_) (fun i hi => ?_) (fun i hi hs => ?_) (fun u w hu hfu hn hw => ?_) (fun Y y1 y2 i hi => ?_) ?_
      · rw [Nat.testBit_or, tb_dif, tb_pow, Bool.or_eq_true, Bool.and_eq_true] at hi
        rw [Nat.testBit_or, Bool.or_eq_true]
        rcases hi with ⟨hi, -⟩ | hi
        · exact Or.inl (h1 i hi)
        · exact Or.inr hi
      · rw [Nat.testBit_or, tb_dif, Nat.testBit_and, Bool.or_eq_true, Bool.and_eq_true, Bool.and_eq_true] at hi
        rcases hi with hi | ⟨⟨-, hi⟩, -⟩
        · exact h2 i hi
        · exact hi
      · rw [Nat.testBit_or, h3 i hi hs, Bool.true_or]
      · rw [Nat.testBit_or, tb_dif, tb_pow, Bool.or_eq_false_iff] at hfu
        rw [Nat.testBit_or, tb_dif, Nat.testBit_and] at hu ⊢
        obtain ⟨f1, f2⟩ := hfu
        rw [tb_dif, Nat.testBit_and] at f2
        rw [f2, Bool.or_false] at hu
        by_cases hul : lo f = u
        · rw [hul, hn, hw]
          cases r.testBit w <;> rfl
        · rw [decide_eq_false hul, Bool.not_false, Bool.and_true] at f1
          rw [h4 u w hu f1 hn hw, Bool.true_or]
      · rw [Nat.testBit_or, tb_dif, Nat.testBit_and, Bool.or_eq_true, Bool.and_eq_true, Bool.and_eq_true] at hi
        rcases hi with hi | ⟨⟨hi, hs⟩, -⟩
        · exact h5 Y y1 y2 i hi
        · exact y2 _ i (h5 Y y1 y2 _ hfr) hi hs
      · have e : dif (r ||| dif (nr (lo f) &&& set) r) (dif f (2 ^ lo f) ||| dif (nr (lo f) &&& set) r) = dif r f ||| 2 ^ lo f := by
          refine Nat.eq_of_testBit_eq fun i => ?_
          simp only [tb_dif, Nat.testBit_or, Nat.testBit_and, tb_pow]
          by_cases hi : lo f = i
          · subst hi
            rw [hfr, l2, decide_eq_true rfl]
            cases (nr (lo f)).testBit (lo f) <;> cases set.testBit (lo f) <;> rfl
          · rw [decide_eq_false hi]
            cases hri : r.testBit i
            · have : f.testBit i = false := by
                cases hfi : f.testBit i
                · rfl
                · rw [h1 i hfi] at hri; cases hri
              rw [this]
              cases (nr (lo f)).testBit i <;> cases set.testBit i <;> rfl
            · cases f.testBit i <;> cases (nr (lo f)).testBit i <;> cases set.testBit i <;> rfl
        rw [e, pop_add (dif_lt (n := 9) hr) l1 (by rw [tb_dif, hfr, l2]; rfl)]
        omega
theorem rch_cl {nr : Nat → Nat} {set s : Nat} (hset : set < 512) : Cl nr set s (rch nr set s) := by
  refine wlk_cl hset 9 _ _ (fun i h => h) (fun i h => ?_) (fun i h h2 => by rw [Nat.testBit_and, h, h2]; rfl) (fun u w h h2 => by rw [h] at h2; cases h2) (fun Y y1 _ i h => ?_) (by omega)
  · rw [Nat.testBit_and, Bool.and_eq_true] at h
    exact h.2
  · rw [Nat.testBit_and, Bool.and_eq_true] at h
    exact y1 i h.1 h.2
theorem rch_lt {nr : Nat → Nat} {set s : Nat} (hset : set < 512) : rch nr set s < 512 := tb_lt (n := 9) fun i hi => by
  cases h : (rch nr set s).testBit i
  · rfl
  · exact absurd ((rch_cl hset).2.1 i h) (by rw [tb_ge (n := 9) hset hi]; decide)
/-- neighbours see each other -/
def Sy (nr : Nat → Nat) : Prop := ∀ u w, (nr u).testBit w = true → (nr w).testBit u = true
/-- the set's part t has no neighbour in the rest of the set -/
def Cs (nr : Nat → Nat) (set t : Nat) : Prop := (∀ i, t.testBit i = true → set.testBit i = true) ∧ ∀ u w, t.testBit u = true → (nr u).testBit w = true → set.testBit w = true → t.testBit w = true
theorem Cs_self {nr : Nat → Nat} {set : Nat} : Cs nr set set := ⟨fun _ h => h, fun _ _ _ _ h => h⟩
theorem Cs_rch {nr : Nat → Nat} {set s : Nat} (hset : set < 512) : Cs nr set (rch nr set s) := ⟨(rch_cl hset).2.1, (rch_cl hset).2.2.1⟩
theorem Cs_dif {nr : Nat → Nat} {set t c : Nat} (hy : Sy nr) (h : Cs nr set t) (hc : Cs nr set c) : Cs nr set (dif t c) := by
  refine ⟨fun i hi => ?_, fun u w hu hn hw => ?_⟩
  · rw [tb_dif, Bool.and_eq_true] at hi
    exact h.1 i hi.1
  · rw [tb_dif, Bool.and_eq_true] at hu ⊢
    refine ⟨h.2 u w hu.1 hn hw, ?_⟩
    cases hcw : c.testBit w
    · rfl
    · have := hc.2 w u hcw (hy u w hn) (h.1 u hu.1)
      rw [this] at hu
      exact hu.2
/-- inside a closed part of the set the same is reached -/
theorem rch_sub {nr : Nat → Nat} {set t s : Nat} (hset : set < 512) (h : Cs nr set t) (hs : ∀ i, s.testBit i = true → t.testBit i = true) : rch nr t s = rch nr set s := by
  have ht : t < 512 := tb_lt (n := 9) fun i hi => by
    cases h9 : t.testBit i
    · rfl
    · exact absurd (h.1 i h9) (by rw [tb_ge (n := 9) hset hi]; decide)
  have c := rch_cl (nr := nr) (set := t) (s := s) ht
  refine Cl_uniq (s := s) (nr := nr) (set := set) ⟨fun i h1 _ => c.1 i h1 (hs i h1), fun i h1 => h.1 i (c.2.1 i h1), fun u w h1 h2 h3 => c.2.2.1 u w h1 h2 (h.2 u w (c.2.1 u h1) h2 h3), fun Y y1 y2 i h1 => ?_⟩ (rch_cl hset)
  exact c.2.2.2 Y (fun i a b => y1 i a (h.1 i b)) (fun u w a b d => y2 u w a b (h.1 w d)) i h1
theorem rch_self {nr : Nat → Nat} {set v : Nat} (hset : set < 512) (hv : set.testBit v = true) : (rch nr set (2 ^ v)).testBit v = true := (rch_cl hset).1 v (Nat.testBit_two_pow_self) hv
/-- from any member the same part is reached -/
theorem rch_mem {nr : Nat → Nat} {set u w : Nat} (hy : Sy nr) (hset : set < 512) (hu : set.testBit u = true) (hw : (rch nr set (2 ^ u)).testBit w = true) : rch nr set (2 ^ w) = rch nr set (2 ^ u) := by
  have cu := rch_cl (nr := nr) (s := 2 ^ u) hset
  have cw := rch_cl (nr := nr) (s := 2 ^ w) hset
  have hws := cu.2.1 w hw
  have one : ∀ a b : Nat, (2 ^ a).testBit b = true → b = a := fun a b h => by
    rw [tb_pow] at h
    exact (of_decide_eq_true h).symm
  -- u is reached from w
  have huw : (rch nr set (2 ^ w)).testBit u = true := by
    have key := cu.2.2.2 (fun i => set.testBit i = true ∧ (rch nr set (2 ^ i)).testBit u = true) (fun i h1 h2 => by
      cases one u i h1
      exact ⟨hu, rch_self hset hu⟩) (fun a b hab hn hb => ⟨hb, by
        have ca := rch_cl (nr := nr) (s := 2 ^ a) hset
        have cb := rch_cl (nr := nr) (s := 2 ^ b) hset
        have hba : (rch nr set (2 ^ b)).testBit a = true := cb.2.2.1 b a (rch_self hset hb) (hy a b hn) hab.1
        exact ca.2.2.2 (fun i => (rch nr set (2 ^ b)).testBit i = true) (fun i h1 _ => by cases one a i h1; exact hba) cb.2.2.1 u hab.2⟩) w hw
    exact key.2
  refine Nat.eq_of_testBit_eq fun i => ?_
  have a := cw.2.2.2 (fun i => (rch nr set (2 ^ u)).testBit i = true) (fun i h1 _ => by cases one w i h1; exact hw) cu.2.2.1 i
  have b := cu.2.2.2 (fun i => (rch nr set (2 ^ w)).testBit i = true) (fun i h1 _ => by cases one u i h1; exact huw) cw.2.2.1 i
  cases hx : (rch nr set (2 ^ w)).testBit i <;> cases hx' : (rch nr set (2 ^ u)).testBit i
  · rfl
  · rw [b hx'] at hx; cases hx
  · rw [a hx] at hx'; cases hx'
  · rfl
/-- the parts of a set, by their least members -/
def pts (nr : Nat → Nat) (set : Nat) : Nat → Nat → List Nat
  | 0, _ => []
  | k + 1, t => if t = 0 then [] else rch nr set (2 ^ lo t) :: pts nr set k (dif t (rch nr set (2 ^ lo t)))
theorem pop_dif {t c : Nat} {u : Nat} (ht : t < 512) (hu : t.testBit u = true) (hc : c.testBit u = true) : pop (dif t c) < pop t := by
  have h1 : pop (dif t c) ≤ pop (dif t (2 ^ u)) := pop_sub fun i _ hi => by
    rw [tb_dif, Bool.and_eq_true] at hi
    rw [tb_dif, hi.1, tb_pow]
    by_cases h : u = i
    · subst h
      rw [hc] at hi
      cases hi.2
    · rw [decide_eq_false h]
      rfl
  have h2 := pop_add (a := dif t (2 ^ u)) (u := u) (dif_lt (n := 9) ht) (bit_lt ht hu) (by rw [tb_dif, Nat.testBit_two_pow_self, Bool.not_true, Bool.and_false])
  have h3 : dif t (2 ^ u) ||| 2 ^ u = t := Nat.eq_of_testBit_eq fun i => by
    rw [Nat.testBit_or, tb_dif, tb_pow]
    by_cases h : u = i
    · subst h
      rw [hu, decide_eq_true rfl]
      rfl
    · rw [decide_eq_false h]
      cases t.testBit i <;> rfl
  rw [h3] at h2
  omega
theorem pop_0 {t : Nat} (ht : t < 512) (h : pop t = 0) : t = 0 := (by decide +kernel : ∀ t, t < 512 → pop t = 0 → t = 0) t ht h
