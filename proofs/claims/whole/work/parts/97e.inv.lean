/-! what stands between two calls; a query keeps it -/
def Pot (k : Nat) (al : Nat → Nat) : Prop := 2 * (al 3 + pop (fre al)) ≤ 9 * k + 36 ∧ 2 * (al 3 + pop (fre al) + al 2) ≤ 9 * k + 45
theorem Pot_mono {k k' : Nat} {al : Nat → Nat} (h : Pot k al) (hk : k ≤ k') : Pot k' al := by
  obtain ⟨h1, h2⟩ := h
  exact ⟨by omega, by omega⟩
/-- a board kept: the reference's row says the same -/
def Snp (H : Hp) (a : Nat) (row : Nat → Int32) (L : Nat) (Gn : Nat → Nat → Nat) (k : Nat) : Prop := ∃ num al b lat, BdH H a num al b lat ∧ Bk al b ∧ Chn H al (al 3) lat ∧ WfB al ∧ num ≤ L ∧ Gn num = nrf al ∧ Pot k al ∧ ∀ t, t < 4136 → row t = nI (al t)
def bdx (kb sb : Nat → Option Nat) (j : Nat) : Option Nat := if j < 8 then kb j else sb (j - 8)
def Bds (H : Hp) (kb sb : Nat → Option Nat) : Prop := (∀ j a, j < 10 → bdx kb sb j = some a → 32 ≤ a ∧ BdS H a) ∧ ∀ i j a a', i < 10 → j < 10 → i ≠ j → bdx kb sb i = some a → bdx kb sb j = some a' → a + 4 < a' ∨ a' + 4 < a
def Kps (H : Hp) (A : Nat → Nat → Int32) (kb : Nat → Option Nat) (hd nx L : Nat) (Gn : Nat → Nat → Nat) (k : Nat) : Prop := ∀ i, i < hd → ∃ a, kb ((nx + 8 - hd + i) % 8) = some a ∧ Snp H a (fun t => A 3 (4136 * i + t)) L Gn k
def Sls (H : Hp) (A : Nat → Nat → Int32) (sb : Nat → Option Nat) (L : Nat) (Gn : Nat → Nat → Nat) (k : Nat) : Prop := ∀ i, i < 2 → (sb i = none ∧ A 5 i = 0) ∨ ∃ a, sb i = some a ∧ A 5 i = 1 ∧ Snp H a (fun t => A 4 (4136 * i + t)) L Gn k
def Hst (k L : Nat) (Gn : Nat → Nat → Nat) (H : Hp) (v : Nat → Int32) (A : Nat → Nat → Int32) : Prop := ∃ hd nx kb sb, At H 16 (hq hd nx) ∧ At H 17 (aq 8 kb) ∧ At H 18 (aq 2 sb) ∧ hd ≤ 8 ∧ nx < 8 ∧ v 6 = nI hd ∧ Bds H kb sb ∧ Kps H A kb hd nx L Gn k ∧ Sls H A sb L Gn k
def Rdr (H : Hp) (v : Nat → Int32) (A : Nat → Nat → Int32) : Prop := ∃ (fl : Nat) (ea : Int32) (fB : Nat → Int32) (c : Nat → Nat), (∃ ln er kd st en nu, At H 9 (.inr (3, dO (nI fl) ea ln er kd st en nu))) ∧ At H 15 (.inl (2, 500, .inl fB)) ∧ fl ≤ 500 ∧ v 9 = nI fl ∧ v 17 = ea ∧ (∀ i, i < fl → fB i &&& (255 : Int32) = nI (c i) ∧ c i < 256 ∧ A 6 i = nI (c i)) ∧ BdS H 10
def Brd (k L : Nat) (Gn : Nat → Nat → Nat) (H : Hp) (v : Nat → Int32) (A : Nat → Nat → Int32) (al bn : Nat → Nat) : Prop := ∃ num lat w fW, Vx H num al bn lat L Gn w L ∧ Chn H al (al 3) lat ∧ Pot k al ∧ AlF A al ∧ At H 19 (.inl (2, 13, .inl fW)) ∧ w ≤ 13 ∧ v 21 = nI w ∧ ∀ i, i < w → fW i = A 9 i
def InvP (k : Nat) (H : Hp) : Prop := ∃ v A L Gn al bn P Q, H = setR v A H ∧ H = wC H P Q ∧ CKs P Q L Gn ∧ 32 ≤ H.2.1 ∧ L ≤ k ∧ H.2.1 ≤ 32 + 200 * k ∧ H.2.2 ≤ 300000 + 2000 * k ∧ Brd k L Gn H v A al bn ∧ Hst k L Gn H v A ∧ Rdr H v A ∧ ∃ o, At H 31 (.inl (1, 1, .inr (.inl o)))
section FRI
variable {H H2 : Hp} {S : Nat → Prop} {n m k k' L a : Nat} {Gn : Nat → Nat → Nat} {v v' : Nat → Int32} {A A' : Nat → Nat → Int32} {al bn : Nat → Nat} {kb sb : Nat → Option Nat} {row row' : Nat → Int32}
theorem BdS_fr (f : Fr H H2 S n m) (B : BdS H a) (hs : ∀ i, i < 5 → ¬ S (a + i)) : BdS H2 a := by
  obtain ⟨⟨_, _, _, _, _, _, _, t0⟩, ⟨_, t1⟩, ⟨_, t2⟩, ⟨_, t3⟩, ⟨_, t4⟩⟩ := B
  exact ⟨⟨_, _, _, _, _, _, _, Fr_at f t0 (hs 0 (by decide))⟩, ⟨_, Fr_at f t1 (hs 1 (by decide))⟩, ⟨_, Fr_at f t2 (hs 2 (by decide))⟩, ⟨_, Fr_at f t3 (hs 3 (by decide))⟩, ⟨_, Fr_at f t4 (hs 4 (by decide))⟩⟩
theorem Snp_fr (f : Fr H H2 S n m) (h : Snp H a row L Gn k) (hs : ∀ i, i < 5 → ¬ S (a + i)) (hc : ∀ x fs, 32 ≤ x → At H x (.inr (2, fs)) → ¬ S x) (hr : ∀ t, t < 4136 → row' t = row t) (hk : k ≤ k') : Snp H2 a row' L Gn k' := by
  obtain ⟨num, al, b, lat, h1, h2, h3, h4, h5, h6, h7, h8⟩ := h
  exact ⟨num, al, b, lat, Fr_bd f h1 hs, h2, Chn_fr f hc _ _ h3, h4, h5, h6, Pot_mono h7 hk, fun t ht => (hr t ht).trans (h8 t ht)⟩
theorem Vx_fr {num w ld : Nat} {lat : Option Nat} (f : Fr H H2 S n m) (V : Vx H num al bn lat L Gn w ld) (hs : ∀ i, i < 7 → ¬ S i) : Vx H2 num al bn lat L Gn w ld := by
  obtain ⟨⟨h1, h2, h3, h4⟩, h5, h6⟩ := V
  exact ⟨⟨Nat.le_trans h1 f.1, Fr_at f h2 (hs 1 (by decide)), Fr_bd f h3 (fun i hi => hs (2 + i) (by omega)), h4⟩, Fr_at f h5 (hs 0 (by decide)), h6⟩
/-- nothing that a call needs lies among the cells S -/
def OffS (S : Nat → Prop) : Prop := ∀ a, S a → a = 7 ∨ a = 8 ∨ (20 ≤ a ∧ a ≤ 31)
theorem Brd_fr (hS : OffS S) (f : Fr H H2 S n m) (h : Brd k L Gn H v A al bn) (hv : v' 21 = v 21) (hA0 : A' 0 = A 0) (hA9 : A' 9 = A 9) (hk : k ≤ k') : Brd k' L Gn H2 v' A' al bn := by
  obtain ⟨num, lat, w, fW, h1, h2, h3, h4, h5, h6, h7, h8⟩ := h
  refine ⟨num, lat, w, fW, Vx_fr f h1 (fun i hi e => by rcases hS i e with e | e | e <;> omega), Chn_fr f (fun x fs hx _ e => by
    rcases hS x e with e | e | e <;> omega) _ _ h2, Pot_mono h3 hk, ?_, Fr_at f h5 (fun e => by rcases hS _ e with e | e | e <;> omega), h6, hv.trans h7, ?_⟩
  · intro t ht
    rw [hA0]
    exact h4 t ht
  · rw [hA9]
    exact h8
def OffH (S : Nat → Prop) : Prop := ∀ a, S a → a < 16 ∨ (19 ≤ a ∧ a ≤ 31)
def OffR (S : Nat → Prop) : Prop := ∀ a, S a → a < 9 ∨ 16 ≤ a
theorem Hst_fr (hS : OffH S) (f : Fr H H2 S n m) (h : Hst k L Gn H v A) (hv : v' 6 = v 6) (h3 : A' 3 = A 3) (h4 : A' 4 = A 4) (h5 : A' 5 = A 5) (hk : k ≤ k') : Hst k' L Gn H2 v' A' := by
  obtain ⟨hd, nx, kb, sb, b1, b2, b3, b4, b5, b6, ⟨b7, b8⟩, b9, b10⟩ := h
  have off : ∀ x, ¬ (x < 16 ∨ (19 ≤ x ∧ x ≤ 31)) → ¬ S x := fun x hx e => hx (hS x e)
  have hc : ∀ x fs, 32 ≤ x → At H x (.inr (2, fs)) → ¬ S x := fun x fs hx _ => off x (by omega)
  refine ⟨hd, nx, kb, sb, Fr_at f b1 (off _ (by decide)), Fr_at f b2 (off _ (by decide)), Fr_at f b3 (off _ (by decide)), b4, b5, hv.trans b6, ⟨fun j a hj ha => ?_, b8⟩, fun i hi => ?_, fun i hi => ?_⟩
  · obtain ⟨c1, c2⟩ := b7 j a hj ha
    exact ⟨c1, BdS_fr f c2 fun i hi => off _ (by omega)⟩
  · obtain ⟨a, c1, c2⟩ := b9 i hi
    have h32 := (b7 ((nx + 8 - hd + i) % 8) a (by omega) (by unfold bdx; rw [if_pos (by omega)]; exact c1)).1
    exact ⟨a, c1, Snp_fr f c2 (fun i hi => off _ (by omega)) hc (fun t _ => by rw [h3]) hk⟩
  · rcases b10 i hi with ⟨c1, c2⟩ | ⟨a, c1, c2, c3⟩
    · exact .inl ⟨c1, by rw [h5]; exact c2⟩
    · have h32 := (b7 (8 + i) a (by omega) (by unfold bdx; rw [if_neg (by omega), show 8 + i - 8 = i by omega]; exact c1)).1
      exact .inr ⟨a, c1, by rw [h5]; exact c2, Snp_fr f c3 (fun i hi => off _ (by omega)) hc (fun t _ => by rw [h4]) hk⟩
theorem Rdr_fr (hS : OffR S) (f : Fr H H2 S n m) (h : Rdr H v A) (h9 : v' 9 = v 9) (h17 : v' 17 = v 17) (h6 : A' 6 = A 6) : Rdr H2 v' A' := by
  obtain ⟨fl, ea, fB, c, ⟨ln, er, kd, st, en, nu, b1⟩, b2, b3, b4, b5, b6, b7⟩ := h
  have off : ∀ x, ¬ (x < 9 ∨ 16 ≤ x) → ¬ S x := fun x hx e => hx (hS x e)
  refine ⟨fl, ea, fB, c, ⟨ln, er, kd, st, en, nu, Fr_at f b1 (off _ (by decide))⟩, Fr_at f b2 (off _ (by decide)), b3, h9.trans b4, h17.trans b5, ?_, BdS_fr f b7 fun i hi => off _ (by omega)⟩
  rw [h6]
  exact b6
end FRI
theorem wC_self {H2 : Hp} {P : Nat → Int64} {Q : Nat → Int32} (h7 : H2.1 7 = .inl (1, 32768, .inr (.inl P))) (h8 : H2.1 8 = .inl (0, 32768, .inl Q)) : H2 = wC H2 P Q := Prod.ext (funext fun x => by
  show H2.1 x = if x = 7 then _ else if x = 8 then _ else H2.1 x
  by_cases e : x = 7
  · rw [if_pos e, e, h7]
  · by_cases e8 : x = 8
    · rw [if_neg e, if_pos e8, e8, h8]
    · rw [if_neg e, if_neg e8]) rfl
theorem setR_of {H H1 : Hp} {v : Nat → Int32} {A : Nat → Nat → Int32} (h : H = setR v A H) (e : ∀ a, 20 ≤ a → a ≤ 30 → H1.1 a = H.1 a) : H1 = setR v A H1 := Prod.ext (funext fun x => by
  show H1.1 x = if x = 20 then _ else if 21 ≤ x ∧ x ≤ 30 then _ else H1.1 x
  by_cases h1 : x = 20
  · rw [if_pos h1, e x (by omega) (by omega)]
    have := congrArg (fun q : Hp => q.1 x) h
    exact this.trans (if_pos h1)
  · by_cases h2 : 21 ≤ x ∧ x ≤ 30
    · rw [if_neg h1, if_pos h2, e x (by omega) (by omega)]
      have := congrArg (fun q : Hp => q.1 x) h
      exact this.trans ((if_neg h1).trans (if_pos h2))
    · rw [if_neg h1, if_neg h2]) rfl
