/-! a change of the board answered alike -/
section MKA
variable {k L num' : Nat} {H H2 : Hp} {v v' : Nat → Int32} {A A' : Nat → Nat → Int32} {Gn : Nat → Nat → Nat} {al bn al' bn' : Nat → Nat} {P : Nat → Int64} {Q : Nat → Int32} {lat' : Option Nat} {S : Nat → Prop} {n m : Nat}
/-- the cells that a change may touch -/
def OffM (S : Nat → Prop) : Prop := ∀ x, S x → (2 ≤ x ∧ x ≤ 6) ∨ x = 16 ∨ x = 17 ∨ x = 18 ∨ 32 ≤ x
theorem Brd_mk (hb : Brd k L Gn H v A al bn) (F : Fr H H2 S n m) (hs : OffM S) (B' : BdH H2 2 num' al' bn' lat') (K' : Bk al' bn') (C' : Chn H2 al' (al' 3) lat') (W' : WfB al') (hn' : num' ≤ L) (hG' : Gn num' = nrf al') (pt' : Pot (k + 1) al') (ha' : AlF A' al') (hv : v' 21 = v 21) (hA9 : A' 9 = A 9) : Brd (k + 1) L Gn H2 v' A' al' bn' := by
  obtain ⟨num, lat, w, fW, ⟨⟨q1, q2, q3, q4, q5, q6, q7⟩, q8, q9⟩, C, pt, a, h19, hw, h21, hf⟩ := hb
  have off : ∀ x, ¬ ((2 ≤ x ∧ x ≤ 6) ∨ x = 16 ∨ x = 17 ∨ x = 18 ∨ 32 ≤ x) → ¬ S x := fun x hx e => hx (hs x e)
  exact ⟨num', lat', w, fW, ⟨⟨Nat.le_trans q1 F.1, Fr_at F q2 (off _ (by decide)), B', W'.1, hn', q6, hG'⟩, Fr_at F q8 (off _ (by decide)), W'.2.1, K', W'.2.2⟩, C', pt', ha', Fr_at F h19 (off _ (by decide)), hw, hv.trans h21, by rw [hA9]; exact hf⟩
theorem Agr_mk {y : Int32} {call : Option ((Int32 ⊕ Nat) × Hp)} {gx : Nat → Hp → Option (Int32 × Hp)} {refm : Hp → Option (Int32 × Hp)} (hcv : ∀ {ρ : Type} {r : Option ρ}, cv H 5 0 r = r) (hc : call = some (.inl y, H2)) (h31 : ∃ o, At H2 31 (.inl (1, 1, .inr (.inl o)))) (z : 32 ≤ H2.2.1) (s1 : H2.2.1 ≤ 32 + 200 * (k + 1)) (s2 : H2.2.2 ≤ 300000 + 2000 * (k + 1)) (hL : L ≤ k + 1) (hCK : CKs P Q L Gn) (h7 : H2.1 7 = .inl (1, 32768, .inr (.inl P))) (h8 : H2.1 8 = .inl (0, 32768, .inl Q)) (e1 : H = setR v A H) (eR : ∀ a, 20 ≤ a → a ≤ 30 → H2.1 a = H.1 a)
    (hr : ∀ g : Hp, 31 ≤ g.2.1 → ∃ v' A', refm (setR v A g) = some (y, setR v' A' g) ∧ v' 7 = 0 ∧ Brd (k + 1) L Gn H2 v' A' al bn ∧ Hst (k + 1) L Gn H2 v' A' ∧ Rdr H2 v' A') : Agr k (mLq H call gx) refm := by
  obtain ⟨o, ho⟩ := h31
  generalize hH3 : hset H2 31 (.inl (1, 1, .inr (.inl (vp_updL o 0 (Int32.toInt64 y))))) = H3
  have f : Fr H2 H3 (fun a => a = 31) 0 0 := by rw [← hH3]; exact Fr_set rfl
  have z1 : 31 ≤ H3.2.1 := by have := f.1; omega
  have eR3 : H3 = setR v A H3 := setR_of e1 fun a h1 h2 => (f.2.2.2 a (by omega) (fun e => by have : a = 31 := e; omega)).trans (eR a h1 h2)
  have a31 : At H3 31 (.inl (1, 1, .inr (.inl (vp_updL o 0 (Int32.toInt64 y))))) := by rw [← hH3]; exact at_set_eq ho
  obtain ⟨v', A', er, hv7, b1, b2, b3⟩ := hr H3 z1
  have F : Fr H2 (setR v' A' H3) SQy 0 0 := Fr_trans (n := 0) (m := 0) (Fr_mono f (T := SQy) (fun a e => .inr (.inr (by have : a = 31 := e; omega))) (Nat.le_refl _) (Nat.le_refl _)) (setR_fr fun a h1 h2 => .inr (.inr (by omega)))
  have g7 : (setR v' A' H3).1 7 = H2.1 7 := by rw [← hH3]; rfl
  have g8 : (setR v' A' H3).1 8 = H2.1 8 := by rw [← hH3]; rfl
  refine ⟨0, H3, y, setR v' A' H3, ?_, fun {ρ} {r} => by rw [eR3]; exact r_cv z1, (congrArg refm eR3).trans er, fun K => lwT_ok z1 hv7 (fun _ => ⟨⟨a31.1, a31.2⟩, rfl⟩) K, v', A', L, Gn, al, bn, P, Q, setR_setR.symm, wC_self (g7.trans h7) (g8.trans h8), hCK, Nat.le_trans z F.1, hL, Nat.le_trans F.2.1 (by omega), Nat.le_trans F.2.2.1 (by omega), Brd_fr SQ_off F b1 rfl rfl rfl (Nat.le_refl _), Hst_fr SQ_h F b2 rfl rfl rfl rfl (Nat.le_refl _), Rdr_fr SQ_r F b3 rfl rfl rfl, _, a31.1, a31.2⟩
  unfold mLq
  rw [hcv, hc]
  show (sL H2 1 31 (nI 0) (Int32.toInt64 y)).bind _ = _
  rw [at_sL ho (by decide) (by decide), Option.bind_some, hH3]
/-- keep, then a change of the board within cells 2 to 6 and new cells -/
theorem Agr_keep {y : Int32} {call : Option ((Int32 ⊕ Nat) × Hp)} {gx : Nat → Hp → Option (Int32 × Hp)} {refm : Hp → Option (Int32 × Hp)} (I : Kn0 k H v A L Gn al bn P Q)
    (hc : ∀ H1 S num lat, m_X1_keep 16 2 H = some H1 → Fr H H1 S 5 29 → OffM S → (∀ x, S x → ¬ (2 ≤ x ∧ x ≤ 6)) → (∀ x fs, 32 ≤ x → At H x (.inr (2, fs)) → ¬ S x) → BdH H1 2 num al bn lat → Chn H1 al (al 3) lat → 32 ≤ H1.2.1 → num ≤ L → Gn num = nrf al →
      ∃ H2 n m num' lat', call = some (.inl y, H2) ∧ Fr H1 H2 (InB 2) n m ∧ n ≤ 100 ∧ m ≤ 1000 ∧ BdH H2 2 num' al' bn' lat' ∧ Chn H2 al' (al' 3) lat' ∧ num' ≤ L ∧ Gn num' = nrf al')
    (K' : Bk al' bn') (W' : WfB al') (pt' : Pot (k + 1) al')
    (hr : ∀ (g : Hp) (hd : Nat), 31 ≤ g.2.1 → hd ≤ 8 → v 6 = nI hd → ∃ v' A', refm (setR v A g) = some (y, setR v' A' g) ∧ v' 7 = 0 ∧ v' 6 = nI (min (hd + 1) 8) ∧ v' 9 = v 9 ∧ v' 17 = v 17 ∧ v' 21 = v 21 ∧ (∀ j, j ≠ 0 → j ≠ 3 → j ≠ 7 → j ≠ 8 → A' j = A j) ∧ AlF A' al' ∧ (∀ i t, i < min (hd + 1) 8 → t < 4136 → A' 3 (4136 * i + t) = if i + 1 = min (hd + 1) 8 then A 0 t else A 3 (4136 * (i + (if hd = 8 then 1 else 0)) + t))) : Agr k (mLq H call gx) refm := by
  obtain ⟨e1, e2, c1, z, hL, s1, s2, b1, b2, b3, o, ho⟩ := id I
  obtain ⟨num, lat, w, V, C, pt, ha⟩ := K_b I
  obtain ⟨H1, S, hd, k1, F1, S1, S2, hd8, h6, hh⟩ := X_keep b2 z V.1.2.2.1 V.2.2.2.1 C ⟨V.1.2.2.2.1, V.2.2.1, V.2.2.2.2⟩ V.1.2.2.2.2.1 V.1.2.2.2.2.2.2 pt ha
  have oM : OffM S := fun x e => by have := S1 x e; omega
  obtain ⟨H2, n, m, num', lat', hcall, F2, hn, hm, B', C', hn', hG'⟩ := hc H1 S num lat k1 F1 oM (fun x e => by have := S1 x e; omega) S2 (Fr_bd F1 V.1.2.2.1 fun i hi e => by have := S1 _ e; omega) (Chn_fr F1 S2 _ _ C) (Nat.le_trans z F1.1) V.1.2.2.2.2.1 V.1.2.2.2.2.2.2
  have F : Fr H H2 (fun x => S x ∨ InB 2 x) (5 + n) (29 + m) := Fr_trans (Fr_mono F1 (fun a e => .inl e) (Nat.le_refl _) (Nat.le_refl _)) (Fr_mono F2 (fun a e => .inr e) (Nat.le_refl _) (Nat.le_refl _))
  have oF : OffM (fun x => S x ∨ InB 2 x) := fun x e => by
    rcases e with e | e
    · exact oM x e
    · unfold InB at e
      exact .inl (by omega)
  have off : ∀ x, ¬ ((2 ≤ x ∧ x ≤ 6) ∨ x = 16 ∨ x = 17 ∨ x = 18 ∨ 32 ≤ x) → ¬ (S x ∨ InB 2 x) := fun x hx e => hx (oF x e)
  have h78 := congrArg (fun q : Hp => (q.1 7, q.1 8)) e2
  refine Agr_mk (fun {ρ} {r} => K_cv I) hcall ⟨o, Fr_at F ho (off _ (by decide))⟩ (Nat.le_trans z F.1) ?_ ?_ (by omega) c1 ((F.2.2.2 7 (by omega) (off _ (by decide))).trans (congrArg Prod.fst h78)) ((F.2.2.2 8 (by omega) (off _ (by decide))).trans (congrArg Prod.snd h78)) e1 (fun a h1 h2 => F.2.2.2 a (by omega) (off _ (by omega))) (al := al') (bn := bn') fun g hg => ?_
  · have := F.2.1; omega
  · have := F.2.2.1; omega
  · obtain ⟨v', A', r1, r2, r3, r4, r5, r6, r7, r8, r9⟩ := hr g hd hg hd8 h6
    refine ⟨v', A', r1, r2, Brd_mk b1 F oF B' K' C' W' hn' hG' pt' r8 r6 (r7 _ (by decide) (by decide) (by decide) (by decide)), ?_, Rdr_fr (fun a e => by have := oF a e; omega) F b3 r4 r5 (r7 _ (by decide) (by decide) (by decide) (by decide))⟩
    have hst := hh v' A' r3 (r7 _ (by decide) (by decide) (by decide) (by decide)) (r7 _ (by decide) (by decide) (by decide) (by decide)) r9
    exact Hst_fr (fun a e => by unfold InB at e; omega) F2 hst rfl rfl rfl rfl (Nat.le_succ k)
end MKA
