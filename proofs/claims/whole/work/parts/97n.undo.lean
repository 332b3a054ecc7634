/-! undo answered alike -/
section UND
variable {k L : Nat} {H : Hp} {v : Nat → Int32} {A : Nat → Nat → Int32} {Gn : Nat → Nat → Nat} {al bn : Nat → Nat} {P : Nat → Int64} {Q : Nat → Int32}
theorem A_undo (I : Kn0 k H v A L Gn al bn P Q) : Agr k (m_L_undo 0 31 H) (m_X6_undo 20) := by
  obtain ⟨num, lat, w, V, C, pt, ha⟩ := K_b I
  obtain ⟨W, K, _, _⟩ := K_B I
  obtain ⟨e1, e2, c1, z, hL, s1, s2, b1, b2, b3, o, ho⟩ := id I
  obtain ⟨hd, nx, kb, sb, t16, t17, t18, hd8, nx8, h6, ⟨b7, b8⟩, b9, b10⟩ := id b2
  have g3 : gR H 5 0 3 = some 16 := at_gR V.2.1 rfl
  have g16 : gI H 1 16 0 = some (nI hd) := at_gI t16 rfl
  by_cases h0 : hd = 0
  · refine Agr_thr (t := 1) (x := 0) (e := 0) (cl := 7) I (thH I ?_) (fun h => rfl) (by decide) fun g hg => ?_
    · unfold m_X5_undo
      rw [g3, Option.bind_some, g16, Option.bind_some, iZ (by omega), if_pos h0]
    · unfold m_X6_undo
      simp only [e_jK]
      rw [rg6 hg, h6, Option.bind_some, iZ (by omega), if_pos h0, yp7 hg, Option.bind_some, rg7 hg, Option.bind_some]
      show (if (1 : Int32) ≤ 0 then _ else _) = _
      rw [if_neg (by decide)]
      rfl
  · obtain ⟨a, c1', num', al', b', lat', B', K', C', W', hn', hG', pt', row⟩ := b9 (hd - 1) (by omega)
    generalize hlx : (if nx = 0 then 7 else nx - 1) = lx
    have hl8 : lx < 8 := by rw [← hlx]; split <;> omega
    have hpos : (nx + 8 - hd + (hd - 1)) % 8 = lx := by rw [← hlx]; split <;> omega
    rw [hpos] at c1'
    have ej : bdx kb sb lx = some a := by unfold bdx; rw [if_pos hl8]; exact c1'
    have ha32 := (b7 lx a (by omega) ej).1
    obtain ⟨H2, x1, u16, B2, F⟩ := x_bringBack t16 t17 nx8 hd8 h0 hlx.symm V.1.2.2.1 c1' ha32 B'
    have oM : OffM (fun x => x = 16 ∨ InB 2 x) := fun x e => by
      rcases e with e | e
      · exact .inr (.inl e)
      · unfold InB at e
        exact .inl (by omega)
    have off : ∀ x, ¬ ((2 ≤ x ∧ x ≤ 6) ∨ x = 16 ∨ x = 17 ∨ x = 18 ∨ 32 ≤ x) → ¬ (x = 16 ∨ InB 2 x) := fun x hx e => hx (oM x e)
    have far : ∀ x, 17 ≤ x → ¬ (x = 16 ∨ InB 2 x) := fun x hx e => by
      rcases e with e | e
      · omega
      · unfold InB at e; omega
    have hc2 : ∀ x fs, 32 ≤ x → At H x (.inr (2, fs)) → ¬ (x = 16 ∨ InB 2 x) := fun x _ hx _ => far x (by omega)
    have h78 := congrArg (fun q : Hp => (q.1 7, q.1 8)) e2
    have g32 : gR H2 5 0 3 = some 16 := at_gR (Fr_at F V.2.1 (off _ (by decide))) rfl
    refine Agr_mk (y := nI (hd - 1)) (al := al') (bn := b') (fun {ρ} {r} => K_cv I) ?_ ⟨o, Fr_at F ho (off _ (by decide))⟩ (Nat.le_trans z F.1) (by have := F.2.1; omega) (by have := F.2.2.1; omega) (by omega) c1 ((F.2.2.2 7 (by omega) (off _ (by decide))).trans (congrArg Prod.fst h78)) ((F.2.2.2 8 (by omega) (off _ (by decide))).trans (congrArg Prod.snd h78)) e1 (fun a h1 h2 => F.2.2.2 a (by omega) (off _ (by omega))) fun g hg => ?_
    · unfold m_X5_undo
      rw [g3, Option.bind_some, g16, Option.bind_some, iZ (by omega), if_neg h0, Option.bind_some, K_g0 I, Option.bind_some, at_cv t16, x1, Option.bind_some, g32, Option.bind_some, at_gI (x := nI (hd - 1)) u16 rfl, Option.bind_some]
    · have es := y_sets (v := upd (upd v 7 (bI false)) 6 (nI (hd - 1))) (A := A) (i := 0) (j := 3) (p := 0) (q := 4136 * (hd - 1)) hg (by decide) (by decide) (by decide) (by decide) (by show 4136 * (hd - 1) + 4136 ≤ 33088; omega)
      have hA : ∀ j, j ≠ 0 → cpA A 0 0 3 (4136 * (hd - 1)) 4136 j = A j := fun j hj => if_neg hj
      have hal : AlF (cpA A 0 0 3 (4136 * (hd - 1)) 4136) al' := fun t ht => by
        show (if 0 ≤ t ∧ t < 0 + 4136 then A 3 (4136 * (hd - 1) + (t - 0)) else A 0 t) = _
        rw [if_pos ⟨by omega, by omega⟩]
        exact row t ht
      refine ⟨upd (upd v 7 (bI false)) 6 (nI (hd - 1)), cpA A 0 0 3 (4136 * (hd - 1)) 4136, ?_, rfl, Brd_mk b1 F oM B2 K' (Chn_fr F hc2 _ _ C') W' hn' hG' (Pot_mono pt' (Nat.le_succ k)) hal rfl (hA _ (by decide)), ?_, Rdr_fr (fun a e => by have := oM a e; omega) F b3 rfl rfl (hA _ (by decide))⟩
      · unfold m_X6_undo
        simp only [e_jK]
        rw [rg6 hg, h6, Option.bind_some, iZ (by omega), if_neg h0, yp7 hg, Option.bind_some, rg7 hg, Option.bind_some]
        show (if (0 : Int32) ≤ 0 then _ else _) = _
        rw [if_pos (by decide), rg6 hg, Option.bind_some]
        show (pV (setR (upd v 7 (bI false)) A g) 6 20 6 (.int (v 6 - (1 : Int32)))).bind _ = _
        rw [h6, show nI hd - (1 : Int32) = nI (hd - 1) from pk_sub (a := hd) (b := 1) (by omega), yp6 hg, Option.bind_some, r_a hg, Option.bind_some, r_24 hg, Option.bind_some, rg6 hg, Option.bind_some]
        show (m_X6_sets 21 (nI 0) 24 ((4136 : Int32) * nI (hd - 1)) _).bind _ = _
        rw [show (4136 : Int32) * nI (hd - 1) = nI (4136 * (hd - 1)) from pk_mul 4136 (hd - 1)]
        rw [show m_X6_sets 21 (nI 0) 24 (nI (4136 * (hd - 1))) (setR (upd (upd v 7 (bI false)) 6 (nI (hd - 1))) A g) = _ from es, Option.bind_some, rg6 hg, Option.bind_some]
        rfl
      · refine ⟨hd - 1, lx, kb, sb, u16, Fr_at F t17 (far _ (by decide)), Fr_at F t18 (far _ (by decide)), by omega, hl8, rfl, ⟨fun j a' hj e => ?_, b8⟩, fun i hi => ?_, fun i hi => ?_⟩
        · have := b7 j a' hj e
          exact ⟨this.1, BdS_fr F this.2 fun i hi => far _ (by omega)⟩
        · obtain ⟨a', d1, d2⟩ := b9 i (by omega)
          have hp : (lx + 8 - (hd - 1) + i) % 8 = (nx + 8 - hd + i) % 8 := by rw [← hlx]; split <;> omega
          have h32 := (b7 ((nx + 8 - hd + i) % 8) a' (by omega) (by unfold bdx; rw [if_pos (by omega)]; exact d1)).1
          exact ⟨a', by rw [hp]; exact d1, Snp_fr F d2 (fun i hi => far _ (by omega)) hc2 (fun t _ => rfl) (Nat.le_succ k)⟩
        · rcases b10 i hi with ⟨d1, d2⟩ | ⟨a', d1, d2, d3⟩
          · exact .inl ⟨d1, d2⟩
          · have h32 := (b7 (8 + i) a' (by omega) (by unfold bdx; rw [if_neg (by omega), show 8 + i - 8 = i by omega]; exact d1)).1
            exact .inr ⟨a', d1, d2, Snp_fr F d3 (fun i hi => far _ (by omega)) hc2 (fun t _ => rfl) (Nat.le_succ k)⟩
end UND
