/-! the law, call by call -/
def PZ (r : Option (Bool × Hp)) : Prop := ∃ hF : Hp, r = some (true, hF) ∧ hF.2.1 ≤ 601024 ∧ hF.2.2 ≤ 7293034
theorem sw_all {ρ : Type} {P : Option ρ → Prop} {x : Int32} {lo : Int} {rs : List (Option ρ)} {d : Option ρ} (h : ∀ r ∈ rs, P r) (hd : P d) : P (sw x lo rs d) := by
  unfold sw
  by_cases hx : x.toInt < lo
  · rw [if_pos hx]
    exact hd
  · rw [if_neg hx, List.getD_eq_getElem?_getD]
    cases e : rs[(x.toInt - lo).toNat]? with
    | none => exact hd
    | some r => exact h r (List.mem_of_getElem? e)
theorem fm_c {α : Type} {P : α → Prop} {a : α} {l : List α} (h : P a) (t : ∀ r ∈ l, P r) : ∀ r ∈ a :: l, P r := fun r hr => by
  rcases List.mem_cons.mp hr with e | e
  · rw [e]
    exact h
  · exact t r e
theorem fm_0 {α : Type} {P : α → Prop} : ∀ r ∈ ([] : List α), P r := fun r h => by cases h
theorem lwA {k : Nat} {cls : Option (Int32 × Hp)} {refm : Hp → Option (Int32 × Hp)} (K : Hp → Option (Bool × Hp)) (a : Agr k cls refm) (hK : ∀ H2, InvP (k + 1) H2 → PZ (K H2)) : PZ (b2 cls fun t h => cv h 6 20 <| b2 (refm h) fun x h2 => lwT t K x h2) := by
  obtain ⟨t, H1, x, H2, rfl, hcv, er, hl, hI⟩ := a
  rw [e_b2, hcv, er, e_b2, hl]
  exact hK H2 hI
theorem lwD {k : Nat} {H : Hp} {cls : Option (Int32 × Hp)} {refm : Hp → Option (Int32 × Hp)} (K : Hp → Option (Bool × Hp)) (hcv : ∀ {ρ : Type} {r : Option ρ}, cv H 5 0 r = r) (a : AgD k cls refm) (hK : ∀ H2, InvP (k + 1) H2 → PZ (K H2)) : PZ (cv H 5 0 <| b2 cls fun x h => cv h 6 20 <| b2 (refm h) fun y h2 => if x = y then K h2 else some (false, h2)) := by
  obtain ⟨x, H1, H2, rfl, hc, er, hI⟩ := a
  rw [hcv, e_b2, hc, er, e_b2, if_pos rfl]
  exact hK H2 hI
theorem InvP_s {k : Nat} {H : Hp} (I : InvP k H) : InvP (k + 1) H := by
  obtain ⟨v, A, L, Gn, al, bn, P, Q, e1, e2, c1, z, hL, s1, s2, b1, b2, b3, ho⟩ := I
  have off : ∀ a : Nat, (fun _ : Nat => False) a → False := fun _ e => e
  exact ⟨v, A, L, Gn, al, bn, P, Q, e1, e2, c1, z, by omega, by omega, by omega, Brd_fr (S := fun _ => False) (fun a e => False.elim e) (Fr_refl (S := fun _ => False)) b1 rfl rfl rfl (Nat.le_succ k), Hst_fr (S := fun _ => False) (fun a e => False.elim e) (Fr_refl (S := fun _ => False)) b2 rfl rfl rfl rfl (Nat.le_succ k), b3, ho⟩
theorem f64_s : ∀ s, s < 10 → ∀ p, p < 10 → p ≠ 0 → n64 (FP.f2d (FP.fdiv (FP.i2f (nI s)) (FP.i2f (nI p)))) = some (FP.f2d (FP.fdiv (FP.i2f (nI s)) (FP.i2f (nI p)))) ∧ Op.cmpValue (FP.dcmp (FP.f2d (FP.fdiv (FP.i2f (nI s)) (FP.i2f (nI p)))) (FP.f2d (FP.fdiv (FP.i2f (nI s)) (FP.i2f (nI p))))) .l = 0 := by decide +kernel
theorem f64_0 : n64 (FP.f2d FP.fconst0) = some (FP.f2d FP.fconst0) ∧ Op.cmpValue (FP.dcmp (FP.f2d FP.fconst0) (FP.f2d FP.fconst0)) .l = 0 := by decide +kernel
theorem f64_m {al : Nat → Nat} (R : Rg al) : n64 (FP.f2d (meanN al)) = some (FP.f2d (meanN al)) ∧ Op.cmpValue (FP.dcmp (FP.f2d (meanN al)) (FP.f2d (meanN al))) .l = 0 := by
  have hnp := np_le (nr := nrf al) (set := fre al)
  have hs := mvs_le R (np (nrf al) (fre al))
  unfold meanN
  by_cases h0 : np (nrf al) (fre al) = 0
  · rw [if_pos h0]
    exact f64_0
  · rw [if_neg h0]
    exact f64_s _ (by omega) _ (by omega) h0
theorem sub6 : ∀ N, N < 6 → (Int32.ofNat N - (6 : Int32)).toInt < 0 := by decide +kernel
theorem sub_6 (m : Nat) : Int32.ofNat (m + 6) - (6 : Int32) = nI m := by
  have e : nI m + nI 6 = nI (m + 6) := nI_add m 6
  have e2 : Int32.ofNat (m + 6) = nI m + (6 : Int32) := e.symm
  rw [e2, Int32.add_sub_cancel]
theorem lw_in {N k : Nat} (h : 6 * k + 6 ≤ N) (hN : N ≤ 3072) : ¬ Int32.ofNat N - (6 : Int32) < nI (6 * k) := by
  obtain ⟨m, rfl⟩ : ∃ m, N = m + 6 := ⟨N - 6, by omega⟩
  rw [sub_6]
  exact nI_nlt (by omega) (by omega)
theorem lw_out {N k : Nat} (h : N < 6 * k + 6) (hk : k ≤ 512) : Int32.ofNat N - (6 : Int32) < nI (6 * k) := by
  by_cases h6 : N < 6
  · have := sub6 N h6
    rw [Int32.lt_iff_toInt_lt, nI_toInt (by omega)]
    omega
  · obtain ⟨m, rfl⟩ : ∃ m, N = m + 6 := ⟨N - 6, by omega⟩
    rw [sub_6]
    exact nI_lt (by omega) (by omega)
theorem xg_at {G : Gx} {i : Nat} (h : i < G.2.2.2.2.1) (hN : G.2.2.2.2.1 ≤ 3072) : xg G (nI i) = some (G.2.2.2.2.2 i) := by
  unfold xg
  rw [if_neg (nI_in h (by omega)), nI_clamp (by omega)]
/-- one call -/
theorem lw_step (G : Gx) (k f : Nat) (H : Hp) (hN : G.2.2.2.2.1 ≤ 3072) (hk : 6 * k + 6 ≤ G.2.2.2.2.1) (I : InvP k H) (K0 : Hp → Option (Bool × Hp)) (hK : ∀ H2, InvP (k + 1) H2 → PZ (m_L_law_L23 G 0 20 31 K0 f (nI (6 * (k + 1))) H2)) : PZ (m_L_law_L23 G 0 20 31 K0 (f + 1) (nI (6 * k)) H) := by
  have I' := I
  obtain ⟨v, A, L, Gn, al, bn, P, Q, I0⟩ := I
  have I : Kn0 k H v A L Gn al bn P Q := I0
  have hk5 : k ≤ 512 := by omega
  have x0 : xg G (nI (6 * k)) = some (G.2.2.2.2.2 (6 * k)) := xg_at (by omega) hN
  have xj : ∀ j, j < 6 → xg G (nI (6 * k) + nI j) = some (G.2.2.2.2.2 (6 * k + j)) := fun j hj => by
    rw [nI_add]
    exact xg_at (by omega) hN
  have x1 : xg G (nI (6 * k) + (1 : Int32)) = some (G.2.2.2.2.2 (6 * k + 1)) := xj 1 (by decide)
  have x2 : xg G (nI (6 * k) + (2 : Int32)) = some (G.2.2.2.2.2 (6 * k + 2)) := xj 2 (by decide)
  have x3 : xg G (nI (6 * k) + (3 : Int32)) = some (G.2.2.2.2.2 (6 * k + 3)) := xj 3 (by decide)
  have x4 : xg G (nI (6 * k) + (4 : Int32)) = some (G.2.2.2.2.2 (6 * k + 4)) := xj 4 (by decide)
  have x5 : xg G (nI (6 * k) + (5 : Int32)) = some (G.2.2.2.2.2 (6 * k + 5)) := xj 5 (by decide)
  have e6 : nI (6 * k) + (6 : Int32) = nI (6 * (k + 1)) := nI_add (6 * k) 6
  have cv0 : ∀ {ρ : Type} {r : Option ρ}, cv H 5 0 r = r := fun {ρ} {r} => K_cv I
  rw [m_L_law_L23, if_neg (lw_in hk hN), x0, Option.bind_some]
  simp only [e_jK, e_nm, e6]
  generalize G.2.2.2.2.2 (6 * k + 1) = y1 at x1
  generalize G.2.2.2.2.2 (6 * k + 2) = y2 at x2
  generalize G.2.2.2.2.2 (6 * k + 3) = y3 at x3
  generalize G.2.2.2.2.2 (6 * k + 4) = y4 at x4
  generalize G.2.2.2.2.2 (6 * k + 5) = y5 at x5
  refine sw_all (fm_c ?_ (fm_c ?_ (fm_c ?_ (fm_c ?_ (fm_c ?_ (fm_c ?_ (fm_c ?_ (fm_c ?_ (fm_c ?_ (fm_c ?_ (fm_c ?_ (fm_c ?_ (fm_c ?_ (fm_c ?_ (fm_c ?_ (fm_c ?_ (fm_c ?_ (fm_c ?_ (fm_c ?_ (fm_c ?_ (fm_c ?_ (fm_c ?_ (fm_c ?_ (fm_c ?_ (fm_c ?_ (fm_c ?_ (fm_c ?_ (fm_c ?_ fm_0)))))))))))))))))))))))))))) ?_
  · simp only [x1, x2, x3, x4, x5, Option.bind_some]
    exact lwA (fun H2 => m_L_law_L23 G 0 20 31 K0 f (nI (6 * (k + 1))) H2) (A_append I y1 y2 y3 y4 y5) hK
  · simp only [x1, Option.bind_some]
    exact lwA (fun H2 => m_L_law_L23 G 0 20 31 K0 f (nI (6 * (k + 1))) H2) (A_load hk5 I y1) hK
  · obtain ⟨x, H2, q1, q2, q3, q4⟩ := A_errPos I
    rw [cv0, q1, Option.bind_some, q2, q3, e_b2, if_pos rfl]
    exact hK H2 q4
  · simp only [x1, Option.bind_some]
    exact lwA (fun H2 => m_L_law_L23 G 0 20 31 K0 f (nI (6 * (k + 1))) H2) (A_count I y1) hK
  · simp only [x1, x2, Option.bind_some]
    exact lwA (fun H2 => m_L_law_L23 G 0 20 31 K0 f (nI (6 * (k + 1))) H2) (A_vertex I y1 y2) hK
  · simp only [x1, x2, Option.bind_some]
    exact lwA (fun H2 => m_L_law_L23 G 0 20 31 K0 f (nI (6 * (k + 1))) H2) (A_reason I y1 y2) hK
  · simp only [x1, x2, Option.bind_some]
    exact lwA (fun H2 => m_L_law_L23 G 0 20 31 K0 f (nI (6 * (k + 1))) H2) (A_part I y1 y2) hK
  · exact lwD (fun H2 => m_L_law_L23 G 0 20 31 K0 f (nI (6 * (k + 1))) H2) (fun {ρ} {r} => K_cv I) (A_value I) hK
  · simp only [x1, x2, Option.bind_some]
    exact lwA (fun H2 => m_L_law_L23 G 0 20 31 K0 f (nI (6 * (k + 1))) H2) (A_valueIf I y1 y2) hK
  · exact lwD (fun H2 => m_L_law_L23 G 0 20 31 K0 f (nI (6 * (k + 1))) H2) (fun {ρ} {r} => K_cv I) (A_winMoves I) hK
  · exact lwA (fun H2 => m_L_law_L23 G 0 20 31 K0 f (nI (6 * (k + 1))) H2) (A_best I) hK
  · exact lwD (fun H2 => m_L_law_L23 G 0 20 31 K0 f (nI (6 * (k + 1))) H2) (fun {ρ} {r} => K_cv I) (A_longest I) hK
  · exact lwD (fun H2 => m_L_law_L23 G 0 20 31 K0 f (nI (6 * (k + 1))) H2) (fun {ρ} {r} => K_cv I) (A_shortest I) hK
  · obtain ⟨num, lat, w, V, C, p, a⟩ := K_b I
    obtain ⟨x, H1, H2, q1, q2, q3, q4⟩ := A_mean I
    obtain ⟨P', Q', -, q5⟩ := ok_W (m := m_X5_meanValue 0) I (c_mean V I.2.2.1)
    have q6 : x = meanN al := congrArg Prod.fst (Option.some.inj (q1.symm.trans q5))
    obtain ⟨f1, f2⟩ := f64_m V.1.2.2.2.1
    rw [← q6] at f1 f2
    rw [cv0, q1, e_b2, f1, Option.bind_some, q2, q3, e_b2, f1, Option.bind_some, if_pos f2]
    exact hK H2 q4
  · simp only [x1, Option.bind_some]
    exact lwA (fun H2 => m_L_law_L23 G 0 20 31 K0 f (nI (6 * (k + 1))) H2) (A_winCol I y1) hK
  · simp only [x1, Option.bind_some]
    exact lwA (fun H2 => m_L_law_L23 G 0 20 31 K0 f (nI (6 * (k + 1))) H2) (A_falls I y1) hK
  · simp only [x1, Option.bind_some]
    exact lwA (fun H2 => m_L_law_L23 G 0 20 31 K0 f (nI (6 * (k + 1))) H2) (A_wo I y1) hK
  · simp only [x1, x2, Option.bind_some]
    exact lwA (fun H2 => m_L_law_L23 G 0 20 31 K0 f (nI (6 * (k + 1))) H2) (A_lay hk5 I y1 y2) hK
  · exact lwA (fun H2 => m_L_law_L23 G 0 20 31 K0 f (nI (6 * (k + 1))) H2) (A_pass hk5 I) hK
  · simp only [x1, Option.bind_some]
    exact lwA (fun H2 => m_L_law_L23 G 0 20 31 K0 f (nI (6 * (k + 1))) H2) (A_playOut hk5 I y1) hK
  · simp only [x1, Option.bind_some]
    exact lwA (fun H2 => m_L_law_L23 G 0 20 31 K0 f (nI (6 * (k + 1))) H2) (A_setP hk5 I y1) hK
  · simp only [x1, x2, Option.bind_some]
    exact lwA (fun H2 => m_L_law_L23 G 0 20 31 K0 f (nI (6 * (k + 1))) H2) (A_move I y1 y2) hK
  · simp only [x1, x2, Option.bind_some]
    exact lwA (fun H2 => m_L_law_L23 G 0 20 31 K0 f (nI (6 * (k + 1))) H2) (A_account I y1 y2) hK
  · exact lwD (fun H2 => m_L_law_L23 G 0 20 31 K0 f (nI (6 * (k + 1))) H2) (fun {ρ} {r} => K_cv I) (A_write I) hK
  · simp only [x1, Option.bind_some]
    exact lwA (fun H2 => m_L_law_L23 G 0 20 31 K0 f (nI (6 * (k + 1))) H2) (A_written I y1) hK
  · exact lwA (fun H2 => m_L_law_L23 G 0 20 31 K0 f (nI (6 * (k + 1))) H2) (A_undo I) hK
  · simp only [x1, Option.bind_some]
    exact lwA (fun H2 => m_L_law_L23 G 0 20 31 K0 f (nI (6 * (k + 1))) H2) (A_save I y1) hK
  · simp only [x1, Option.bind_some]
    exact lwA (fun H2 => m_L_law_L23 G 0 20 31 K0 f (nI (6 * (k + 1))) H2) (A_restore I y1) hK
  · exact hK H (InvP_s I')
/-- all calls -/
theorem lw_run (G : Gx) (hN : G.2.2.2.2.1 ≤ 3072) : ∀ n k f H, 513 ≤ n + k → k ≤ 512 → n < f → InvP k H → PZ (m_L_law_L23 G 0 20 31 (fun h13 => some (true, h13)) f (nI (6 * k)) H)
  | 0, k, f, H, h1, h2, h3, I => absurd h1 (by omega)
  | n + 1, k, f, H, h1, h2, h3, I => by
    obtain ⟨f, rfl⟩ : ∃ j, f = j + 1 := ⟨f - 1, by omega⟩
    by_cases hk : 6 * k + 6 ≤ G.2.2.2.2.1
    · exact lw_step G k f H hN hk I _ fun H2 I2 => lw_run G hN n (k + 1) f H2 (by omega) (by omega) (by omega) I2
    · obtain ⟨v, A, L, Gn, al, bn, P, Q, e1, e2, c1, z, hL, s1, s2, -⟩ := I
      rw [m_L_law_L23, if_pos (lw_out (by omega) h2)]
      exact ⟨H, rfl, by omega, by omega⟩
