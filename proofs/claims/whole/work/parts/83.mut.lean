/-! the class's changes of boards -/
theorem e_nw {ρ : Type} (h : Hp) (c : Ac) (n : Nat) (f : Nat → Hp → Option ρ) : nw h c n f = f h.2.1 (hpush h c n) := (rfl)
theorem e_nzN {ρ : Type} (r1 : Option ρ) (r2 : Nat → Option ρ) : nz none r1 r2 = r1 := (rfl)
theorem e_nzS {ρ : Type} (a : Nat) (r1 : Option ρ) (r2 : Nat → Option ρ) : nz (some a) r1 r2 = r2 a := (rfl)
theorem x_add {h : Hp} {p n i : Nat} {f : Nat → Int32} {x : Int32} (A : At h p (.inl (0, n, .inl f))) (hi : i < n) (hn : n < 1000) : m_X5_add p (nI i) x h = some (hset h p (.inl (0, n, .inl (upd f i (f i ||| x))))) := by
  unfold m_X5_add
  rw [iNeg (by omega), at_aN A, Option.bind_some, iNle hi (by omega), at_aI A hi (by omega), Option.bind_some, at_sI A hi (by omega), Option.bind_some, nar_0]
/-- the numbers of a new board -/
def al0 : Nat → Nat := fun k => if k = 0 ∨ k = 1 ∨ k = 4 then 1 else 0
abbrev bo0 : Ac := .inr (0, [.int 0, .int 0, .int 0, .int 0, .int 0, .int 0, .null, .null, .null, .null, .null])
theorem x_newB (h : Hp) : ∃ h', m_X0_init h.2.1 (hpush h bo0 11) = some h' ∧ BdH h' h.2.1 0 al0 (fun _ => 0) none ∧ Fr h h' (fun _ => False) 5 29 := by
  generalize hH1 : hpush h bo0 11 = H1
  have A1 : At H1 h.2.1 bo0 := by rw [← hH1]; exact at_new
  have z1 : H1.2.1 = h.2.1 + 1 := by rw [← hH1]; rfl
  have F1 : Fr h H1 (fun _ => False) 1 11 := by rw [← hH1]; exact Fr_push
  generalize ho : h.2.1 = o at A1 z1 ⊢
  have oFr : ∀ {h' : Hp} {n m : Nat} {c : Ac}, Fr h h' (fun _ => False) n m → Fr h (hset h' o c) (fun _ => False) n m := fun {h' n m c} f => ⟨f.1, f.2.1, f.2.2.1, fun a ha hs => (if_neg (by omega)).trans (f.2.2.2 a ha hs)⟩
  unfold m_X0_init
  rw [e_nw]
  have A2 : At (hpush H1 (.inl (0, 9, .inl fun _ => 0)) 9) o bo0 := at_push A1
  rw [at_pV A2 (Nat.le_of_ble_eq_true rfl), Option.bind_some, z1]
  generalize hH2 : hset (hpush H1 (.inl (0, 9, .inl fun _ => 0)) 9) o _ = H2
  have B2 : At H2 o (.inr (0, [.int 0, .int 0, .int 0, .int 0, .int 0, .int 0, .null, .ref (o + 1), .null, .null, .null])) := by rw [← hH2]; exact at_set_eq A2
  have z2 : H2.2.1 = o + 2 := by rw [← hH2]; show H1.2.1 + 1 = _; omega
  have r2 : At H2 (o + 1) (.inl (0, 9, .inl fun _ => 0)) := by
    rw [← hH2]
    refine at_set_ne ?_ (by omega)
    rw [← z1]
    exact at_new
  have F2 : Fr h H2 (fun _ => False) 2 20 := by rw [← hH2]; exact oFr (Fr_trans F1 Fr_push)
  rw [e_nw]
  have A3 := at_push (c' := (.inl (0, 3, .inl fun _ => 0) : Ac)) (n := 3) B2
  rw [at_pV A3 (Nat.le_of_ble_eq_true rfl), Option.bind_some, z2]
  generalize hH3 : hset (hpush H2 (.inl (0, 3, .inl fun _ => 0)) 3) o _ = H3
  have B3 : At H3 o (.inr (0, [.int 0, .int 0, .int 0, .int 0, .int 0, .int 0, .null, .ref (o + 1), .ref (o + 2), .null, .null])) := by rw [← hH3]; exact at_set_eq A3
  have z3 : H3.2.1 = o + 3 := by rw [← hH3]; show H2.2.1 + 1 = _; omega
  have r2 : At H3 (o + 1) (.inl (0, 9, .inl fun _ => 0)) := by rw [← hH3]; exact at_set_ne (at_push r2) (by omega)
  have r3 : At H3 (o + 2) (.inl (0, 3, .inl fun _ => 0)) := by
    rw [← hH3]
    refine at_set_ne ?_ (by omega)
    rw [← z2]
    exact at_new
  have F3 : Fr h H3 (fun _ => False) 3 23 := by rw [← hH3]; exact oFr (Fr_trans F2 Fr_push)
  rw [e_nw]
  have A4 := at_push (c' := (.inl (0, 3, .inl fun _ => 0) : Ac)) (n := 3) B3
  rw [at_pV A4 (Nat.le_of_ble_eq_true rfl), Option.bind_some, z3]
  generalize hH4 : hset (hpush H3 (.inl (0, 3, .inl fun _ => 0)) 3) o _ = H4
  have B4 : At H4 o (.inr (0, [.int 0, .int 0, .int 0, .int 0, .int 0, .int 0, .null, .ref (o + 1), .ref (o + 2), .ref (o + 3), .null])) := by rw [← hH4]; exact at_set_eq A4
  have z4 : H4.2.1 = o + 4 := by rw [← hH4]; show H3.2.1 + 1 = _; omega
  have r2 : At H4 (o + 1) (.inl (0, 9, .inl fun _ => 0)) := by rw [← hH4]; exact at_set_ne (at_push r2) (by omega)
  have r3 : At H4 (o + 2) (.inl (0, 3, .inl fun _ => 0)) := by rw [← hH4]; exact at_set_ne (at_push r3) (by omega)
  have r4 : At H4 (o + 3) (.inl (0, 3, .inl fun _ => 0)) := by
    rw [← hH4]
    refine at_set_ne ?_ (by omega)
    rw [← z3]
    exact at_new
  have F4 : Fr h H4 (fun _ => False) 4 26 := by rw [← hH4]; exact oFr (Fr_trans F3 Fr_push)
  rw [e_nw]
  have A5 := at_push (c' := (.inl (0, 3, .inl fun _ => 0) : Ac)) (n := 3) B4
  rw [at_pV A5 (Nat.le_of_ble_eq_true rfl), Option.bind_some, z4]
  generalize hH5 : hset (hpush H4 (.inl (0, 3, .inl fun _ => 0)) 3) o _ = H5
  have B5 : At H5 o (bo o 0 0 0 0 0 0 none) := by rw [← hH5]; exact at_set_eq A5
  have r2 : At H5 (o + 1) (.inl (0, 9, .inl fun _ => 0)) := by rw [← hH5]; exact at_set_ne (at_push r2) (by omega)
  have r3 : At H5 (o + 2) (.inl (0, 3, .inl fun _ => 0)) := by rw [← hH5]; exact at_set_ne (at_push r3) (by omega)
  have r4 : At H5 (o + 3) (.inl (0, 3, .inl fun _ => 0)) := by rw [← hH5]; exact at_set_ne (at_push r4) (by omega)
  have r5 : At H5 (o + 4) (.inl (0, 3, .inl fun _ => 0)) := by
    rw [← hH5]
    refine at_set_ne ?_ (by omega)
    rw [← z4]
    exact at_new
  have F5 : Fr h H5 (fun _ => False) 5 29 := by rw [← hH5]; exact oFr (Fr_trans F4 Fr_push)
  rw [bp_1 B5, Option.bind_some, bp_2 (at_set_eq B5), Option.bind_some, hset_hset, bp_4 (at_set_eq B5), Option.bind_some, hset_hset]
  have B6 := at_set_eq (c' := bo o 0 1 1 0 1 0 none) B5
  have r3' : At (hset H5 o (bo o 0 1 1 0 1 0 none)) (o + 2) (.inl (0, 3, .inl fun _ => 0)) := at_set_ne r3 (by omega)
  have B7 : At (hset (hset H5 o (bo o 0 1 1 0 1 0 none)) (o + 2) (.inl (0, 3, .inl (upd (fun _ => 0) 0 (1 : Int32))))) o (bo o 0 1 1 0 1 0 none) := at_set_ne B6 (by omega)
  have loop : ∀ n, m_X0_init_L50 o (fun h18 => some h18) (n + 1 + 1) (0 : Int32) (hset H5 o (bo o 0 1 1 0 1 0 none)) = some (hset (hset H5 o (bo o 0 1 1 0 1 0 none)) (o + 2) (.inl (0, 3, .inl (upd (fun _ => 0) 0 (1 : Int32))))) := fun n => by
    rw [m_X0_init_L50, show gI (hset H5 o (bo o 0 1 1 0 1 0 none)) 0 o 1 = some 1 from at_gI B6 rfl, Option.bind_some, if_neg (by decide), bg_8 B6, Option.bind_some, show aN (hset H5 o (bo o 0 1 1 0 1 0 none)) 0 (o + 2) = some (nI 3) from at_aN r3', Option.bind_some, if_neg (by decide)]
    first | rw [bg_8 B6, Option.bind_some] | rw [Option.bind_some]
    rw [show sI (hset H5 o (bo o 0 1 1 0 1 0 none)) 0 (o + 2) (0 : Int32) (1 : Int32) = some (hset (hset H5 o (bo o 0 1 1 0 1 0 none)) (o + 2) (.inl (0, 3, .inl (upd (fun _ => 0) 0 (1 : Int32))))) from at_sI (k := 0) r3' (by decide) (by decide), Option.bind_some]
    show m_X0_init_L50 o (fun h18 => some h18) (n + 1) ((0 : Int32) + 1) (hset (hset H5 o (bo o 0 1 1 0 1 0 none)) (o + 2) (.inl (0, 3, .inl (upd (fun _ => 0) 0 (1 : Int32))))) = _
    rw [m_X0_init_L50, show gI (hset (hset H5 o (bo o 0 1 1 0 1 0 none)) (o + 2) (.inl (0, 3, .inl (upd (fun _ => 0) 0 (1 : Int32))))) 0 o 1 = some 1 from at_gI B7 rfl, Option.bind_some, if_pos (by decide)]
  obtain ⟨n, hn⟩ : ∃ n, LF = n + 1 + 1 := ⟨LF - 2, by have : LF = 1000000 := rfl; omega⟩
  have eL : m_X0_init_L50 o (fun h18 => some h18) LF (0 : Int32) (hset H5 o (bo o 0 1 1 0 1 0 none)) = some (hset (hset H5 o (bo o 0 1 1 0 1 0 none)) (o + 2) (.inl (0, 3, .inl (upd (fun _ => 0) 0 (1 : Int32))))) := by
    rw [hn]
    exact loop n
  refine ⟨_, eL, ⟨B7, ⟨_, at_set_ne (at_set_ne r2 (by omega)) (by omega), fun k hk => ?_⟩, ⟨_, at_set_eq r3', fun k hk => ?_⟩, ⟨_, at_set_ne (at_set_ne r4 (by omega)) (by omega), fun k hk => ?_⟩, ⟨_, at_set_ne (at_set_ne r5 (by omega)) (by omega), fun k hk => rfl⟩⟩, ?_⟩
  · have d : ∀ k, k < 9 → (0 : Int32) = nI (nrf al0 k) := by decide +kernel
    exact d k hk
  · have d : ∀ k, k < 3 → upd (fun _ => (0 : Int32)) 0 (1 : Int32) k = nI (lsf al0 k) := by decide +kernel
    exact d k hk
  · have d : ∀ k, k < 3 → (0 : Int32) = nI (pnf al0 k) := by decide +kernel
    exact d k hk
  · have f := oFr (c := bo o 0 1 1 0 1 0 none) F5
    exact ⟨f.1, f.2.1, f.2.2.1, fun a ha hs => (if_neg (by omega)).trans (f.2.2.2 a ha hs)⟩
abbrev aq (n : Nat) (f : Nat → Option Nat) : Ac := .inl (4, n, .inr (.inr (.inr (.inr f))))
theorem x_keepCopy {h : Hp} {t i n p num : Nat} {kb : Nat → Option Nat} {al b : Nat → Nat} {lat : Option Nat} (T : At h t (aq n kb)) (hi : i < n) (hn : n < 1000) (B : BdH h p num al b lat) (hold : ∀ a, kb i = some a → BdS h a ∧ (a + 4 < p ∨ p + 4 < a) ∧ ¬ InB a t) (ht : ¬ InB p t) :
    ∃ h' a, m_X5_keepCopy t (nI i) p h = some h' ∧ At h' t (aq n (va_up kb i (some a))) ∧ BdH h' a num al b lat ∧ (kb i = some a ∨ (kb i = none ∧ a = h.2.1)) ∧ Fr h h' (fun x => x = t ∨ (kb i = some a ∧ InB a x)) 5 29 := by
  have fin : ∀ (H : Hp) (a : Nat), At H t (aq n kb) → BdH H p num al b lat → BdS H a → (a + 4 < p ∨ p + 4 < a) → ¬ InB a t → ∃ h', (cv H 0 a <| (m_X0_takeFrom a p H).bind fun h7 => (sQ h7 4 t (nI i) a).bind fun h8 => some h8) = some h' ∧ At h' t (aq n (va_up kb i (some a))) ∧ BdH h' a num al b lat ∧ Fr H h' (fun x => x = t ∨ InB a x) 0 0 := by
    intro H a T B S hap hat
    obtain ⟨h1, e1, b1, b2, f1⟩ := x_takeFrom B S hap
    obtain ⟨⟨n0, c0, v0, p0, f0, m0, q0, s0⟩, -⟩ := S
    have T1 := Fr_at f1 T hat
    have hti : ∀ i, i < 5 → a + i ≠ t := fun i hi e => hat (by unfold InB; omega)
    refine ⟨hset h1 t (aq n (va_up kb i (some a))), ?_, at_set_eq T1, ?_, ?_⟩
    · rw [at_cv s0, e1, Option.bind_some, at_sQ T1 hi (by omega) b1.1, Option.bind_some]
    · exact Fr_bd (S := fun x => x = t) (Fr_set rfl) b1 fun i hi => hti i hi
    · exact Fr_trans (Fr_mono f1 (fun x hx => Or.inr hx) (Nat.le_refl _) (Nat.le_refl _)) (Fr_set (a := t) (S := fun x => x = t ∨ InB a x) (Or.inl rfl))
  unfold m_X5_keepCopy
  rw [iNeg (by omega), at_aN T, Option.bind_some, iNle hi (by omega), at_aQ T hi (by omega), Option.bind_some]
  simp only [e_jK]
  have htl := T.1
  have hpl := B.1.1
  cases hk : kb i with
  | none =>
    rw [e_nzN, e_nw]
    obtain ⟨h1, e1, b1, f1⟩ := x_newB h
    rw [e1, Option.bind_some, Option.bind_some]
    have hp4 : p + 4 < h.2.1 := by
      obtain ⟨y4, b4, -⟩ := B.2.2.2.2
      exact b4.1
    obtain ⟨h2, e2, t2, b2, f2⟩ := fin h1 h.2.1 (Fr_at f1 T id) (Fr_bd f1 B fun _ _ => id) (BdH_S b1) (Or.inr hp4) (by unfold InB; omega)
    refine ⟨h2, h.2.1, e2, t2, b2, Or.inr ⟨rfl, rfl⟩, ?_⟩
    obtain ⟨a1, a2, a3, a4⟩ := f1
    obtain ⟨c1, c2, c3, c4⟩ := f2
    refine ⟨by omega, by omega, by omega, fun a ha hs => (c4 a (by omega) fun e => ?_).trans (a4 a ha id)⟩
    rcases e with e | e
    · exact hs (Or.inl e)
    · unfold InB at e
      omega
  | some a =>
    obtain ⟨s1, s2, s3⟩ := hold a hk
    rw [e_nzS, Option.bind_some, Option.bind_some]
    obtain ⟨h2, e2, t2, b2, f2⟩ := fin h a T B s1 s2 s3
    refine ⟨h2, a, e2, t2, b2, Or.inl rfl, ?_⟩
    exact Fr_mono f2 (fun x hx => hx.imp id fun e => ⟨rfl, e⟩) (by omega) (by omega)
abbrev hq (hd nx : Nat) : Ac := .inr (1, [.int (nI hd), .int (nI nx), .ref 17])
theorem x_keep {h : Hp} {p num hd nx : Nat} {kb : Nat → Option Nat} {al b : Nat → Nat} {lat : Option Nat} (H16 : At h 16 (hq hd nx)) (T : At h 17 (aq 8 kb)) (hnx : nx < 8) (hhd : hd ≤ 8) (B : BdH h p num al b lat) (hp : p + 4 < 16) (hold : ∀ a, kb nx = some a → BdS h a ∧ 32 ≤ a) :
    ∃ h' a, m_X1_keep 16 p h = some h' ∧ At h' 16 (hq (min (hd + 1) 8) (if nx + 1 < 8 then nx + 1 else 0)) ∧ At h' 17 (aq 8 (va_up kb nx (some a))) ∧ BdH h' a num al b lat ∧ (kb nx = some a ∨ (kb nx = none ∧ a = h.2.1)) ∧ Fr h h' (fun x => x = 16 ∨ x = 17 ∨ (kb nx = some a ∧ InB a x)) 5 29 := by
  obtain ⟨h1, a, e1, t1, b1, ha, f1⟩ := x_keepCopy T hnx (by decide) B (fun a ha => ⟨(hold a ha).1, Or.inr (by have := (hold a ha).2; omega), by have := (hold a ha).2; unfold InB; omega⟩) (by unfold InB; omega)
  have ha32 : 17 < a := by
    rcases ha with ha | ⟨-, ha⟩
    · have := (hold a ha).2
      omega
    · have := T.1
      omega
  have H1 : At h1 16 (hq hd nx) := Fr_at f1 H16 fun e => by
    rcases e with e | ⟨-, e⟩
    · omega
    · unfold InB at e
      omega
  have hx : (if nI 8 ≤ nI nx + (1 : Int32) then nI 0 else nI nx + (1 : Int32)) = nI (if nx + 1 < 8 then nx + 1 else 0) := (by decide +kernel : ∀ nx, nx < 8 → (if nI 8 ≤ nI nx + (1 : Int32) then nI 0 else nI nx + (1 : Int32)) = nI (if nx + 1 < 8 then nx + 1 else 0)) nx hnx
  have hm : jmin (nI hd + (1 : Int32)) (nI 8) = nI (min (hd + 1) 8) := by rw [nI_1, jmin_N (by omega) (by decide)]
  have rest : ∀ v7 : Int32, v7 = nI (if nx + 1 < 8 then nx + 1 else 0) → ((pV h1 1 16 1 (.int v7)).bind fun h9 => (gI h9 1 16 0).bind fun x10 => (gR h9 1 16 2).bind fun a11 => (aN h9 4 a11).bind fun x12 => (pV h9 1 16 0 (.int (jmin (x10 + (1 : Int32)) x12))).bind fun h13 => some h13) = some (hset h1 16 (hq (min (hd + 1) 8) (if nx + 1 < 8 then nx + 1 else 0))) := by
    intro v7 hv
    have A9 : At (hset h1 16 (.inr (1, [.int (nI hd), .int v7, .ref 17]))) 16 (.inr (1, [.int (nI hd), .int v7, .ref 17])) := at_set_eq H1
    have p1 : pV h1 1 16 1 (.int v7) = some (hset h1 16 (.inr (1, [.int (nI hd), .int v7, .ref 17]))) := at_pV H1 (Nat.le_of_ble_eq_true rfl)
    have p2 : ∀ x, pV (hset h1 16 (.inr (1, [.int (nI hd), .int v7, .ref 17]))) 1 16 0 (.int x) = some (hset (hset h1 16 (.inr (1, [.int (nI hd), .int v7, .ref 17]))) 16 (.inr (1, [.int x, .int v7, .ref 17]))) := fun x => at_pV A9 (Nat.le_of_ble_eq_true rfl)
    have t9 := at_set_ne (b := 16) (c' := (.inr (1, [.int (nI hd), .int v7, .ref 17]) : Ac)) t1 (by decide)
    rw [p1, Option.bind_some, at_gI A9 rfl, Option.bind_some, at_gR A9 rfl, Option.bind_some, at_aN t9, Option.bind_some, hm, p2, Option.bind_some, hset_hset, hv]
  refine ⟨hset h1 16 (hq (min (hd + 1) 8) (if nx + 1 < 8 then nx + 1 else 0)), a, ?_, at_set_eq H1, at_set_ne t1 (by decide), ?_, ha, ?_⟩
  · unfold m_X1_keep
    rw [at_gR H16 rfl, Option.bind_some, at_gI H16 rfl, Option.bind_some, e1, Option.bind_some, at_gI H1 rfl, Option.bind_some, at_gR H1 rfl, Option.bind_some, at_aN t1, Option.bind_some]
    simp only [e_jK, Option.bind_some]
    by_cases hc : nI 8 ≤ nI nx + (1 : Int32)
    · rw [if_pos hc] at hx ⊢
      exact rest _ hx
    · rw [if_neg hc] at hx ⊢
      exact rest _ hx
  · exact Fr_bd (S := fun x => x = 16) (Fr_set rfl) b1 fun i hi => by omega
  · refine Fr_trans (Fr_mono f1 (fun x hx => hx.elim (fun e => Or.inr (Or.inl e)) fun e => Or.inr (Or.inr e)) (Nat.le_refl _) (Nat.le_refl _)) (Fr_set (a := 16) (S := fun x => x = 16 ∨ x = 17 ∨ (kb nx = some a ∧ InB a x)) (Or.inl rfl))
theorem x_bringBack {h : Hp} {hd nx lx num a num1 : Nat} {kb : Nat → Option Nat} {al b al1 b1 : Nat → Nat} {lat lat1 : Option Nat} (H16 : At h 16 (hq hd nx)) (T : At h 17 (aq 8 kb)) (hnx : nx < 8) (hhd : hd ≤ 8) (h0 : hd ≠ 0) (hlx : lx = if nx = 0 then 7 else nx - 1) (B : BdH h 2 num1 al1 b1 lat1) (hk : kb lx = some a) (ha : 32 ≤ a) (K : BdH h a num al b lat) :
    ∃ h', m_X1_bringBack 16 2 h = some h' ∧ At h' 16 (hq (hd - 1) lx) ∧ BdH h' 2 num al b lat ∧ Fr h h' (fun x => x = 16 ∨ InB 2 x) 0 0 := by
  obtain ⟨h1, e1, c1, c2, f1⟩ := x_takeFrom (o := 2) K (BdH_S B) (Or.inl (by omega))
  have hl8 : lx < 8 := by
    rw [hlx]
    split <;> omega
  have H1 : At h1 16 (hq hd nx) := Fr_at f1 H16 (by unfold InB; omega)
  obtain ⟨d, rfl⟩ : ∃ d, hd = d + 1 := ⟨hd - 1, by omega⟩
  have main : ((gI h 1 16 0).bind fun x6 => if x6 ≤ 0 then some h else if true = true then ((gR h 1 16 2).bind fun a7 => (aQ h 4 a7 (nI lx)).bind fun q8 => nz q8 (some h) fun a9 => (gR h 1 16 2).bind fun a10 => (aQ h 4 a10 (nI lx)).bind fun q11 => (q11).bind fun a12 => cv h 0 2 <| (m_X0_takeFrom 2 a12 h).bind fun h13 => (pV h13 1 16 1 (.int (nI lx))).bind fun h14 => (gI h14 1 16 0).bind fun x15 => (pV h14 1 16 0 (.int (x15 - (1 : Int32)))).bind fun h16 => some h16) else some h) = some (hset h1 16 (hq d lx)) := by
    have A9 : At (hset h1 16 (hq (d + 1) lx)) 16 (hq (d + 1) lx) := at_set_eq H1
    have p1 : pV h1 1 16 1 (.int (nI lx)) = some (hset h1 16 (hq (d + 1) lx)) := at_pV H1 (Nat.le_of_ble_eq_true rfl)
    have p2 : pV (hset h1 16 (hq (d + 1) lx)) 1 16 0 (.int (nI d)) = some (hset (hset h1 16 (hq (d + 1) lx)) 16 (hq d lx)) := at_pV A9 (Nat.le_of_ble_eq_true rfl)
    rw [at_gI H16 rfl, Option.bind_some, if_neg (nI_nle (by omega) (by omega)), if_pos rfl, at_gR H16 rfl, Option.bind_some, at_aQ T hl8 (by decide), Option.bind_some, hk, e_nzS, Option.bind_some, at_aQ T hl8 (by decide), Option.bind_some, hk, Option.bind_some, bd_cv B, e1, Option.bind_some, p1, Option.bind_some, at_gI A9 rfl, Option.bind_some, nI_pred, p2, Option.bind_some, hset_hset]
  have c : ∀ r1 r2 : Option Hp, (if nI lx < 0 then r1 else (gR h 1 16 2).bind fun a19 => (aN h 4 a19).bind fun x20 => if x20 ≤ nI lx then r1 else r2) = r2 := by
    intro r1 r2
    rw [iNeg (by omega), at_gR H16 rfl, Option.bind_some, at_aN T, Option.bind_some, iNle hl8 (by decide)]
  have all : ∀ f : Int32 → Option Hp, ((gI h 1 16 1).bind fun x1 => if x1 ≤ 0 then ((gR h 1 16 2).bind fun a23 => (aN h 4 a23).bind fun x24 => f (x24 - (1 : Int32))) else (gI h 1 16 1).bind fun x25 => f (x25 - (1 : Int32))) = f (nI lx) := by
    intro f
    rw [at_gI H16 rfl, Option.bind_some]
    by_cases hn : nx = 0
    · rw [hn, if_pos (by decide), at_gR H16 rfl, Option.bind_some, at_aN T, Option.bind_some]
      refine congrArg f ?_
      rw [hlx, if_pos hn]
      first | rfl | decide
    · obtain ⟨y, hy⟩ : ∃ y, nx = y + 1 := ⟨nx - 1, by omega⟩
      rw [if_neg (nI_nle (by omega) (by omega)), Option.bind_some]
      refine congrArg f ?_
      rw [hlx, if_neg hn, hy, nI_pred, Nat.add_sub_cancel]
  refine ⟨hset h1 16 (hq d lx), ?_, at_set_eq H1, ?_, Fr_trans (Fr_mono f1 (fun x hx => Or.inr hx) (Nat.le_refl _) (Nat.le_refl _)) (Fr_set (a := 16) (S := fun x => x = 16 ∨ InB 2 x) (Or.inl rfl))⟩
  · unfold m_X1_bringBack
    exact (all (fun v2 => (if v2 < 0 then ((gI h 1 16 0).bind fun x6 => if x6 ≤ 0 then some h else if false = true then ((gR h 1 16 2).bind fun a7 => (aQ h 4 a7 v2).bind fun q8 => nz q8 (some h) fun a9 => (gR h 1 16 2).bind fun a10 => (aQ h 4 a10 v2).bind fun q11 => (q11).bind fun a12 => cv h 0 2 <| (m_X0_takeFrom 2 a12 h).bind fun h13 => (pV h13 1 16 1 (.int v2)).bind fun h14 => (gI h14 1 16 0).bind fun x15 => (pV h14 1 16 0 (.int (x15 - (1 : Int32)))).bind fun h16 => some h16) else some h) else (gR h 1 16 2).bind fun a19 => (aN h 4 a19).bind fun x20 => if x20 ≤ v2 then ((gI h 1 16 0).bind fun x6 => if x6 ≤ 0 then some h else if false = true then ((gR h 1 16 2).bind fun a7 => (aQ h 4 a7 v2).bind fun q8 => nz q8 (some h) fun a9 => (gR h 1 16 2).bind fun a10 => (aQ h 4 a10 v2).bind fun q11 => (q11).bind fun a12 => cv h 0 2 <| (m_X0_takeFrom 2 a12 h).bind fun h13 => (pV h13 1 16 1 (.int v2)).bind fun h14 => (gI h14 1 16 0).bind fun x15 => (pV h14 1 16 0 (.int (x15 - (1 : Int32)))).bind fun h16 => some h16) else some h) else ((gI h 1 16 0).bind fun x6 => if x6 ≤ 0 then some h else if true = true then ((gR h 1 16 2).bind fun a7 => (aQ h 4 a7 v2).bind fun q8 => nz q8 (some h) fun a9 => (gR h 1 16 2).bind fun a10 => (aQ h 4 a10 v2).bind fun q11 => (q11).bind fun a12 => cv h 0 2 <| (m_X0_takeFrom 2 a12 h).bind fun h13 => (pV h13 1 16 1 (.int v2)).bind fun h14 => (gI h14 1 16 0).bind fun x15 => (pV h14 1 16 0 (.int (x15 - (1 : Int32)))).bind fun h16 => some h16) else some h)))).trans ((c _ _).trans main)
  · exact Fr_bd (S := fun x => x = 16) (Fr_set rfl) c1 fun i hi => by omega
