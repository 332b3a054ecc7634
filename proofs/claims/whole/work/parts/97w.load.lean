/-! a text loaded: the reference -/
def zA (A : Nat → Nat → Int32) (n : Nat) : Nat → Nat → Int32 := fun m => if m = 0 then (fun k => if k < n then (0 : Int32) else A 0 k) else A m
theorem zA_0 {A : Nat → Nat → Int32} : zA A 0 = A := funext fun m => by
  unfold zA
  by_cases hm : m = 0
  · rw [if_pos hm, hm]
    exact funext fun k => if_neg (Nat.not_lt_zero k)
  · rw [if_neg hm]
theorem zA_s {A : Nat → Nat → Int32} {n : Nat} : updA (zA A n) 0 n (0 : Int32) = zA A (n + 1) := funext fun m => by
  unfold updA zA
  by_cases hm : m = 0
  · rw [if_pos hm, if_pos hm, if_pos rfl]
    refine funext fun k => ?_
    show (if k = n then (0 : Int32) else if k < n then (0 : Int32) else A 0 k) = if k < n + 1 then (0 : Int32) else A 0 k
    by_cases h1 : k = n
    · rw [if_pos h1, if_pos (by omega)]
    · rw [if_neg h1]
      by_cases h2 : k < n
      · rw [if_pos h2, if_pos (by omega)]
      · rw [if_neg h2, if_neg (by omega)]
  · rw [if_neg hm, if_neg hm, if_neg hm]
theorem cpA_i {A : Nat → Nat → Int32} {i j t : Nat} (ht : t < 4136) : cpA A i 0 j 0 4136 i t = A j t := by
  unfold cpA
  rw [if_pos rfl]
  show (if 0 ≤ t ∧ t < 0 + 4136 then A j (0 + (t - 0)) else A i t) = A j t
  rw [if_pos ⟨Nat.zero_le _, by omega⟩, show 0 + (t - 0) = t by omega]
theorem cpA_o {A : Nat → Nat → Int32} {i p j q n m : Nat} (h : m ≠ i) : cpA A i p j q n m = A m := if_neg h
def vLd (v : Nat → Int32) (n : Nat) : Nat → Int32 := upd (upd (upd (upd (upd v 7 (bI false)) 10 (nI n)) 9 (0 : Int32)) 12 (0 : Int32)) 15 (0 : Int32)
def aLd (A : Nat → Nat → Int32) : Nat → Nat → Int32 := zA (cpA A 1 0 0 0 4136) 4136
theorem aLd_0 {A : Nat → Nat → Int32} {t : Nat} (ht : t < 4136) : aLd A 0 t = 0 := by
  unfold aLd zA
  rw [if_pos rfl]
  exact if_pos ht
theorem aLd_1 {A : Nat → Nat → Int32} {t : Nat} (ht : t < 4136) : aLd A 1 t = A 0 t := by
  unfold aLd zA
  rw [if_neg (by decide), cpA_i ht]
theorem aLd_o {A : Nat → Nat → Int32} {j : Nat} (h0 : j ≠ 0) (h1 : j ≠ 1) : aLd A j = A j := by
  unfold aLd zA
  rw [if_neg h0, cpA_o h1]
theorem tkv_self {v : Nat → Int32} {e wr : Int32} (h1 : v 12 = e) (h2 : v 15 = wr) : tkv v (v 11) e (v 13) (v 14) wr (v 16) = v := funext fun i => by
  unfold tkv
  by_cases a1 : i = 11
  · rw [if_pos a1, a1]
  · rw [if_neg a1]
    by_cases a2 : i = 12
    · rw [if_pos a2, a2, h1]
    · rw [if_neg a2]
      by_cases a3 : i = 13
      · rw [if_pos a3, a3]
      · rw [if_neg a3]
        by_cases a4 : i = 14
        · rw [if_pos a4, a4]
        · rw [if_neg a4]
          by_cases a5 : i = 15
          · rw [if_pos a5, a5, h2]
          · rw [if_neg a5]
            by_cases a6 : i = 16
            · rw [if_pos a6, a6]
            · rw [if_neg a6]
section RLD
variable {v v2 : Nat → Int32} {A A2 : Nat → Nat → Int32} {h R1 : Hp} {n hd : Nat}
theorem yp10 (hz : 31 ≤ h.2.1) {x : Int32} : pV (setR v A h) 6 20 10 (.int x) = some (setR (upd v 10 x) A h) := rp hz rfl (by decide)
theorem yp12 (hz : 31 ≤ h.2.1) {x : Int32} : pV (setR v A h) 6 20 12 (.int x) = some (setR (upd v 12 x) A h) := rp hz rfl (by decide)
theorem yp15 (hz : 31 ≤ h.2.1) {x : Int32} : pV (setR v A h) 6 20 15 (.int x) = some (setR (upd v 15 x) A h) := rp hz rfl (by decide)
theorem yp17 (hz : 31 ≤ h.2.1) {x : Int32} : pV (setR v A h) 6 20 17 (.int x) = some (setR (upd v 17 x) A h) := rp hz rfl (by decide)
theorem y_zero (hz : 31 ≤ h.2.1) (K : Hp → Option (Int32 × Hp)) : m_X6_load_L65 20 K LF (0 : Int32) (setR v A h) = K (setR v (zA A 4136) h) := by
  have key := forQ (σ := Unit) (fun f n _ => m_X6_load_L65 20 K f (nI n) (setR v (zA A n) h)) 4136 (fun _ _ => True) (fun R => R = K (setR v (zA A 4136) h)) (fun f n s hn _ e => ?_) (fun f s _ => ?_) LF 0 () (Nat.zero_le _) (by decide) trivial
  · have key' : m_X6_load_L65 20 K LF (nI 0) (setR v (zA A 0) h) = _ := key
    rw [zA_0] at key'
    exact key'
  · have e' : m_X6_load_L65 20 K f (nI (n + 1)) (setR v (zA A (n + 1)) h) = _ := e () trivial
    show m_X6_load_L65 20 K (f + 1) (nI n) (setR v (zA A n) h) = _
    rw [m_X6_load_L65, show (4136 : Int32) = nI 4136 from rfl, iNle hn (by decide), r_a hz, Option.bind_some, r_s0 hz hn, Option.bind_some, zA_s]
    simp only [e_nm]
    rw [nI_1]
    exact e'
  · show m_X6_load_L65 20 K (f + 1) (nI 4136) (setR v (zA A 4136) h) = _
    rw [m_X6_load_L65, show (4136 : Int32) = nI 4136 from rfl, iLe (Nat.le_refl _) (by decide)]
theorem ys_10 (hz : 31 ≤ h.2.1) : m_X6_sets 22 (0 : Int32) 21 (0 : Int32) (setR v A h) = some (setR v (cpA A 1 0 0 0 4136) h) := y_sets (i := 1) (j := 0) (p := 0) (q := 0) hz (by decide) (by decide) (by decide) (by decide) (by decide)
theorem ys_20 (hz : 31 ≤ h.2.1) : m_X6_sets 23 (0 : Int32) 21 (0 : Int32) (setR v A h) = some (setR v (cpA A 2 0 0 0 4136) h) := y_sets (i := 2) (j := 0) (p := 0) (q := 0) hz (by decide) (by decide) (by decide) (by decide) (by decide)
theorem ys_01 (hz : 31 ≤ h.2.1) : m_X6_sets 21 (0 : Int32) 22 (0 : Int32) (setR v A h) = some (setR v (cpA A 0 0 1 0 4136) h) := y_sets (i := 0) (j := 1) (p := 0) (q := 0) hz (by decide) (by decide) (by decide) (by decide) (by decide)
theorem ys_02 (hz : 31 ≤ h.2.1) : m_X6_sets 21 (0 : Int32) 23 (0 : Int32) (setR v A h) = some (setR v (cpA A 0 0 2 0 4136) h) := y_sets (i := 0) (j := 2) (p := 0) (q := 0) hz (by decide) (by decide) (by decide) (by decide) (by decide)
/-- the reference's board put aside and brought back around the reading -/
def aBk (A : Nat → Nat → Int32) : Nat → Nat → Int32 := cpA (cpA A 2 0 0 0 4136) 0 0 1 0 4136
theorem y_loadOk (hz : 31 ≤ h.2.1) (hin : m_X6_isIn (nI n) (0 : Int32) (v 9) = some true) (h1 : m_X6_next 20 (setR (vLd v n) (aLd A) h) = some R1) (hcv : ∀ {ρ : Type} {r : Option ρ}, cv R1 6 20 r = r) (h2 : m_X6_reads 20 R1 = some (setR v2 A2 h)) (h15 : v2 15 = 0) (hd8 : hd ≤ 8) (h6 : v2 6 = nI hd) :
    ∃ A5, m_X6_load 20 (nI n) (setR v A h) = some (A2 0 0, setR (upd (upd v2 17 (-1 : Int32)) 6 (nI (min (hd + 1) 8))) (cpA A5 0 0 2 0 4136) h) ∧ (∀ j, j ≠ 3 → A5 j = aBk A2 j) ∧ ∀ i t, i < min (hd + 1) 8 → t < 4136 → A5 3 (4136 * i + t) = if i + 1 = min (hd + 1) 8 then aBk A2 0 t else aBk A2 3 (4136 * (i + (if hd = 8 then 1 else 0)) + t) := by
  obtain ⟨A5, y1, y2, y3⟩ := y_keeps (v := upd v2 17 (-1 : Int32)) (A := aBk A2) hz hd8 h6
  refine ⟨A5, ?_, y2, y3⟩
  have h1' : m_X6_next 20 (setR (upd (upd (upd (upd (upd v 7 (bI false)) 10 (nI n)) 9 (0 : Int32)) 12 (0 : Int32)) 15 (0 : Int32)) (zA (cpA A 1 0 0 0 4136) 4136) h) = some R1 := h1
  have y1' : m_X6_keeps 20 (setR (upd v2 17 (-1 : Int32)) (cpA (cpA A2 2 0 0 0 4136) 0 0 1 0 4136) h) = _ := y1
  have e0 : cpA A5 0 0 2 0 4136 0 0 = A2 0 0 := by
    rw [cpA_i (by decide), y2 2 (by decide)]
    unfold aBk
    rw [cpA_o (by decide), cpA_i (by decide)]
  have e1 : aI (setR (upd (upd v2 17 (-1 : Int32)) 6 (nI (min (hd + 1) 8))) (cpA A5 0 0 2 0 4136) h) 0 21 (0 : Int32) = some (A2 0 0) := (r_a0 (k := 0) hz (by decide)).trans (congrArg some e0)
  unfold m_X6_load
  simp only [e_jK]
  rw [rg9 hz, Option.bind_some, hin, Option.bind_some, if_pos rfl, yp7 hz, Option.bind_some, rg7 hz, Option.bind_some]
  show (if (0 : Int32) ≤ 0 then _ else _) = _
  rw [if_pos (by decide), yp10 hz, Option.bind_some, yp9 hz, Option.bind_some, yp12 hz, Option.bind_some, yp15 hz, Option.bind_some, r_22 hz, Option.bind_some, r_a hz, Option.bind_some, ys_10 hz, Option.bind_some, y_zero hz, r_cv hz, h1', Option.bind_some, hcv, h2, Option.bind_some, rg15 hz, Option.bind_some, h15, if_pos rfl, yp17 hz, Option.bind_some, r_23 hz, Option.bind_some, r_a hz, Option.bind_some, ys_20 hz, Option.bind_some, r_a hz, Option.bind_some, r_22 hz, Option.bind_some, ys_01 hz, Option.bind_some, rg15 hz, Option.bind_some, if_pos (show upd v2 17 (-1 : Int32) 15 = 0 from h15), r_cv hz, y1', Option.bind_some, r_a hz, Option.bind_some, r_23 hz, Option.bind_some, ys_02 hz, Option.bind_some, r_a hz, Option.bind_some, e1, Option.bind_some]
theorem y_loadX (hz : 31 ≤ h.2.1) (hin : m_X6_isIn (nI n) (0 : Int32) (v 9) = some true) (h1 : m_X6_next 20 (setR (vLd v n) (aLd A) h) = some R1) (hcv : ∀ {ρ : Type} {r : Option ρ}, cv R1 6 20 r = r) (h2 : m_X6_reads 20 R1 = some (setR v2 A2 h)) (h15 : v2 15 ≠ 0) :
    m_X6_load 20 (nI n) (setR v A h) = some (v2 15, setR (upd v2 17 (v2 16)) (aBk A2) h) := by
  have h1' : m_X6_next 20 (setR (upd (upd (upd (upd (upd v 7 (bI false)) 10 (nI n)) 9 (0 : Int32)) 12 (0 : Int32)) 15 (0 : Int32)) (zA (cpA A 1 0 0 0 4136) 4136) h) = some R1 := h1
  unfold m_X6_load
  simp only [e_jK]
  rw [rg9 hz, Option.bind_some, hin, Option.bind_some, if_pos rfl, yp7 hz, Option.bind_some, rg7 hz, Option.bind_some]
  show (if (0 : Int32) ≤ 0 then _ else _) = _
  rw [if_pos (by decide), yp10 hz, Option.bind_some, yp9 hz, Option.bind_some, yp12 hz, Option.bind_some, yp15 hz, Option.bind_some, r_22 hz, Option.bind_some, r_a hz, Option.bind_some, ys_10 hz, Option.bind_some, y_zero hz, r_cv hz, h1', Option.bind_some, hcv, h2, Option.bind_some, rg15 hz, Option.bind_some, if_neg h15, rg16 hz, Option.bind_some, yp17 hz, Option.bind_some, r_23 hz, Option.bind_some, r_a hz, Option.bind_some, ys_20 hz, Option.bind_some, r_a hz, Option.bind_some, r_22 hz, Option.bind_some, ys_01 hz, Option.bind_some, rg15 hz, Option.bind_some, if_neg (show ¬ upd v2 17 (v2 16) 15 = 0 from h15), Option.bind_some]
  rfl
end RLD
/-! a new load number -/
section HSL
variable {H : Hp} {v : Nat → Int32} {A : Nat → Nat → Int32} {k L L' a : Nat} {Gn Gn' : Nat → Nat → Nat} {row : Nat → Int32}
theorem Snp_L (h : Snp H a row L Gn k) (hL : L ≤ L') (hG : ∀ n, n ≤ L → Gn' n = Gn n) : Snp H a row L' Gn' k := by
  obtain ⟨num, al, b, lat, h1, h2, h3, h4, h5, h6, h7, h8⟩ := h
  exact ⟨num, al, b, lat, h1, h2, h3, h4, Nat.le_trans h5 hL, (hG num h5).trans h6, h7, h8⟩
theorem Hst_L (h : Hst k L Gn H v A) (hL : L ≤ L') (hG : ∀ n, n ≤ L → Gn' n = Gn n) : Hst k L' Gn' H v A := by
  obtain ⟨hd, nx, kb, sb, b1, b2, b3, b4, b5, b6, b7, b9, b10⟩ := h
  refine ⟨hd, nx, kb, sb, b1, b2, b3, b4, b5, b6, b7, fun i hi => ?_, fun i hi => ?_⟩
  · obtain ⟨a, c1, c2⟩ := b9 i hi
    exact ⟨a, c1, Snp_L c2 hL hG⟩
  · rcases b10 i hi with e | ⟨a, c1, c2, c3⟩
    · exact .inl e
    · exact .inr ⟨a, c1, c2, Snp_L c3 hL hG⟩
end HSL
/-- a change answered alike, read off at the heap that the reference then meets -/
theorem Agr_mk2 {k : Nat} {H : Hp} {v : Nat → Int32} {A : Nat → Nat → Int32} {call : Option ((Int32 ⊕ Nat) × Hp)} {gx : Nat → Hp → Option (Int32 × Hp)} {refm : Hp → Option (Int32 × Hp)} (hcv : ∀ {ρ : Type} {r : Option ρ}, cv H 5 0 r = r) (e1 : H = setR v A H) (z : 32 ≤ H.2.1)
    (hc : ∀ g : Hp, 31 ≤ g.2.1 → ∃ (y : Int32) (H2 : Hp) (L' : Nat) (Gn' : Nat → Nat → Nat) (al' bn' : Nat → Nat) (P' : Nat → Int64) (Q' : Nat → Int32) (v' : Nat → Int32) (A' : Nat → Nat → Int32), call = some (.inl y, H2) ∧ refm (setR v A g) = some (y, setR v' A' g) ∧ v' 7 = 0 ∧ (∃ o, At H2 31 (.inl (1, 1, .inr (.inl o)))) ∧ 32 ≤ H2.2.1 ∧ H2.2.1 ≤ 32 + 200 * (k + 1) ∧ H2.2.2 ≤ 300000 + 2000 * (k + 1) ∧ L' ≤ k + 1 ∧ CKs P' Q' L' Gn' ∧ H2.1 7 = .inl (1, 32768, .inr (.inl P')) ∧ H2.1 8 = .inl (0, 32768, .inl Q') ∧ (∀ a, 20 ≤ a → a ≤ 30 → H2.1 a = H.1 a) ∧ Brd (k + 1) L' Gn' H2 v' A' al' bn' ∧ Hst (k + 1) L' Gn' H2 v' A' ∧ Rdr H2 v' A') : Agr k (mLq H call gx) refm := by
  obtain ⟨y, H2, _, _, _, _, _, _, _, _, hcall, _, _, ⟨o, ho⟩, z2, _, _, _, _, _, _, eR, _⟩ := hc H (by omega)
  generalize hH3 : hset H2 31 (.inl (1, 1, .inr (.inl (vp_updL o 0 (Int32.toInt64 y))))) = H3
  have f : Fr H2 H3 (fun a => a = 31) 0 0 := by rw [← hH3]; exact Fr_set rfl
  have z1 : 31 ≤ H3.2.1 := by have := f.1; omega
  have eR3 : H3 = setR v A H3 := setR_of e1 fun a h1 h2 => (f.2.2.2 a (by omega) (fun e => by have : a = 31 := e; omega)).trans (eR a h1 h2)
  have a31 : At H3 31 (.inl (1, 1, .inr (.inl (vp_updL o 0 (Int32.toInt64 y))))) := by rw [← hH3]; exact at_set_eq ho
  obtain ⟨y', H2', L', Gn', al', bn', P', Q', v', A', hcall', er, hv7, _, _, s1, s2, hL, hCK, h7, h8, _, b1, b2, b3⟩ := hc H3 z1
  obtain ⟨q1, q2⟩ := Prod.mk.inj (Option.some.inj (hcall.symm.trans hcall'))
  have q1 := Sum.inl.inj q1
  subst q1 q2
  have F : Fr H2 (setR v' A' H3) SQy 0 0 := Fr_trans (n := 0) (m := 0) (Fr_mono f (T := SQy) (fun a e => .inr (.inr (by have : a = 31 := e; omega))) (Nat.le_refl _) (Nat.le_refl _)) (setR_fr fun a h1 h2 => .inr (.inr (by omega)))
  have g7 : (setR v' A' H3).1 7 = H2.1 7 := by rw [← hH3]; rfl
  have g8 : (setR v' A' H3).1 8 = H2.1 8 := by rw [← hH3]; rfl
  refine ⟨0, H3, y, setR v' A' H3, ?_, fun {ρ} {r} => by rw [eR3]; exact r_cv z1, (congrArg refm eR3).trans er, fun K => lwT_ok z1 hv7 (fun _ => ⟨⟨a31.1, a31.2⟩, rfl⟩) K, v', A', L', Gn', al', bn', P', Q', setR_setR.symm, wC_self (g7.trans h7) (g8.trans h8), hCK, Nat.le_trans z2 F.1, hL, Nat.le_trans F.2.1 (by omega), Nat.le_trans F.2.2.1 (by omega), Brd_fr SQ_off F b1 rfl rfl rfl (Nat.le_refl _), Hst_fr SQ_h F b2 rfl rfl rfl rfl (Nat.le_refl _), Rdr_fr SQ_r F b3 rfl rfl rfl, _, a31.1, a31.2⟩
  unfold mLq
  rw [hcv, hcall]
  show (sL H2 1 31 (nI 0) (Int32.toInt64 y)).bind _ = _
  rw [at_sL ho (by decide) (by decide), Option.bind_some, hH3]
