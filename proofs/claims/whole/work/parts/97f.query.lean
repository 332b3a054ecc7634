/-! a call answered alike; queries -/
def lwT (t : Int32) (K : Hp → Option (Bool × Hp)) (x30 : Int32) (h31 : Hp) : Option (Bool × Hp) :=
  cv h31 6 20 <| (m_X6_thrown 20 h31).bind fun x32 =>
  if x32 = t then
    if t = 0 then
      (aL h31 1 31 (0 : Int32)).bind fun x33 =>
      if (lg_cmp x33 (Int32.toInt64 x30)) = 0 then
        K h31
      else
        some (false, h31)
    else
      K h31
  else
    some (false, h31)
/-- both sides answer the same, and what stands between two calls stands again -/
def Agr (k : Nat) (cls : Option (Int32 × Hp)) (refm : Hp → Option (Int32 × Hp)) : Prop := ∃ t H1 x H2, cls = some (t, H1) ∧ (∀ {ρ : Type} {r : Option ρ}, cv H1 6 20 r = r) ∧ refm H1 = some (x, H2) ∧ (∀ K, lwT t K x H2 = K H2) ∧ InvP (k + 1) H2
theorem lg_eq (x : Int64) : lg_cmp x x = 0 := by
  unfold lg_cmp
  simp
theorem lwT_ok {t x : Int32} {v : Nat → Int32} {A : Nat → Nat → Int32} {g : Hp} {o : Nat → Int64} (hz : 31 ≤ g.2.1) (hv : v 7 = t) (ho : t = 0 → At (setR v A g) 31 (.inl (1, 1, .inr (.inl o))) ∧ o 0 = Int32.toInt64 x) (K : Hp → Option (Bool × Hp)) : lwT t K x (setR v A g) = K (setR v A g) := by
  unfold lwT m_X6_thrown
  rw [r_cv hz, rg7 hz, hv, Option.bind_some, Option.bind_some, if_pos rfl]
  by_cases h0 : t = 0
  · obtain ⟨h1, h2⟩ := ho h0
    have e : aL (setR v A g) 1 31 (0 : Int32) = some (o 0) := at_aL (k := 0) h1 (by decide) (by decide)
    rw [if_pos h0, e, Option.bind_some, h2, lg_eq, if_pos rfl]
  · rw [if_neg h0]
def mLq (H : Hp) (call : Option ((Int32 ⊕ Nat) × Hp)) (gx : Nat → Hp → Option (Int32 × Hp)) : Option (Int32 × Hp) :=
  cv H 5 0 <| bX call (fun y2 h3 =>
    (sL h3 1 31 (0 : Int32) (Int32.toInt64 y2)).bind fun h4 =>
    some ((0 : Int32), h4)
  ) gx
section QRY
variable {k L : Nat} {H : Hp} {v : Nat → Int32} {A : Nat → Nat → Int32} {Gn : Nat → Nat → Nat} {al bn : Nat → Nat} {P P' : Nat → Int64} {Q Q' : Nat → Int32} {o : Nat → Int64}
/-- what is known before a call -/
def Kn0 (k : Nat) (H : Hp) (v : Nat → Int32) (A : Nat → Nat → Int32) (L : Nat) (Gn : Nat → Nat → Nat) (al bn : Nat → Nat) (P : Nat → Int64) (Q : Nat → Int32) : Prop := H = setR v A H ∧ H = wC H P Q ∧ CKs P Q L Gn ∧ 32 ≤ H.2.1 ∧ L ≤ k ∧ H.2.1 ≤ 32 + 200 * k ∧ H.2.2 ≤ 300000 + 2000 * k ∧ Brd k L Gn H v A al bn ∧ Hst k L Gn H v A ∧ Rdr H v A ∧ ∃ o, At H 31 (.inl (1, 1, .inr (.inl o)))
def SQy (a : Nat) : Prop := a = 7 ∨ a = 8 ∨ (20 ≤ a ∧ a ≤ 31)
theorem SQ_off : OffS SQy := fun _ e => e
theorem SQ_h : OffH SQy := fun a e => by rcases e with e | e | e <;> omega
theorem SQ_r : OffR SQy := fun a e => by rcases e with e | e | e <;> omega
/-- a query's end: H1 after the class, the reference's part changed -/
theorem InvP_q {H1 : Hp} {M B : Nat → Int32} {t : Int32} (I : Kn0 k H v A L Gn al bn P Q) (hCK : CKs P' Q' L Gn) (f : Fr H H1 (fun a => a = 7 ∨ a = 8 ∨ a = 31) 1 6) (h7 : H1.1 7 = .inl (1, 32768, .inr (.inl P'))) (h8 : H1.1 8 = .inl (0, 32768, .inl Q')) (ho : ∃ o, At H1 31 (.inl (1, 1, .inr (.inl o)))) : InvP (k + 1) (setR (upd v 7 t) (wq A M B) H1) := by
  obtain ⟨e1, e2, c1, z, hL, s1, s2, b1, b2, b3, -⟩ := I
  have F2 : Fr H1 (setR (upd v 7 t) (wq A M B) H1) SQy 0 0 := ⟨Nat.le_refl _, Nat.le_refl _, Nat.le_refl _, fun a _ hs => by
    show (if a = 20 then _ else if 21 ≤ a ∧ a ≤ 30 then _ else H1.1 a) = _
    have hs' : ¬ (a = 7 ∨ a = 8 ∨ (20 ≤ a ∧ a ≤ 31)) := hs
    rw [if_neg (by omega), if_neg (by omega)]⟩
  have F := Fr_trans (Fr_mono f (T := SQy) (fun a e => by
    rcases e with e | e | e
    · exact .inl e
    · exact .inr (.inl e)
    · exact .inr (.inr ⟨by omega, by omega⟩)) (Nat.le_refl _) (Nat.le_refl _)) F2
  have hv : ∀ i, i ≠ 7 → upd v 7 t i = v i := fun i hi => if_neg hi
  have hA : ∀ j, j ≠ 7 → j ≠ 8 → wq A M B j = A j := fun j h1 h2 => wq_o h1 h2
  refine ⟨upd v 7 t, wq A M B, L, Gn, al, bn, P', Q', setR_setR.symm, wC_self h7 h8, hCK, Nat.le_trans z F.1, by omega, ?_, ?_, Brd_fr SQ_off F b1 (hv _ (by decide)) (hA _ (by decide) (by decide)) (hA _ (by decide) (by decide)) (Nat.le_succ k), Hst_fr SQ_h F b2 (hv _ (by decide)) (hA _ (by decide) (by decide)) (hA _ (by decide) (by decide)) (hA _ (by decide) (by decide)) (Nat.le_succ k), Rdr_fr SQ_r F b3 (hv _ (by decide)) (hv _ (by decide)) (hA _ (by decide) (by decide)), ?_⟩
  · have := F.2.1; omega
  · have := F.2.2.1; omega
  · obtain ⟨o, ho⟩ := ho
    exact ⟨o, ho.1, ho.2⟩
theorem K_31 (I : Kn0 k H v A L Gn al bn P Q) : ∃ o, At (wC H P' Q') 31 (.inl (1, 1, .inr (.inl o))) := by
  obtain ⟨_, _, _, _, _, _, _, _, _, _, o, ho⟩ := I
  exact ⟨o, w_at ho (by decide) (by decide)⟩
theorem K_cv (I : Kn0 k H v A L Gn al bn P Q) {ρ : Type} {r : Option ρ} : cv H 5 0 r = r := by
  obtain ⟨_, _, _, _, _, _, _, ⟨_, _, _, _, V, _⟩, _⟩ := I
  exact at_cv V.2.1
theorem w_fr : Fr H (wC H P Q) (fun a => a = 7 ∨ a = 8 ∨ a = 31) 0 0 := ⟨Nat.le_refl _, Nat.le_refl _, Nat.le_refl _, fun a _ hs => by
  have hs' : ¬ (a = 7 ∨ a = 8 ∨ a = 31) := hs
  show (if a = 7 then _ else if a = 8 then _ else H.1 a) = _
  rw [if_neg (by omega), if_neg (by omega)]⟩
/-- a query that answers -/
theorem Agr_ok {y : Int32} {call : Option ((Int32 ⊕ Nat) × Hp)} {gx : Nat → Hp → Option (Int32 × Hp)} {refm : Hp → Option (Int32 × Hp)} (I : Kn0 k H v A L Gn al bn P Q) (hc : ∃ P' Q', CKs P' Q' L Gn ∧ call = some (.inl y, wC H P' Q')) (hr : ∀ g : Hp, 31 ≤ g.2.1 → ∃ M B, refm (setR v A g) = some (y, setR (upd v 7 0) (wq A M B) g)) : Agr k (mLq H call gx) refm := by
  obtain ⟨P', Q', c1, rfl⟩ := hc
  obtain ⟨o, ho⟩ := K_31 (P' := P') (Q' := Q') I
  have z : 32 ≤ H.2.1 := I.2.2.2.1
  generalize hH1 : hset (wC H P' Q') 31 (.inl (1, 1, .inr (.inl (vp_updL o 0 (Int32.toInt64 y))))) = H1
  have f : Fr H H1 (fun a => a = 7 ∨ a = 8 ∨ a = 31) 0 0 := by rw [← hH1]; exact Fr_trans w_fr (Fr_set (.inr (.inr rfl)))
  have z1 : 31 ≤ H1.2.1 := by have := f.1; omega
  have eR : H1 = setR v A H1 := setR_of I.1 fun a h1 h2 => f.2.2.2 a (by omega) (by omega)
  have a31 : At H1 31 (.inl (1, 1, .inr (.inl (vp_updL o 0 (Int32.toInt64 y))))) := by rw [← hH1]; exact at_set_eq ho
  obtain ⟨M, B, er⟩ := hr H1 z1
  refine ⟨0, H1, y, setR (upd v 7 0) (wq A M B) H1, ?_, fun {ρ} {r} => by rw [eR]; exact r_cv z1, (congrArg refm eR).trans er, fun K => lwT_ok z1 rfl (fun _ => ⟨⟨a31.1, a31.2⟩, rfl⟩) K, InvP_q I c1 (Fr_mono f (fun _ e => e) (by decide) (by decide)) ?_ ?_ ⟨_, a31⟩⟩
  · unfold mLq
    rw [K_cv I]
    show (sL (wC H P' Q') 1 31 (nI 0) (Int32.toInt64 y)).bind _ = _
    rw [at_sL ho (by decide) (by decide), Option.bind_some, hH1]
  · rw [← hH1]; rfl
  · rw [← hH1]; rfl
/-- a query that throws -/
theorem Agr_thr {e cl : Nat} {t x : Int32} {call : Option ((Int32 ⊕ Nat) × Hp)} {gx : Nat → Hp → Option (Int32 × Hp)} {refm : Hp → Option (Int32 × Hp)} (I : Kn0 k H v A L Gn al bn P Q) (hc : call = some (.inr e, hpush (wC H P Q) (.inr (cl, [])) 6)) (hg : ∀ h, gx e h = some (t, h)) (ht : t ≠ 0) (hr : ∀ g : Hp, 31 ≤ g.2.1 → refm (setR v A g) = some (x, setR (upd v 7 t) A g)) : Agr k (mLq H call gx) refm := by
  subst hc
  obtain ⟨o, ho⟩ := K_31 (P' := P) (Q' := Q) I
  have z : 32 ≤ H.2.1 := I.2.2.2.1
  generalize hH1 : hpush (wC H P Q) (.inr (cl, [])) 6 = H1
  have f : Fr H H1 (fun a => a = 7 ∨ a = 8 ∨ a = 31) 1 6 := by rw [← hH1]; exact Fr_trans w_fr Fr_push
  have z1 : 31 ≤ H1.2.1 := by have := f.1; omega
  have eR : H1 = setR v A H1 := setR_of I.1 fun a h1 h2 => f.2.2.2 a (by omega) (by omega)
  have a31 : At H1 31 (.inl (1, 1, .inr (.inl o))) := by rw [← hH1]; exact at_push ho
  have er := hr H1 z1
  rw [← wq_self (A := A)] at er
  refine ⟨t, H1, x, setR (upd v 7 t) (wq A (A 7) (A 8)) H1, ?_, fun {ρ} {r} => by rw [eR]; exact r_cv z1, ?_, fun K => lwT_ok (o := o) z1 rfl (fun e => absurd e ht) K, InvP_q I I.2.2.1 f ?_ ?_ ⟨_, a31⟩⟩
  · unfold mLq
    rw [K_cv I]
    show gx e H1 = _
    rw [hg]
  · have e2 := congrArg refm eR
    rw [← wq_self (A := A)] at e2
    exact e2.trans er
  · rw [← hH1]
    show (if 7 = H.2.1 then _ else (wC H P Q).1 7) = _
    rw [if_neg (show ¬ 7 = H.2.1 by omega)]
    rfl
  · rw [← hH1]
    show (if 8 = H.2.1 then _ else (wC H P Q).1 8) = _
    rw [if_neg (show ¬ 8 = H.2.1 by omega)]
    rfl
end QRY
