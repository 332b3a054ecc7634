/-! what the class answers of values: against numbers -/
theorem mks_ge {n m : Nat} {p : Nat → Bool} (h : n ≤ m) (hp : ∀ i, n ≤ i → p i = false) : mks n p = mks m p := bit_eq fun i => by
  rw [tb_mks, tb_mks, Bool.and_eq_true, Bool.and_eq_true, decide_eq_true_eq, decide_eq_true_eq]
  refine ⟨fun e => ⟨by omega, e.2⟩, fun e => ⟨?_, e.2⟩⟩
  rcases Nat.lt_or_ge i n with h1 | h1
  · exact h1
  · rw [hp i h1] at e
    cases e.2
theorem lo_eq {s c : Nat} (hs : s < 512) (h : s.testBit c = true) (hl : ∀ i, i < c → s.testBit i = false) : lo s = c := by
  have h9 := bit_lt hs h
  have h0 : s ≠ 0 := ne_0.mpr ⟨c, h⟩
  refine Nat.le_antisymm (lo_min h h9) ?_
  rcases Nat.lt_or_ge (lo s) c with h1 | h1
  · have := hl _ h1
    rw [(lo_ok hs h0).2] at this
    cases this
  · exact h1
/-- the colours by which a lay on u wins -/
def wof (al b : Nat → Nat) (u : Nat) : Nat := mks 3 (fun c => (chs al b u).testBit c && ((brd (ly al u c)).1 == al 2 % 2))
theorem wof_lt {al b : Nat → Nat} {u : Nat} : wof al b u < 8 := mks_lt _ 3
theorem wof_tb {al b : Nat → Nat} {u c : Nat} : (wof al b u).testBit c = true ↔ c < 3 ∧ (chs al b u).testBit c = true ∧ (brd (ly al u c)).1 = al 2 % 2 := by
  unfold wof
  rw [tb_mks, Bool.and_eq_true, Bool.and_eq_true, decide_eq_true_eq, beq_iff_eq]
def pwn (al : Nat → Nat) : Bool := decide (0 < al 2) && ((brd al).1 ^^^ (al 2 - 1) % 2 == 0)
/-- the best lay so far: its code, the longest game behind it -/
def upS : Option (Nat × Nat) → Nat → Nat → Option (Nat × Nat)
  | none, x, k => some (k, x)
  | some q, x, k => if q.2 < x then some (k, x) else some q
theorem upS_n {x k : Nat} : upS none x k = some (k, x) := rfl
theorem upS_s {q : Nat × Nat} {x k : Nat} : upS (some q) x k = if q.2 < x then some (k, x) else some q := rfl
def sc1 (al b : Nat → Nat) (v n : Nat) (s : Option (Nat × Nat)) : Option (Nat × Nat) := itN n (fun c s => if (chs al b v).testBit c then upS s ((brd (ly al v c)).2.1 + al 2) (4 * v + c) else s) s
def scN (al b : Nat → Nat) (n : Nat) : Option (Nat × Nat) := itN n (fun v s => sc1 al b v 3 s) none
theorem sc1_s {al b : Nat → Nat} {v n : Nat} {s : Option (Nat × Nat)} : sc1 al b v (n + 1) s = if (chs al b v).testBit n then upS (sc1 al b v n s) ((brd (ly al v n)).2.1 + al 2) (4 * v + n) else sc1 al b v n s := rfl
theorem sc1_0 {al b : Nat → Nat} {v : Nat} {s : Option (Nat × Nat)} : sc1 al b v 0 s = s := rfl
theorem sc_s {al b : Nat → Nat} {n : Nat} : scN al b (n + 1) = sc1 al b n 3 (scN al b n) := rfl
theorem sc_0 {al b : Nat → Nat} : scN al b 0 = none := rfl
def fw (al b : Nat → Nat) : Option Nat := (List.range (al 0)).find? (fun v => wof al b v != 0)
theorem fw_some {al b : Nat → Nat} {v : Nat} (hv : v < al 0) (h : wof al b v ≠ 0) (hl : ∀ i, i < v → wof al b i = 0) : fw al b = some v := by
  unfold fw
  rw [List.find?_range_eq_some]
  refine ⟨by simpa using h, List.mem_range.mpr hv, fun i hi => by simp [hl i hi]⟩
theorem fw_none {al b : Nat → Nat} (hl : ∀ i, i < al 0 → wof al b i = 0) : fw al b = none := by
  unfold fw
  rw [List.find?_eq_none]
  intro i hi
  simp [hl i (List.mem_range.mp hi)]
/-- the best move -/
def bsN (al b : Nat → Nat) : Nat := (fw al b).elim (if pwn al then 100 else (scN al b (al 0)).elim 100 (fun q => if 0 < al 2 ∧ q.2 < (brd al).2.1 + al 2 - 1 then 100 else q.1)) (fun v => 4 * v + lo (wof al b v))
def cbA : Option (Nat × Nat) → Int32
  | none => nI 100
  | some q => nI q.1
def cbB : Option (Nat × Nat) → Int32
  | none => (-1 : Int32)
  | some q => nI q.2
def Gs (s : Option (Nat × Nat)) : Prop := ∀ q, s = some q → q.1 < 36 ∧ q.2 ≤ 18
theorem upS_gs {s : Option (Nat × Nat)} {x k : Nat} (h : Gs s) (hx : x ≤ 18) (hk : k < 36) : Gs (upS s x k) := by
  intro q hq
  cases s with
  | none =>
    cases hq
    exact ⟨hk, hx⟩
  | some p =>
    rw [upS_s] at hq
    by_cases e : p.2 < x
    · rw [if_pos e] at hq
      cases hq
      exact ⟨hk, hx⟩
    · rw [if_neg e] at hq
      cases hq
      exact h _ rfl
theorem Gs_n : Gs none := fun q h => by cases h
theorem m1_lt {n : Nat} (h : n < 2 ^ 31) : ¬ nI n ≤ (-1 : Int32) := by
  rw [Int32.le_iff_toInt_le, nI_toInt h]
  have : (-1 : Int32).toInt = -1 := by decide
  omega
/-- what the queries of values stand on -/
def Cd (g : Hp) (w ld : Nat) : Prop := At g 0 (.inr (5, [.ref 2, .ref 1, .ref 9, .ref 16, .ref 18, .ref 19, .int (nI w), .int (nI ld)]))
def Vx (g : Hp) (num : Nat) (al bn : Nat → Nat) (lat : Option Nat) (L : Nat) (Gn : Nat → Nat → Nat) (w ld : Nat) : Prop := Slv g num al bn lat L Gn ∧ Cd g w ld ∧ Fw al ∧ Bk al bn ∧ Ub al
theorem chs_in {al b : Nat → Nat} {u c : Nat} (h : (chs al b u).testBit c = true) : (fre al).testBit u = true ∧ c < al 1 := by
  have := chs_tb.mp h
  exact ⟨(wn_0.mp this.2).1, this.1⟩
section VX
variable {g : Hp} {P : Nat → Int64} {Q : Nat → Int32} {num L w ld : Nat} {al bn : Nat → Nat} {lat : Option Nat} {Gn : Nat → Nat → Nat}
theorem v_cv (V : Vx g num al bn lat L Gn w ld) {ρ : Type} {r : Option ρ} : cv (wC g P Q) 5 0 r = r := at_cv (w_at V.2.1 (by decide) (by decide))
theorem v_0 (V : Vx g num al bn lat L Gn w ld) : gR (wC g P Q) 5 0 0 = some 2 := at_gR (w_at V.2.1 (by decide) (by decide)) rfl
theorem v_1 (V : Vx g num al bn lat L Gn w ld) : gR (wC g P Q) 5 0 1 = some 1 := at_gR (w_at V.2.1 (by decide) (by decide)) rfl
theorem v_B (V : Vx g num al bn lat L Gn w ld) : BdH (wC g P Q) 2 num al bn lat := w_Bd V.1.2.2.1
theorem v_R (V : Vx g num al bn lat L Gn w ld) : Rg al := V.1.2.2.2.1
theorem x_pv (V : Vx g num al bn lat L Gn w ld) : m_X0_passValue 2 (wC g P Q) = some (nI (al 2 % 2)) := by
  unfold m_X0_passValue
  rw [bd_P (v_B V), Option.bind_some, show (1 : Int32) = nI 1 from rfl, nI_and, Nat.and_one_is_mod]
theorem x_all (V : Vx g num al bn lat L Gn w ld) (hP : CKs P Q L Gn) : ∃ P' Q', CKs P' Q' L Gn ∧ m_X4_ofPartsIn 1 (nI (fre al)) (wC g P Q) = some (nI (pk (brd al)), wC g P' Q') := x_partsInS V.1 V.2.2.2.1 V.2.2.2.2 Cs_self hP
theorem x_bhd (V : Vx g num al bn lat L Gn w ld) {u c : Nat} (h : (chs al bn u).testBit c = true) (hP : CKs P Q L Gn) : ∃ P' Q', CKs P' Q' L Gn ∧ m_X4_behindLay 1 (nI u) (nI c) (wC g P Q) = some (nI (pk (brd (ly al u c))), wC g P' Q') := by
  obtain ⟨h1, h2⟩ := chs_in h
  have := (v_R V).2.1
  exact x_behindLay V.1 V.2.2.1 V.2.2.2.1 V.2.2.2.2 h1 (by omega) hP
theorem ly_bd (V : Vx g num al bn lat L Gn w ld) {u c : Nat} (h : (chs al bn u).testBit c = true) : Bd3 (brd (ly al u c)) 9 := by
  obtain ⟨h1, h2⟩ := chs_in h
  have := (v_R V).2.1
  exact brd_bd (Rg_ly (v_R V) (fre_0 h1).1 (by omega))
theorem x_value (V : Vx g num al bn lat L Gn w ld) (hP : CKs P Q L Gn) : ∃ P' Q', CKs P' Q' L Gn ∧ m_X5_value 0 (wC g P Q) = some (nI ((brd al).1 ^^^ al 2 % 2), wC g P' Q') := by
  obtain ⟨P1, Q1, hP1, e⟩ := x_all V hP
  refine ⟨P1, Q1, hP1, ?_⟩
  unfold m_X5_value
  rw [v_1 V, Option.bind_some, v_0 V, Option.bind_some, bd_f (v_B V), Option.bind_some, s_cv V.1, e, e_b2, c_value (brd_bd (v_R V)) (by decide), Option.bind_some, v_0 V, Option.bind_some, bd_cv (v_B V), x_pv V, Option.bind_some, nI_xor]
theorem x_longest (V : Vx g num al bn lat L Gn w ld) (hP : CKs P Q L Gn) : ∃ P' Q', CKs P' Q' L Gn ∧ m_X5_longest 0 (wC g P Q) = some (nI ((brd al).2.1 + al 2), wC g P' Q') := by
  obtain ⟨P1, Q1, hP1, e⟩ := x_all V hP
  refine ⟨P1, Q1, hP1, ?_⟩
  unfold m_X5_longest
  rw [v_1 V, Option.bind_some, v_0 V, Option.bind_some, bd_f (v_B V), Option.bind_some, s_cv V.1, e, e_b2, c_long (brd_bd (v_R V)) (by decide), Option.bind_some, v_0 V, Option.bind_some, bd_P (v_B V), Option.bind_some, nI_add]
theorem x_shortest (V : Vx g num al bn lat L Gn w ld) (hP : CKs P Q L Gn) : ∃ P' Q', CKs P' Q' L Gn ∧ m_X5_shortest 0 (wC g P Q) = some (nI ((brd al).2.2 + al 2), wC g P' Q') := by
  obtain ⟨P1, Q1, hP1, e⟩ := x_all V hP
  refine ⟨P1, Q1, hP1, ?_⟩
  unfold m_X5_shortest
  rw [v_1 V, Option.bind_some, v_0 V, Option.bind_some, bd_f (v_B V), Option.bind_some, s_cv V.1, e, e_b2, c_short (brd_bd (v_R V)) (by decide), Option.bind_some, v_0 V, Option.bind_some, bd_P (v_B V), Option.bind_some, nI_add]
theorem x_passWins (V : Vx g num al bn lat L Gn w ld) (hP : CKs P Q L Gn) : ∃ P' Q', CKs P' Q' L Gn ∧ m_X5_passWins 0 (wC g P Q) = some (pwn al, wC g P' Q') := by
  obtain ⟨P1, Q1, hP1, e⟩ := x_all V hP
  refine ⟨P1, Q1, hP1, ?_⟩
  have hb := brd_bd (v_R V)
  have h2 := (v_R V).2.2.1
  unfold m_X5_passWins
  rw [v_1 V, Option.bind_some, v_0 V, Option.bind_some, bd_f (v_B V), Option.bind_some, s_cv V.1, e, e_b2, c_value hb (by decide), Option.bind_some, v_0 V, Option.bind_some, bd_cv (v_B V), x_pv V, Option.bind_some, nI_xor, show (1 : Int32) = nI 1 from rfl, nI_xor]
  simp only [e_nm]
  rw [Option.bind_some, bd_P (v_B V), Option.bind_some]
  unfold pwn
  have h1 := hb.1
  generalize (brd al).1 = a at h1 ⊢
  generalize al 2 = t at h2 ⊢
  have d : ∀ a, a < 10 → ∀ t, t < 10 → ∀ H : Hp, (if nI t ≤ 0 then some (false, H) else if nI (a ^^^ t % 2 ^^^ 1) = 0 then some (true, H) else some (false, H)) = some ((decide (0 < t) && (a ^^^ (t - 1) % 2 == 0)), H) := by
    intro a ha t ht H
    have d1 : ∀ a, a < 10 → ∀ t, t < 10 → (if nI t ≤ 0 then false else if nI (a ^^^ t % 2 ^^^ 1) = 0 then true else false) = (decide (0 < t) && (a ^^^ (t - 1) % 2 == 0)) := by decide +kernel
    rw [← d1 a ha t ht]
    by_cases q1 : nI t ≤ 0
    · rw [if_pos q1, if_pos q1]
    · rw [if_neg q1, if_neg q1]
      by_cases q2 : nI (a ^^^ t % 2 ^^^ 1) = 0
      · rw [if_pos q2, if_pos q2]
      · rw [if_neg q2, if_neg q2]
  exact d a (by omega) t (by omega) _
end VX
