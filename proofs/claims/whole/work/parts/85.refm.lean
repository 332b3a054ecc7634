/-! the reference's changes -/
def cpA (A : Nat → Nat → Int32) (i p j q n : Nat) : Nat → Nat → Int32 := fun m => if m = i then (fun k => if p ≤ k ∧ k < p + n then A j (q + (k - p)) else A i k) else A m
theorem cpA_0 {A : Nat → Nat → Int32} {i p j q : Nat} : cpA A i p j q 0 = A := funext fun m => by
  unfold cpA
  by_cases h : m = i
  · rw [if_pos h, h]
    exact funext fun k => if_neg (by omega)
  · rw [if_neg h]
theorem cpA_s {A : Nat → Nat → Int32} {i p j q n : Nat} (hij : i ≠ j) : updA (cpA A i p j q n) i (p + n) (cpA A i p j q n j (q + n)) = cpA A i p j q (n + 1) := funext fun m => by
  have e0 : cpA A i p j q n j (q + n) = A j (q + n) := by
    unfold cpA
    rw [if_neg (fun e => hij e.symm)]
  rw [e0]
  unfold updA cpA
  by_cases h : m = i
  · rw [if_pos h, if_pos h, if_pos rfl]
    refine funext fun k => ?_
    show (if k = p + n then A j (q + n) else if p ≤ k ∧ k < p + n then A j (q + (k - p)) else A i k) = if p ≤ k ∧ k < p + (n + 1) then A j (q + (k - p)) else A i k
    by_cases h1 : k = p + n
    · rw [if_pos h1, if_pos ⟨by omega, by omega⟩, show k - p = n by omega]
    · rw [if_neg h1]
      by_cases h2 : p ≤ k ∧ k < p + n
      · rw [if_pos h2, if_pos ⟨h2.1, by omega⟩]
      · rw [if_neg h2, if_neg (fun e => h2 ⟨e.1, by omega⟩)]
  · rw [if_neg h, if_neg h, if_neg h]
def AlF (A : Nat → Nat → Int32) (al : Nat → Nat) : Prop := ∀ k, k < 4136 → A 0 k = nI (al k)
theorem AlF_al {A : Nat → Nat → Int32} {al : Nat → Nat} (h : AlF A al) : Al A al := fun k hk => h k (by omega)
theorem isIn_R (x : Int32) {n : Nat} (hn : n < 2 ^ 31) : m_X6_isIn x (0 : Int32) (nI n - (1 : Int32)) = some (decide (0 ≤ x.toInt ∧ x.toInt < n)) := by
  unfold m_X6_isIn
  by_cases h0 : x < 0
  · rw [if_pos h0, decide_eq_false]
    intro h1
    have := Int32.lt_iff_toInt_lt.mp h0
    have e : (0 : Int32).toInt = 0 := rfl
    omega
  · rw [if_neg h0]
    obtain ⟨j, hj, rfl⟩ := nI_of h0
    rw [nI_toInt hj]
    cases n with
    | zero =>
      rw [show nI 0 - (1 : Int32) = (-1 : Int32) from by decide +kernel, if_pos, decide_eq_false (by omega)]
      rw [Int32.lt_iff_toInt_lt, nI_toInt hj]
      have : (-1 : Int32).toInt = -1 := by decide
      omega
    | succ n =>
      rw [nI_pred]
      by_cases h1 : n < j
      · rw [iLt h1 hj, decide_eq_false (by omega)]
      · rw [iNlt (by omega) (by omega), decide_eq_true (by omega)]
theorem isIn_L (x : Int32) {m : Nat} (hm : m < 2 ^ 31) : m_X6_isIn x (0 : Int32) (nI m) = some (decide (0 ≤ x.toInt ∧ x.toInt ≤ m)) := by
  unfold m_X6_isIn
  by_cases h0 : x < 0
  · rw [if_pos h0, decide_eq_false]
    intro h1
    have := Int32.lt_iff_toInt_lt.mp h0
    have e : (0 : Int32).toInt = 0 := rfl
    omega
  · rw [if_neg h0]
    obtain ⟨j, hj, rfl⟩ := nI_of h0
    rw [nI_toInt hj]
    by_cases h1 : m < j
    · rw [iLt h1 hj, decide_eq_false (by omega)]
    · rw [iNlt (by omega) (by omega), decide_eq_true (by omega)]
theorem ofIn {x : Int32} {n : Nat} (h : 0 ≤ x.toInt ∧ x.toInt < n) : ∃ j, j < n ∧ x = nI j := by
  have h0 : ¬ x < 0 := fun e => by
    have := Int32.lt_iff_toInt_lt.mp e
    have e : (0 : Int32).toInt = 0 := rfl
    omega
  obtain ⟨j, hj, rfl⟩ := nI_of h0
  rw [nI_toInt hj] at h
  exact ⟨j, by omega, rfl⟩
theorem ofInL {x : Int32} {n : Nat} (h : 0 ≤ x.toInt ∧ x.toInt ≤ n) : ∃ j, j ≤ n ∧ x = nI j := by
  obtain ⟨j, hj, e⟩ := ofIn (n := n + 1) (x := x) ⟨h.1, by omega⟩
  exact ⟨j, by omega, e⟩
section RR
variable {v : Nat → Int32} {A : Nat → Nat → Int32} {h : Hp} {al b : Nat → Nat}
theorem rg (hz : 31 ≤ h.2.1) {k : Nat} (hk : (rO v)[k]? = some (.int (v k))) : gI (setR v A h) 6 20 k = some (v k) := at_gI (rAt hz) hk
theorem rp (hz : 31 ≤ h.2.1) {k : Nat} {x : Int32} (hk : (rO v).set k (.int x) = rO (upd v k x)) (hl : k < 22) : pV (setR v A h) 6 20 k (.int x) = some (setR (upd v k x) A h) := r_pV hz hk hl
theorem rg6 (hz : 31 ≤ h.2.1) : gI (setR v A h) 6 20 6 = some (v 6) := rg hz rfl
theorem rg7 (hz : 31 ≤ h.2.1) : gI (setR v A h) 6 20 7 = some (v 7) := rg hz rfl
theorem rg9 (hz : 31 ≤ h.2.1) : gI (setR v A h) 6 20 9 = some (v 9) := rg hz rfl
theorem rg17 (hz : 31 ≤ h.2.1) : gI (setR v A h) 6 20 17 = some (v 17) := rg hz rfl
theorem rg21 (hz : 31 ≤ h.2.1) : gI (setR v A h) 6 20 21 = some (v 21) := rg hz rfl
theorem yp6 (hz : 31 ≤ h.2.1) {x : Int32} : pV (setR v A h) 6 20 6 (.int x) = some (setR (upd v 6 x) A h) := rp hz rfl (by decide)
theorem yp7 (hz : 31 ≤ h.2.1) {x : Int32} : pV (setR v A h) 6 20 7 (.int x) = some (setR (upd v 7 x) A h) := rp hz rfl (by decide)
theorem yp9 (hz : 31 ≤ h.2.1) {x : Int32} : pV (setR v A h) 6 20 9 (.int x) = some (setR (upd v 9 x) A h) := rp hz rfl (by decide)
theorem yp21 (hz : 31 ≤ h.2.1) {x : Int32} : pV (setR v A h) 6 20 21 (.int x) = some (setR (upd v 21 x) A h) := rp hz rfl (by decide)
theorem r_24 (hz : 31 ≤ h.2.1) : gR (setR v A h) 6 20 3 = some 24 := at_gR (rAt hz) rfl
theorem r_25 (hz : 31 ≤ h.2.1) : gR (setR v A h) 6 20 4 = some 25 := at_gR (rAt hz) rfl
theorem r_26 (hz : 31 ≤ h.2.1) : gR (setR v A h) 6 20 5 = some 26 := at_gR (rAt hz) rfl
theorem r_22 (hz : 31 ≤ h.2.1) : gR (setR v A h) 6 20 1 = some 22 := at_gR (rAt hz) rfl
theorem r_23 (hz : 31 ≤ h.2.1) : gR (setR v A h) 6 20 2 = some 23 := at_gR (rAt hz) rfl
theorem r_27 (hz : 31 ≤ h.2.1) : gR (setR v A h) 6 20 8 = some 27 := at_gR (rAt hz) rfl
theorem r_30 (hz : 31 ≤ h.2.1) : gR (setR v A h) 6 20 20 = some 30 := at_gR (rAt hz) rfl
theorem y_sets (hz : 31 ≤ h.2.1) {i j p q : Nat} (hi : i < 5) (hj : j < 5) (hij : i ≠ j) (hp : p + 4136 ≤ rN i) (hq : q + 4136 ≤ rN j) : m_X6_sets (21 + i) (nI p) (21 + j) (nI q) (setR v A h) = some (setR v (cpA A i p j q 4136) h) := by
  have hT : ∀ i, i < 5 → rT i = 0 := by decide
  have rd : ∀ {B : Nat → Nat → Int32} {k}, k < rN j → aI (setR v B h) 0 (21 + j) (nI k) = some (B j k) := fun {B k} hk => by
    have := r_aI (v := v) (A := B) hz (show j < 10 by omega) hk
    rw [hT j hj] at this
    exact this
  have wr : ∀ {B : Nat → Nat → Int32} {k x}, k < rN i → sI (setR v B h) 0 (21 + i) (nI k) x = some (setR v (updA B i k x) h) := fun {B k x} hk => by
    have := r_sI (v := v) (A := B) (x := x) hz (show i < 10 by omega) hk (by rw [hT i hi]; rfl)
    rw [hT i hi] at this
    exact this
  unfold m_X6_sets
  have key := forQ (σ := Unit) (fun f n _ => m_X6_sets_L3 (21 + i) (nI p) (21 + j) (nI q) (fun h6 => some h6) f (nI n) (setR v (cpA A i p j q n) h)) 4136 (fun _ _ => True) (fun R => R = some (setR v (cpA A i p j q 4136) h)) (fun f n s hn _ e => ?_) (fun f s _ => ?_) LF 0 () (Nat.zero_le _) (by decide) trivial
  · have key' : m_X6_sets_L3 (21 + i) (nI p) (21 + j) (nI q) (fun h6 => some h6) LF (nI 0) (setR v (cpA A i p j q 0) h) = _ := key
    rw [cpA_0] at key'
    exact key'
  · have e' : m_X6_sets_L3 (21 + i) (nI p) (21 + j) (nI q) (fun h6 => some h6) f (nI (n + 1)) (setR v (cpA A i p j q (n + 1)) h) = _ := e () trivial
    show m_X6_sets_L3 (21 + i) (nI p) (21 + j) (nI q) (fun h6 => some h6) (f + 1) (nI n) (setR v (cpA A i p j q n) h) = _
    rw [m_X6_sets_L3, show (4136 : Int32) = nI 4136 from rfl, iNle hn (by decide), nI_add, nI_add, rd (by omega), Option.bind_some, wr (by omega), Option.bind_some, cpA_s hij]
    simp only [e_nm]
    rw [nI_1]
    exact e'
  · show m_X6_sets_L3 (21 + i) (nI p) (21 + j) (nI q) (fun h6 => some h6) (f + 1) (nI 4136) (setR v (cpA A i p j q 4136) h) = _
    rw [m_X6_sets_L3, show (4136 : Int32) = nI 4136 from rfl, iLe (Nat.le_refl _) (by decide)]
/-- the oldest board kept gives way -/
def shA3 (A : Nat → Nat → Int32) (n : Nat) : Nat → Nat → Int32 := fun m => if m = 3 then (fun k => if k < n then A 3 (k + 4136) else A 3 k) else A m
theorem y_shift (hz : 31 ≤ h.2.1) (K : Hp → Option Hp) : m_X6_keeps_L11 20 K LF (0 : Int32) (setR v A h) = K (setR v (shA3 A 28952) h) := by
  have rd : ∀ {B : Nat → Nat → Int32} {k}, k < 33088 → aI (setR v B h) 0 24 (nI k) = some (B 3 k) := fun {B k} hk => r_aI (i := 3) hz (by decide) hk
  have wr : ∀ {B : Nat → Nat → Int32} {k x}, k < 33088 → sI (setR v B h) 0 24 (nI k) x = some (setR v (updA B 3 k x) h) := fun {B k x} hk => r_sI (i := 3) hz (by decide) hk rfl
  have key := forQ (σ := Unit) (fun f n _ => m_X6_keeps_L11 20 K f (nI n) (setR v (shA3 A n) h)) 28952 (fun _ _ => True) (fun R => R = K (setR v (shA3 A 28952) h)) (fun f n s hn _ e => ?_) (fun f s _ => ?_) LF 0 () (Nat.zero_le _) (by decide) trivial
  · have key' : m_X6_keeps_L11 20 K LF (nI 0) (setR v (shA3 A 0) h) = _ := key
    have e0 : shA3 A 0 = A := funext fun m => by
      unfold shA3
      by_cases hm : m = 3
      · rw [if_pos hm, hm]
        exact funext fun k => if_neg (Nat.not_lt_zero k)
      · rw [if_neg hm]
    rw [e0] at key'
    exact key'
  · have e' : m_X6_keeps_L11 20 K f (nI (n + 1)) (setR v (shA3 A (n + 1)) h) = _ := e () trivial
    show m_X6_keeps_L11 20 K (f + 1) (nI n) (setR v (shA3 A n) h) = _
    have ev : shA3 A n 3 (n + 4136) = A 3 (n + 4136) := by
      unfold shA3
      rw [if_pos rfl, if_neg (by omega)]
    have es : updA (shA3 A n) 3 n (A 3 (n + 4136)) = shA3 A (n + 1) := funext fun m => by
      unfold updA shA3
      by_cases hm : m = 3
      · rw [if_pos hm, if_pos hm, if_pos rfl]
        refine funext fun k => ?_
        show (if k = n then A 3 (n + 4136) else if k < n then A 3 (k + 4136) else A 3 k) = if k < n + 1 then A 3 (k + 4136) else A 3 k
        by_cases h1 : k = n
        · rw [if_pos h1, if_pos (by omega), h1]
        · rw [if_neg h1]
          by_cases h2 : k < n
          · rw [if_pos h2, if_pos (by omega)]
          · rw [if_neg h2, if_neg (by omega)]
      · rw [if_neg hm, if_neg hm, if_neg hm]
    rw [m_X6_keeps_L11, show (28952 : Int32) = nI 28952 from rfl, iNle hn (by decide), r_24 hz, Option.bind_some, Option.bind_some, show (4136 : Int32) = nI 4136 from rfl, nI_add, rd (by omega), Option.bind_some, ev, wr (by omega), Option.bind_some, es]
    simp only [e_nm]
    rw [nI_1]
    exact e'
  · show m_X6_keeps_L11 20 K (f + 1) (nI 28952) (setR v (shA3 A 28952) h) = _
    rw [m_X6_keeps_L11, show (28952 : Int32) = nI 28952 from rfl, iLe (Nat.le_refl _) (by decide)]
theorem y_keeps (hz : 31 ≤ h.2.1) {n : Nat} (hn : n ≤ 8) (h6 : v 6 = nI n) : ∃ A', m_X6_keeps 20 (setR v A h) = some (setR (upd v 6 (nI (min (n + 1) 8))) A' h) ∧ (∀ j, j ≠ 3 → A' j = A j) ∧ ∀ i k, i < min (n + 1) 8 → k < 4136 → A' 3 (4136 * i + k) = if i + 1 = min (n + 1) 8 then A 0 k else A 3 (4136 * (i + (if n = 8 then 1 else 0)) + k) := by
  have rest : ∀ (w : Nat → Int32) (B : Nat → Nat → Int32) m, m < 8 → w 6 = nI m → ((gR (setR w B h) 6 20 3).bind fun a4 => (gI (setR w B h) 6 20 6).bind fun x5 => (gR (setR w B h) 6 20 0).bind fun a6 => (m_X6_sets a4 ((4136 : Int32) * x5) a6 (0 : Int32) (setR w B h)).bind fun h7 => (gI h7 6 20 6).bind fun x8 => (pV h7 6 20 6 (.int (x8 + (1 : Int32)))).bind fun h9 => some h9) = some (setR (upd w 6 (nI (m + 1))) (cpA B 3 (4136 * m) 0 0 4136) h) := by
    intro w B m hm hw
    have es : m_X6_sets 24 (nI (4136 * m)) 21 (0 : Int32) (setR w B h) = some (setR w (cpA B 3 (4136 * m) 0 0 4136) h) := y_sets (i := 3) (j := 0) (q := 0) hz (by decide) (by decide) (by decide) (by show 4136 * m + 4136 ≤ 33088; omega) (by decide)
    rw [r_24 hz, Option.bind_some, rg6 hz, hw, Option.bind_some, r_a hz, Option.bind_some, show (4136 : Int32) = nI 4136 from rfl, pk_mul, es, Option.bind_some, rg6 hz, hw, Option.bind_some, nI_1, yp6 hz, Option.bind_some]
  unfold m_X6_keeps
  rw [rg6 hz, h6, Option.bind_some]
  simp only [e_jK]
  by_cases h8 : n = 8
  · subst h8
    refine ⟨cpA (shA3 A 28952) 3 (4136 * 7) 0 0 4136, ?_, fun j hj => ?_, fun i k hi hk => ?_⟩
    · rw [if_pos (show nI 8 = (8 : Int32) from rfl), y_shift hz, rg6 hz, h6, Option.bind_some, nI_pred, yp6 hz, Option.bind_some, rest (upd v 6 (nI 7)) (shA3 A 28952) 7 (by decide) rfl]
      have : upd (upd v 6 (nI 7)) 6 (nI (7 + 1)) = upd v 6 (nI (min (8 + 1) 8)) := funext fun k => by
        show (if k = 6 then nI (7 + 1) else if k = 6 then nI 7 else v k) = if k = 6 then nI (min (8 + 1) 8) else v k
        by_cases e : k = 6
        · rw [if_pos e, if_pos e]
          rfl
        · rw [if_neg e, if_neg e, if_neg e]
      rw [this]
    · show (if j = 3 then _ else if j = 3 then _ else A j) = A j
      rw [if_neg hj, if_neg hj]
    · have hi8 : i < 8 := hi
      show (if 4136 * 7 ≤ 4136 * i + k ∧ 4136 * i + k < 4136 * 7 + 4136 then A 0 (0 + (4136 * i + k - 4136 * 7)) else if 4136 * i + k < 28952 then A 3 (4136 * i + k + 4136) else A 3 (4136 * i + k)) = if i + 1 = 8 then A 0 k else A 3 (4136 * (i + 1) + k)
      by_cases h7 : i = 7
      · subst h7
        rw [if_pos ⟨by omega, by omega⟩, if_pos rfl, show 0 + (4136 * 7 + k - 4136 * 7) = k by omega]
      · rw [if_neg (by omega), if_pos (by omega), if_neg (by omega), show 4136 * i + k + 4136 = 4136 * (i + 1) + k by omega]
  · refine ⟨cpA A 3 (4136 * n) 0 0 4136, ?_, fun j hj => ?_, fun i k hi hk => ?_⟩
    · rw [if_neg (show ¬ nI n = (8 : Int32) from fun e => h8 ((nI_eq (b := 8) (by omega) (by decide)).mp e)), rest v A n (by omega) h6, show min (n + 1) 8 = n + 1 by omega]
    · show (if j = 3 then _ else A j) = A j
      rw [if_neg hj]
    · rw [show min (n + 1) 8 = n + 1 by omega] at hi ⊢
      rw [if_neg h8]
      show (if 4136 * n ≤ 4136 * i + k ∧ 4136 * i + k < 4136 * n + 4136 then A 0 (0 + (4136 * i + k - 4136 * n)) else A 3 (4136 * i + k)) = _
      by_cases h7 : i = n
      · subst h7
        rw [if_pos ⟨by omega, by omega⟩, if_pos rfl, show 0 + (4136 * i + k - 4136 * i) = k by omega]
      · rw [if_neg (by omega), if_neg (by omega)]
        rfl
theorem or_sh {m k s : Nat} (h : m < 2 ^ s) : m ||| k * 2 ^ s = m + 2 ^ s * k := by
  rw [Nat.or_comm, Nat.mul_comm, ← Nat.two_pow_add_eq_or_of_lt h, Nat.add_comm]
theorem mv_pack {t a c p q : Nat} (ht : t < 2) (ha : a < 16) (hc : c < 4) (hp : p < 16) (hq : q < 100) : (((nI t ||| (nI a <<< ((1 : Int32) &&& 31))) ||| (nI c <<< ((5 : Int32) &&& 31))) ||| (nI p <<< ((7 : Int32) &&& 31))) ||| (nI q <<< ((11 : Int32) &&& 31)) = nI (t + 2 * a + 32 * c + 128 * p + 2048 * q) := by
  rw [pk_shlN _ 1 (by decide) (by omega), pk_shlN _ 5 (by decide) (by omega), pk_shlN _ 7 (by decide) (by omega), pk_shlN _ 11 (by decide) (by omega), nI_or, or_sh (by omega), nI_or, or_sh (by omega), nI_or, or_sh (by omega), nI_or, or_sh (by omega)]
/-- a move written into the reference's array -/
theorem y_notes (hz : 31 ≤ h.2.1) (ha : Al A al) (R : Rg al) {a c q : Nat} {p1 p2 : Int32} (h1 : p1 + (1 : Int32) = nI a) (h2 : p2 + (1 : Int32) = nI c) (ha9 : a ≤ 9) (hc3 : c ≤ 3) (hq : q ≤ 9) : m_X6_notes 20 p1 p2 (nI q) (setR v A h) = some (setR v (updA (updA A 0 (40 + al 3) (nI (mvP (al 3 % 2) a c (np (nrf al) (fre al)) q))) 0 3 (nI (al 3 + 1))) h) := by
  have h3 := R.2.2.2.1
  have hnp := np_le (nr := nrf al) (set := fre al)
  have hpk := mv_pack (t := al 3 % 2) (a := a) (c := c) (p := np (nrf al) (fre al)) (q := q) (by omega) (by omega) (by omega) (by omega) (by omega)
  have hturn : m_X6_turn 20 (setR v A h) = some (nI (al 3 % 2)) := by
    unfold m_X6_turn
    rw [r_a hz, Option.bind_some, r_al3 hz ha, Option.bind_some, i_rem2 (by omega)]
  unfold m_X6_notes
  rw [r_cv hz, y_freeSet hz ha R, Option.bind_some, r_cv hz, y_partsIn hz ha R (sy_Rg R) (fre_lt R) (fun i hi => fre_N hi), Option.bind_some, r_a hz, Option.bind_some, Option.bind_some, r_al3 hz ha, Option.bind_some, r_cv hz, hturn, Option.bind_some, h1, h2, hpk, show (40 : Int32) = nI 40 from rfl, nI_add, r_s0 hz (by omega), Option.bind_some, r_a hz, Option.bind_some]
  have e3 : aI (setR v (updA A 0 (40 + al 3) (nI (al 3 % 2 + 2 * a + 32 * c + 128 * np (nrf al) (fre al) + 2048 * q))) h) 0 21 (3 : Int32) = some (nI (al 3)) := (r_a0 (k := 3) hz (by decide)).trans (by
    show some (if 3 = 40 + al 3 then _ else A 0 3) = _
    rw [if_neg (by omega), ha 3 (by decide)])
  have s3 : ∀ {B : Nat → Nat → Int32} {x}, sI (setR v B h) 0 21 (3 : Int32) x = some (setR v (updA B 0 3 x) h) := fun {B x} => r_s0 (k := 3) hz (by decide)
  rw [e3, Option.bind_some, nI_1, s3, Option.bind_some]
  rfl
theorem y_lays (hz : 31 ≤ h.2.1) (ha : AlF A al) (R : Rg al) {u c : Nat} (hu : (fre al).testBit u = true) (hc : c < al 1) (h3 : al 3 < 4095) : ∃ A', m_X6_lays 20 (nI u) (nI c) (setR v A h) = some (setR v A' h) ∧ (∀ j, j ≠ 0 → A' j = A j) ∧ AlF A' (lyN al u c) := by
  have hA := AlF_al ha
  have hf := fre_lt R
  have h9 := R.1
  have hC := R.2.1
  obtain ⟨hu0, h220⟩ := fre_0 hu
  have hP : rch (nrf al) (fre al) (2 ^ u) < 512 := rch_lt hf
  have R1 := Rg_ly (c := c) R hu0 (by omega)
  have ha1 : AlF (updA (st31 A (rch (nrf al) (fre al) (2 ^ u)) (nI (c + 1)) (al 0)) 0 (22 + u) (nI (c + 1))) (ly al u c) := fun k hk => by
    show (if k = 22 + u then nI (c + 1) else if 31 ≤ k ∧ k < 31 + al 0 ∧ (rch (nrf al) (fre al) (2 ^ u)).testBit (k - 31) = true then nI (c + 1) else A 0 k) = nI (ly al u c k)
    unfold ly
    by_cases h1 : k = 22 + u
    · rw [if_pos h1, if_pos h1]
    · rw [if_neg h1, if_neg h1]
      by_cases h2 : 31 ≤ k ∧ k < 31 + al 0 ∧ (rch (nrf al) (fre al) (2 ^ u)).testBit (k - 31) = true
      · rw [if_pos h2, if_pos h2]
      · rw [if_neg h2, if_neg h2, ha k hk]
  have hpi := y_partsIn (v := v) hz (AlF_al ha1) R1 (sy_Rg R1) (set := dif (rch (nrf al) (fre al) (2 ^ u)) (2 ^ u)) (dif_l9 hP) (fun i hi => by
    rw [ly_low (k := 0) (by omega)]
    exact fre_N (prt_fre R (tb_dp.mp hi).1))
  have hno := y_notes (v := v) (p1 := nI u) (p2 := nI c) (a := u + 1) (c := c + 1) (q := np (nrf (ly al u c)) (dif (rch (nrf al) (fre al) (2 ^ u)) (2 ^ u))) hz (AlF_al ha1) R1 (nI_1 u) (nI_1 c) (by omega) (by omega) np_le
  obtain ⟨X, hX⟩ : ∃ X, X = updA (updA (updA (st31 A (rch (nrf al) (fre al) (2 ^ u)) (nI (c + 1)) (al 0)) 0 (22 + u) (nI (c + 1))) 0 (40 + ly al u c 3) (nI (mvP (ly al u c 3 % 2) (u + 1) (c + 1) (np (nrf (ly al u c)) (fre (ly al u c))) (np (nrf (ly al u c)) (dif (rch (nrf al) (fre al) (2 ^ u)) (2 ^ u)))))) 0 3 (nI (ly al u c 3 + 1)) := ⟨_, rfl⟩
  rw [← hX] at hno
  refine ⟨X, ?_, ?_, ?_⟩
  · unfold m_X6_lays
    rw [r_cv hz, y_freeSet hz hA R, Option.bind_some, r_cv hz, y_reached hz hA R hf (fun i hi => fre_N hi) hu, Option.bind_some, y_ban13 hz (ha 0 (by decide)) h9 hP, r_a hz, Option.bind_some, i22, nI_add, nI_1, r_s0 hz (by omega), Option.bind_some, r_cv hz, nI_sh (by omega), nI_dif (by omega), hpi, Option.bind_some, r_cv hz, hno, Option.bind_some]
  · intro j hj
    rw [hX]
    unfold updA st31
    simp only [if_neg hj]
  · intro k hk
    rw [hX, ly_low (k := 3) (by omega), fre_ly R, nr_ly]
    show (if k = 3 then nI (al 3 + 1) else if k = 40 + al 3 then nI _ else updA (st31 A (rch (nrf al) (fre al) (2 ^ u)) (nI (c + 1)) (al 0)) 0 (22 + u) (nI (c + 1)) 0 k) = nI (lyN al u c k)
    unfold lyN
    by_cases e1 : k = 3
    · rw [if_pos e1, if_pos e1]
    · rw [if_neg e1, if_neg e1]
      by_cases e2 : k = 40 + al 3
      · rw [if_pos e2, if_pos e2]
      · rw [if_neg e2, if_neg e2]
        exact ha1 k hk
theorem y_passes (hz : 31 ≤ h.2.1) (ha : AlF A al) (R : Rg al) (h0 : al 2 ≠ 0) (h3 : al 3 < 4095) : ∃ A', m_X6_passes 20 (setR v A h) = some (setR v A' h) ∧ (∀ j, j ≠ 0 → A' j = A j) ∧ AlF A' (psN al) := by
  have hA := AlF_al ha
  obtain ⟨t, ht⟩ : ∃ t, al 2 = t + 1 := ⟨al 2 - 1, by omega⟩
  have R2 : Rg (sp2 al t) := Rg_q Lq_sp2 R (by have := R.2.2.1; show t ≤ 9; omega) (by show al 3 < 4096; exact R.2.2.2.1)
  have ha1 : AlF (updA A 0 2 (nI t)) (sp2 al t) := fun k hk => by
    show (if k = 2 then nI t else A 0 k) = nI (if k = 2 then t else al k)
    by_cases e : k = 2
    · rw [if_pos e, if_pos e]
    · rw [if_neg e, if_neg e, ha k hk]
  have hno := y_notes (v := v) (p1 := (-1 : Int32)) (p2 := (-1 : Int32)) (a := 0) (c := 0) (q := 0) hz (AlF_al ha1) R2 (by decide +kernel) (by decide +kernel) (by omega) (by omega) (by omega)
  have s2 : ∀ {B : Nat → Nat → Int32} {x}, sI (setR v B h) 0 21 (2 : Int32) x = some (setR v (updA B 0 2 x) h) := fun {B x} => r_s0 (k := 2) hz (by decide)
  obtain ⟨X, hX⟩ : ∃ X, X = updA (updA (updA A 0 2 (nI t)) 0 (40 + sp2 al t 3) (nI (mvP (sp2 al t 3 % 2) 0 0 (np (nrf (sp2 al t)) (fre (sp2 al t))) 0))) 0 3 (nI (sp2 al t 3 + 1)) := ⟨_, rfl⟩
  rw [← hX] at hno
  refine ⟨X, ?_, ?_, ?_⟩
  · unfold m_X6_passes
    rw [r_a hz, Option.bind_some, r_al2 hz hA, Option.bind_some, ht, nI_pred, s2, Option.bind_some, r_cv hz, show (0 : Int32) = nI 0 from rfl, hno, Option.bind_some]
  · intro j hj
    rw [hX]
    unfold updA
    simp only [if_neg hj]
  · intro k hk
    rw [hX, fre_q Lq_sp2 R, nrf_q Lq_sp2]
    show (if k = 3 then nI (al 3 + 1) else if k = 40 + al 3 then nI _ else if k = 2 then nI t else A 0 k) = nI (psN al k)
    unfold psN
    by_cases e2 : k = 2
    · rw [if_neg (by omega), if_neg (by omega), if_pos e2, if_pos e2, ht, Nat.add_sub_cancel]
    · simp only [e2, if_false]
      by_cases e1 : k = 3
      · simp only [e1, if_true]
      · simp only [e1, if_false]
        by_cases e3 : k = 40 + al 3
        · simp only [e3, if_true]
          rfl
        · simp only [e3, if_false]
          rw [ha k hk]
end RR
