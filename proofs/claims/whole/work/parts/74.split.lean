/-! parts together, told vertex by vertex: a set that falls into closed parts -/
theorem cmb_comm (x y : An) : cmb x y = cmb y x := by
  unfold cmb
  rw [Nat.xor_comm, Nat.add_comm x.2.1, Nat.add_comm x.2.2]
theorem cmb_assoc (x y z : An) : cmb (cmb x y) z = cmb x (cmb y z) := by
  unfold cmb
  simp only [Nat.xor_assoc, Nat.add_assoc]
theorem cmb_0 (x : An) : cmb x (0, 0, 0) = x := by
  unfold cmb
  simp only [Nat.xor_zero, Nat.add_zero]
theorem cmb_0l (x : An) : cmb (0, 0, 0) x = x := by rw [cmb_comm, cmb_0]
/-- the sum of F over the i below n that have P -/
def sgm (n : Nat) (P : Nat → Bool) (F : Nat → An) : An := itN n (fun i a => if P i then cmb a (F i) else a) (0, 0, 0)
theorem sgm_s {n : Nat} {P : Nat → Bool} {F : Nat → An} : sgm (n + 1) P F = if P n then cmb (sgm n P F) (F n) else sgm n P F := rfl
theorem sgm_congr {P P' : Nat → Bool} {F F' : Nat → An} : ∀ {n : Nat}, (∀ i, i < n → P i = P' i) → (∀ i, i < n → P i = true → F i = F' i) → sgm n P F = sgm n P' F'
  | 0, _, _ => rfl
  | n + 1, h1, h2 => by
    rw [sgm_s, sgm_s, sgm_congr (fun i hi => h1 i (by omega)) (fun i hi => h2 i (by omega)), ← h1 n (by omega)]
    by_cases h : P n = true
    · rw [if_pos h, if_pos h, h2 n (by omega) h]
    · rw [if_neg h, if_neg h]
theorem sgm_split {P Q : Nat → Bool} {F : Nat → An} : ∀ {n : Nat}, (∀ i, i < n → P i = true → Q i = true → False) → sgm n (fun i => P i || Q i) F = cmb (sgm n P F) (sgm n Q F)
  | 0, _ => (cmb_0 _).symm
  | n + 1, h => by
    have ih := sgm_split (P := P) (Q := Q) (F := F) (n := n) (fun i hi => h i (by omega))
    rw [sgm_s, sgm_s, sgm_s, ih]
    have hn := h n (by omega)
    cases hp : P n <;> cases hq : Q n
    · simp
    · simp [cmb_assoc]
    · simp
      rw [cmb_assoc, cmb_assoc, cmb_comm (F n)]
    · exact absurd (hn hp hq) id
theorem sgm_none {P : Nat → Bool} {F : Nat → An} : ∀ {n : Nat}, (∀ i, i < n → P i = false) → sgm n P F = (0, 0, 0)
  | 0, _ => rfl
  | n + 1, h => by
    rw [sgm_s, h n (by omega), sgm_none (fun i hi => h i (by omega))]
    rfl
theorem sgm_one {P : Nat → Bool} {F : Nat → An} {k : Nat} : ∀ {n : Nat}, k < n → (∀ i, i < n → (P i = true ↔ i = k)) → sgm n P F = F k
  | 0, hk, _ => absurd hk (Nat.not_lt_zero k)
  | n + 1, hk, h => by
    rw [sgm_s]
    by_cases e : n = k
    · subst e
      rw [if_pos ((h n hk).mpr rfl), sgm_none (fun i hi => Bool.eq_false_iff.mpr fun g => by have := (h i (by omega)).mp g; omega), cmb_0l]
    · rw [if_neg (fun g => e ((h n (by omega)).mp g))]
      exact sgm_one (by omega) fun i hi => h i (by omega)
/-- v is the least of its part -/
def lsu (nr : Nat → Nat) (set t v : Nat) : Bool := t.testBit v && (lo (rch nr set (2 ^ v)) == v)
def psm (nr : Nat → Nat) (set t : Nat) (G : Nat → An) : An := sgm 9 (lsu nr set t) (fun v => G (rch nr set (2 ^ v)))
theorem psm_rst {nr : Nat → Nat} {set : Nat} {G : Nat → An} (hy : Sy nr) (hset : set < 512) {j : Nat} (h0 : rst nr set j ≠ 0) : psm nr set (rst nr set j) G = cmb (G (prt nr set j)) (psm nr set (rst nr set (j + 1)) G) := by
  obtain ⟨p1, p2, p3⟩ := prt_in hy hset h0
  have hr := rst_lt (nr := nr) hset j
  have hin : ∀ v, (prt nr set j).testBit v = true → rch nr set (2 ^ v) = prt nr set j := fun v hv => rch_mem hy hset p3 hv
  have hlo : lo (prt nr set j) = lo (rst nr set j) := Nat.le_antisymm (lo_min p1 p2) (by
    have hne := prt_ne hy hset h0
    have h1 := lo_ok (rch_lt hset : prt nr set j < 512) hne
    exact lo_min (prt_sub hy hset _ h1.2) h1.1)
  have e1 : psm nr set (rst nr set j) G = sgm 9 (fun v => lsu nr set (prt nr set j) v || lsu nr set (rst nr set (j + 1)) v) (fun v => G (rch nr set (2 ^ v))) := sgm_congr (fun v _ => by
    show lsu nr set (rst nr set j) v = (lsu nr set (prt nr set j) v || lsu nr set (dif (rst nr set j) (prt nr set j)) v)
    unfold lsu
    rw [tb_dif]
    cases hp : (prt nr set j).testBit v
    · cases (rst nr set j).testBit v <;> simp
    · rw [prt_sub hy hset v hp]
      simp) (fun _ _ _ => rfl)
  rw [e1, sgm_split (fun v _ a b => by
    have a' : ((prt nr set j).testBit v && (lo (rch nr set (2 ^ v)) == v)) = true := a
    have b' : ((dif (rst nr set j) (prt nr set j)).testBit v && (lo (rch nr set (2 ^ v)) == v)) = true := b
    rw [tb_dif] at b'
    cases hp : (prt nr set j).testBit v
    · rw [hp] at a'; cases a'
    · rw [hp] at b'
      cases hr2 : (rst nr set j).testBit v <;> rw [hr2] at b' <;> cases b')]
  congr 1
  have e2 : sgm 9 (lsu nr set (prt nr set j)) (fun v => G (rch nr set (2 ^ v))) = G (rch nr set (2 ^ lo (rst nr set j))) := sgm_one (k := lo (rst nr set j)) p2 (fun v _ => by
    unfold lsu
    rw [Bool.and_eq_true, beq_iff_eq]
    constructor
    · rintro ⟨a, b⟩
      rw [hin v a, hlo] at b
      exact b.symm
    · rintro rfl
      refine ⟨p1, ?_⟩
      rw [hin _ p1, hlo])
  exact e2
theorem psm_0 {nr : Nat → Nat} {set : Nat} {G : Nat → An} : psm nr set 0 G = (0, 0, 0) := sgm_none fun v _ => by
  unfold lsu
  rw [Nat.zero_testBit]
  rfl
theorem pcsF_psm {nr : Nat → Nat} {set : Nat} {G : Nat → An} (hy : Sy nr) (hset : set < 512) : ∀ k j a, j + k = 9 → pcsF nr set G k j a = cmb a (psm nr set (rst nr set j) G)
  | 0, j, a, h => by
    rw [Nat.add_zero] at h
    subst h
    rw [pcsF, rst_9 hy hset, psm_0, cmb_0]
  | k + 1, j, a, h => by
    rw [pcsF]
    by_cases h0 : rst nr set j = 0
    · rw [if_pos h0, h0, psm_0, cmb_0]
    · rw [if_neg h0, pcsF_psm hy hset k (j + 1) _ (by omega), psm_rst hy hset h0, cmb_assoc]
theorem pcs_psm {nr : Nat → Nat} {set : Nat} {G : Nat → An} (hy : Sy nr) (hset : set < 512) : pcs nr set G = psm nr set set G := by
  unfold pcs
  rw [pcsF_psm hy hset 9 0 _ rfl, cmb_0l]
  rfl
/-- a part that is closed is looked at by itself -/
theorem psm_cs {nr : Nat → Nat} {set t : Nat} {G : Nat → An} (hy : Sy nr) (hset : set < 512) (h : Cs nr set t) : psm nr set t G = pcs nr t G := by
  have ht : t < 512 := tb_lt (n := 9) fun i hi => by
    cases h9 : t.testBit i
    · rfl
    · exact absurd (h.1 i h9) (by rw [tb_ge (n := 9) hset hi]; decide)
  rw [pcs_psm hy ht]
  have key : ∀ v, t.testBit v = true → rch nr t (2 ^ v) = rch nr set (2 ^ v) := fun v hv => rch_sub hset h fun i hi => by
    rw [tb_pow] at hi
    cases of_decide_eq_true hi
    exact hv
  refine sgm_congr (fun v _ => ?_) (fun v _ l => ?_)
  · unfold lsu
    cases hv : t.testBit v
    · rfl
    · rw [key v hv]
  · have hv : t.testBit v = true := by
      unfold lsu at l
      rw [Bool.and_eq_true] at l
      exact l.1
    rw [key v hv]
theorem pcs_split {nr : Nat → Nat} {set s t : Nat} {G : Nat → An} (hy : Sy nr) (hset : set < 512) (h : Cs nr set s) (ht : Cs nr set t) (hu : ∀ i, set.testBit i = (s.testBit i || t.testBit i)) (hd : ∀ i, s.testBit i = true → t.testBit i = true → False) : pcs nr set G = cmb (pcs nr s G) (pcs nr t G) := by
  rw [pcs_psm hy hset, ← psm_cs hy hset h, ← psm_cs hy hset ht]
  unfold psm
  rw [← sgm_split (fun v _ a b => by
    unfold lsu at a b
    rw [Bool.and_eq_true] at a b
    exact hd v a.1 b.1)]
  refine sgm_congr (fun v _ => ?_) (fun _ _ _ => rfl)
  unfold lsu
  rw [hu]
  cases s.testBit v <;> cases t.testBit v <;> simp
/-- one part alone -/
theorem pcs_one {nr : Nat → Nat} {set u : Nat} {G : Nat → An} (hy : Sy nr) (hset : set < 512) (hu : set.testBit u = true) : pcs nr (rch nr set (2 ^ u)) G = G (rch nr set (2 ^ u)) := by
  have hc := Cs_rch (nr := nr) (s := 2 ^ u) hset
  have hlt : rch nr set (2 ^ u) < 512 := rch_lt hset
  have hself := rch_self (nr := nr) hset hu
  have hne : rch nr set (2 ^ u) ≠ 0 := ne_0.mpr ⟨u, hself⟩
  have hl := lo_ok hlt hne
  rw [← psm_cs hy hset hc]
  have hin : ∀ v, (rch nr set (2 ^ u)).testBit v = true → rch nr set (2 ^ v) = rch nr set (2 ^ u) := fun v hv => rch_mem hy hset hu hv
  have e2 : psm nr set (rch nr set (2 ^ u)) G = G (rch nr set (2 ^ lo (rch nr set (2 ^ u)))) := sgm_one (k := lo (rch nr set (2 ^ u))) hl.1 (fun v _ => by
    unfold lsu
    rw [Bool.and_eq_true, beq_iff_eq]
    constructor
    · rintro ⟨a, b⟩
      rw [hin v a] at b
      exact b.symm
    · rintro rfl
      refine ⟨hl.2, ?_⟩
      rw [hin _ hl.2])
  rw [e2, hin _ hl.2]
