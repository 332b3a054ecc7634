/-! the reference's value without a vertex -/
def Ag (nr nr' : Nat → Nat) (set : Nat) : Prop := ∀ a w, set.testBit a = true → set.testBit w = true → (nr a).testBit w = (nr' a).testBit w
theorem Ag_sub {nr nr' : Nat → Nat} {s t : Nat} (h : Ag nr nr' s) (hs : ∀ i, t.testBit i = true → s.testBit i = true) : Ag nr nr' t := fun a w ha hw => h a w (hs a ha) (hs w hw)
theorem rch_ag {nr nr' : Nat → Nat} {set s : Nat} (hset : set < 512) (h : Ag nr nr' set) : rch nr set s = rch nr' set s := by
  have c := rch_cl (nr := nr') (s := s) hset
  refine Cl_uniq (rch_cl hset) ⟨c.1, c.2.1, fun a w ha hn hw => c.2.2.1 a w ha (by rw [← h a w (c.2.1 a ha) hw]; exact hn) hw, fun Y y1 y2 i hi => ?_⟩
  have := c.2.2.2 (fun j => Y j ∧ set.testBit j = true) (fun j a b => ⟨y1 j a b, b⟩) (fun a w ha hn hw => ⟨y2 a w ha.1 (by rw [h a w ha.2 hw]; exact hn) hw, hw⟩) i hi
  exact this.1
theorem rst_ag {nr nr' : Nat → Nat} {set : Nat} (hset : set < 512) (h : Ag nr nr' set) : ∀ j, rst nr set j = rst nr' set j
  | 0 => rfl
  | j + 1 => by
    show dif (rst nr set j) (rch nr set (2 ^ lo (rst nr set j))) = dif (rst nr' set j) (rch nr' set (2 ^ lo (rst nr' set j)))
    rw [rst_ag hset h j, rch_ag hset h]
theorem prt_ag {nr nr' : Nat → Nat} {set j : Nat} (hset : set < 512) (h : Ag nr nr' set) : prt nr set j = prt nr' set j := by
  unfold prt
  rw [rst_ag hset h, rch_ag hset h]
theorem pcs_ag {nr nr' : Nat → Nat} {set : Nat} {G G' : Nat → An} (hset : set < 512) (h : Ag nr nr' set) (hG : ∀ q, q < 512 → (∀ i, q.testBit i = true → set.testBit i = true) → G q = G' q) : pcs nr set G = pcs nr' set G' := by
  have key : ∀ k j a, pcsF nr set G k j a = pcsF nr' set G' k j a := by
    intro k
    induction k with
    | zero => intro j a; rfl
    | succ k ih =>
      intro j a
      rw [pcsF, pcsF, rst_ag hset h, prt_ag hset h, hG _ (prt_lt hset) (rch_cl hset).2.1, ih]
  exact key 9 0 _
theorem gr_ag {nr nr' : Nat → Nat} : ∀ d p O b, Op p O → Ag nr nr' p → gr nr d p O b = gr nr' d p O b
  | 0, _, _, _, _, _ => rfl
  | d + 1, p, O, b, hO, h => by
    rw [gr, gr]
    refine congrArg fin3 ?_
    refine itN_congr fun c a hc => itN_congr fun v a hv => ?_
    by_cases l : lgl p O b v c = true
    · rw [if_pos l, if_pos l]
      refine congrArg (stp3 a) ?_
      have hvp := lgl_in hO hc l
      have hsub : ∀ i, (dif p (2 ^ v)).testBit i = true → p.testBit i = true := fun i hi => (tb_dp.mp hi).1
      refine pcs_ag (dif_l9 hO.1) (Ag_sub h hsub) fun q hq hqs => ?_
      have e : (fun w => mvO nr O v c w &&& q) = (fun w => mvO nr' O v c w &&& q) := funext fun w => bit_eq fun i => by
        rw [Nat.testBit_and, Nat.testBit_and, Bool.and_eq_true, Bool.and_eq_true]
        refine and_congr_left fun hi => ?_
        unfold mvO
        rw [tb_dif, tb_dif (dif (O w) (2 ^ v)) (if w = c then nr' v else 0)]
        by_cases e : w = c
        · rw [if_pos e, if_pos e, h v i hvp (hsub i (hqs i hi))]
        · rw [if_neg e, if_neg e]
      rw [e]
      refine gr_ag d _ _ _ ⟨hq, fun c' i _ hi => ?_⟩ (Ag_sub h fun i hi => hsub i (hqs i hi))
      rw [Nat.testBit_and, Bool.and_eq_true] at hi
      exact hi.2
    · rw [if_neg l, if_neg l]
/-- the graph without the edges of u -/
def rmv (al : Nat → Nat) (u : Nat) : Nat → Nat := fun k => if 13 ≤ k ∧ k < 22 then (if k = 13 + u then 0 else dif (al k) (2 ^ u)) else al k
section RM
variable {al : Nat → Nat} {u : Nat}
theorem rmv_nr {v : Nat} (hv : v < 9) : rmv al u (13 + v) = if v = u then 0 else dif (al (13 + v)) (2 ^ u) := by
  unfold rmv
  rw [if_pos ⟨by omega, by omega⟩]
  by_cases e : v = u
  · rw [if_pos (by omega), if_pos e]
  · rw [if_neg (by omega), if_neg e]
theorem rmv_o {k : Nat} (hk : ¬ (13 ≤ k ∧ k < 22)) : rmv al u k = al k := if_neg hk
theorem rmv_tb {v w : Nat} (hv : v < 9) : (rmv al u (13 + v)).testBit w = true ↔ v ≠ u ∧ w ≠ u ∧ (al (13 + v)).testBit w = true := by
  rw [rmv_nr hv]
  by_cases e : v = u
  · rw [if_pos e, Nat.zero_testBit]
    exact ⟨fun q => (by cases q), fun q => absurd e q.1⟩
  · rw [if_neg e, tb_dp]
    exact ⟨fun q => ⟨e, q.2, q.1⟩, fun q => ⟨q.2.2, q.2.1⟩⟩
theorem Rg_rmv (R : Rg al) : Rg (rmv al u) := by
  obtain ⟨r0, r1, r2, r3, r4, r5, r6, r7⟩ := R
  refine ⟨by rw [rmv_o (by omega)]; exact r0, by rw [rmv_o (by omega)]; exact r1, by rw [rmv_o (by omega)]; exact r2, by rw [rmv_o (by omega)]; exact r3, fun v hv => ?_, fun v w hv => ?_, fun v hv => ?_, fun v hv => ?_⟩
  · rw [rmv_o (k := 4 + v) (by omega), rmv_o (k := 22 + v) (by omega), rmv_o (k := 31 + v) (by omega), rmv_nr hv]
    refine ⟨(r4 v hv).1, ?_, (r4 v hv).2.2⟩
    split
    · decide
    · exact dif_l9 (r4 v hv).2.1
  · intro hw
    obtain ⟨a1, a2, a3⟩ := (rmv_tb hv).mp hw
    have h1 := r5 v w hv a3
    rw [rmv_o (k := 0) (by omega)]
    exact ⟨h1.1, h1.2.1, h1.2.2.1, (rmv_tb (by omega)).mpr ⟨a2, a1, h1.2.2.2⟩⟩
  · rw [rmv_o (k := 0) (by omega), rmv_o (k := 4 + v) (by omega), rmv_o (k := 22 + v) (by omega)]
    exact r6 v hv
  · rw [rmv_o (k := 4 + v) (by omega), rmv_o (k := 1) (by omega)]
    exact r7 v hv
theorem Fw_rmv (F : Fw al) : Fw (rmv al u) := by
  obtain ⟨f1, f2, f3⟩ := F
  refine ⟨by rw [rmv_o (k := 0) (by omega), rmv_o (k := 1) (by omega)]; exact f1, by rw [rmv_o (k := 1) (by omega)]; exact f2, fun v hv => ?_⟩
  rw [rmv_o (k := 1) (by omega), rmv_o (k := 22 + v) (by omega), rmv_o (k := 31 + v) (by omega)]
  exact f3 v hv
theorem Ag_rmv {set : Nat} (hset : set < 512) (hu : set.testBit u = false) : Ag (nrf (rmv al u)) (nrf al) set := fun a w ha hw => by
  have ha9 := bit_lt hset ha
  have hau : a ≠ u := fun e => by rw [e, hu] at ha; cases ha
  have hwu : w ≠ u := fun e => by rw [e, hu] at hw; cases hw
  rw [nrf_e ha9, nrf_e ha9]
  have := rmv_tb (al := al) (u := u) (w := w) ha9
  cases hx : (rmv al u (13 + a)).testBit w <;> cases hy : (al (13 + a)).testBit w
  · rfl
  · rw [this.mpr ⟨hau, hwu, hy⟩] at hx; cases hx
  · rw [(this.mp hx).2.2] at hy; cases hy
  · rfl
theorem arn_rmv (R : Rg al) (h0 : al (22 + u) = 0) {i : Nat} (hi : i < 9) (hiu : i ≠ u) : arn (rmv al u) i = arn al i := bit_eq fun c => by
  rw [arn_tb (Rg_rmv R) hi, arn_tb R hi, rmv_o (k := 0) (by omega)]
  have hN := R.1
  refine exists_congr fun k => and_congr_right fun hk => ?_
  rw [nrf_e hi, nrf_e hi, rmv_tb hi, rmv_o (k := 22 + k) (by omega)]
  constructor
  · rintro ⟨⟨_, _, a⟩, b⟩
    exact ⟨a, b⟩
  · rintro ⟨a, b⟩
    refine ⟨⟨hiu, fun e => ?_, a⟩, b⟩
    rw [e, h0] at b
    omega
theorem gA_rmv (R : Rg al) (h0 : al (22 + u) = 0) {q bb : Nat} (hq : q < 512) (hu : q.testBit u = false) : gA (rmv al u) q bb = gA al q bb := by
  have e : opf (rmv al u) q = opf al q := funext fun c => bit_eq fun i => by
    rw [opf_tb hq, opf_tb hq]
    refine and_congr_right fun hi => ?_
    have hi9 := bit_lt hq hi
    rw [rmv_o (k := 4 + i) (by omega), arn_rmv R h0 hi9 (fun e => by rw [e, hu] at hi; cases hi)]
  unfold gA
  rw [e]
  exact gr_ag 10 q _ bb (Op_opf hq) (Ag_rmv hq hu)
end RM
section RR
variable {v : Nat → Int32} {A : Nat → Nat → Int32} {g : Hp} {al b : Nat → Nat}
/-- row 0 with the first n neighbour sets changed by f -/
def nb0 (A : Nat → Nat → Int32) (f : Nat → Int32) (n : Nat) : Nat → Nat → Int32 := fun j => if j = 0 then (fun k => if 13 ≤ k ∧ k < 13 + n then f (k - 13) else A 0 k) else A j
theorem nb0_0 {f : Nat → Int32} : nb0 A f 0 = A := funext fun j => by
  unfold nb0
  by_cases h : j = 0
  · rw [if_pos h, h]
    exact funext fun k => if_neg (by omega)
  · rw [if_neg h]
theorem nb0_s {f : Nat → Int32} {n : Nat} : updA (nb0 A f n) 0 (13 + n) (f n) = nb0 A f (n + 1) := funext fun j => by
  unfold updA nb0
  by_cases h : j = 0
  · rw [if_pos h, if_pos h, if_pos rfl]
    refine funext fun k => ?_
    show (if k = 13 + n then f n else if 13 ≤ k ∧ k < 13 + n then f (k - 13) else A 0 k) = if 13 ≤ k ∧ k < 13 + (n + 1) then f (k - 13) else A 0 k
    by_cases h1 : k = 13 + n
    · rw [if_pos h1, if_pos ⟨by omega, by omega⟩, show k - 13 = n by omega]
    · rw [if_neg h1]
      by_cases h2 : 13 ≤ k ∧ k < 13 + n
      · rw [if_pos h2, if_pos ⟨by omega, by omega⟩]
      · rw [if_neg h2, if_neg (fun e => h2 ⟨e.1, by omega⟩)]
  · rw [if_neg h, if_neg h, if_neg h]
theorem nb0_lo {f : Nat → Int32} {n k : Nat} (hk : k < 13) : nb0 A f n 0 k = A 0 k := by
  unfold nb0
  rw [if_pos rfl, if_neg (by omega)]
theorem nb0_at {f : Nat → Int32} {n : Nat} : nb0 A f n 0 (13 + n) = A 0 (13 + n) := by
  unfold nb0
  rw [if_pos rfl, if_neg (by omega)]
theorem y_L96 (hz : 31 ≤ g.2.1) {n0 u : Nat} {x3 x4 x5 x6 : Int32} (hN : A 0 0 = nI n0) (h9 : n0 ≤ 9) (K : Hp → Option (Int32 × Hp)) : m_X6_valueWithout_L96 20 (nI u) x3 x4 x5 x6 K LF (0 : Int32) (setR v A g) = K (setR v (nb0 A (fun k => A 0 (13 + k) &&& (((1 : Int32) <<< (nI u &&& 31)) ^^^ (-1 : Int32))) n0) g) := by
  have key := forS (fun f i H => m_X6_valueWithout_L96 20 (nI u) x3 x4 x5 x6 K f (nI i) H) n0 (fun i => setR v (nb0 A (fun k => A 0 (13 + k) &&& (((1 : Int32) <<< (nI u &&& 31)) ^^^ (-1 : Int32))) i) g) (K (setR v (nb0 A (fun k => A 0 (13 + k) &&& (((1 : Int32) <<< (nI u &&& 31)) ^^^ (-1 : Int32))) n0) g)) (fun f i hi e => ?_) (fun f => ?_) LF 0 (Nat.zero_le _) (by unfold LF; omega)
  · have key' : m_X6_valueWithout_L96 20 (nI u) x3 x4 x5 x6 K LF (nI 0) (setR v (nb0 A (fun k => A 0 (13 + k) &&& (((1 : Int32) <<< (nI u &&& 31)) ^^^ (-1 : Int32))) 0) g) = _ := key
    rw [nb0_0] at key'
    exact key'
  · show m_X6_valueWithout_L96 20 (nI u) x3 x4 x5 x6 K (f + 1) (nI i) (setR v (nb0 A (fun k => A 0 (13 + k) &&& (((1 : Int32) <<< (nI u &&& 31)) ^^^ (-1 : Int32))) i) g) = _
    have e' : m_X6_valueWithout_L96 20 (nI u) x3 x4 x5 x6 K f (nI (i + 1)) (setR v (nb0 A (fun k => A 0 (13 + k) &&& (((1 : Int32) <<< (nI u &&& 31)) ^^^ (-1 : Int32))) (i + 1)) g) = _ := e
    have e0 : ∀ {f i}, aI (setR v (nb0 A f i) g) 0 21 (0 : Int32) = some (nI n0) := fun {f i} => (r_a0 (k := 0) hz (by decide)).trans (by rw [nb0_lo (by decide), hN])
    rw [m_X6_valueWithout_L96, r_a hz, Option.bind_some, e0, Option.bind_some, iNle hi (by omega), Option.bind_some, i13, nI_add, r_a0 hz (by omega), Option.bind_some, nb0_at, r_s0 hz (by omega), Option.bind_some]
    simp only [e_nm]
    rw [nI_1, ← e', ← nb0_s]
  · show m_X6_valueWithout_L96 20 (nI u) x3 x4 x5 x6 K (f + 1) (nI n0) (setR v (nb0 A _ n0) g) = _
    have e0 : ∀ {f i}, aI (setR v (nb0 A f i) g) 0 21 (0 : Int32) = some (nI n0) := fun {f i} => (r_a0 (k := 0) hz (by decide)).trans (by rw [nb0_lo (by decide), hN])
    rw [m_X6_valueWithout_L96, r_a hz, Option.bind_some, e0, Option.bind_some, iLe (Nat.le_refl _) (by omega)]
theorem y_L174 (hz : 31 ≤ g.2.1) {n0 u : Nat} {x3 x4 : Int32} (hN : A 0 0 = nI n0) (h9 : n0 ≤ 9) (K : Hp → Option (Int32 × Hp)) : m_X6_valueWithout_L174 20 (nI u) x3 x4 K LF (0 : Int32) (setR v A g) = K (setR v (nb0 A (fun k => A 0 (13 + k) ||| (((x3 >>> (nI k &&& 31)) &&& (1 : Int32)) <<< (nI u &&& 31))) n0) g) := by
  have key := forS (fun f i H => m_X6_valueWithout_L174 20 (nI u) x3 x4 K f (nI i) H) n0 (fun i => setR v (nb0 A (fun k => A 0 (13 + k) ||| (((x3 >>> (nI k &&& 31)) &&& (1 : Int32)) <<< (nI u &&& 31))) i) g) (K (setR v (nb0 A (fun k => A 0 (13 + k) ||| (((x3 >>> (nI k &&& 31)) &&& (1 : Int32)) <<< (nI u &&& 31))) n0) g)) (fun f i hi e => ?_) (fun f => ?_) LF 0 (Nat.zero_le _) (by unfold LF; omega)
  · have key' : m_X6_valueWithout_L174 20 (nI u) x3 x4 K LF (nI 0) (setR v (nb0 A (fun k => A 0 (13 + k) ||| (((x3 >>> (nI k &&& 31)) &&& (1 : Int32)) <<< (nI u &&& 31))) 0) g) = _ := key
    rw [nb0_0] at key'
    exact key'
  · show m_X6_valueWithout_L174 20 (nI u) x3 x4 K (f + 1) (nI i) (setR v (nb0 A (fun k => A 0 (13 + k) ||| (((x3 >>> (nI k &&& 31)) &&& (1 : Int32)) <<< (nI u &&& 31))) i) g) = _
    have e' : m_X6_valueWithout_L174 20 (nI u) x3 x4 K f (nI (i + 1)) (setR v (nb0 A (fun k => A 0 (13 + k) ||| (((x3 >>> (nI k &&& 31)) &&& (1 : Int32)) <<< (nI u &&& 31))) (i + 1)) g) = _ := e
    have e0 : ∀ {f i}, aI (setR v (nb0 A f i) g) 0 21 (0 : Int32) = some (nI n0) := fun {f i} => (r_a0 (k := 0) hz (by decide)).trans (by rw [nb0_lo (by decide), hN])
    rw [m_X6_valueWithout_L174, r_a hz, Option.bind_some, e0, Option.bind_some, iNle hi (by omega), Option.bind_some, i13, nI_add, r_a0 hz (by omega), Option.bind_some, nb0_at, r_s0 hz (by omega), Option.bind_some]
    simp only [e_nm]
    rw [nI_1, ← e', ← nb0_s]
  · show m_X6_valueWithout_L174 20 (nI u) x3 x4 K (f + 1) (nI n0) (setR v (nb0 A _ n0) g) = _
    have e0 : ∀ {f i}, aI (setR v (nb0 A f i) g) 0 21 (0 : Int32) = some (nI n0) := fun {f i} => (r_a0 (k := 0) hz (by decide)).trans (by rw [nb0_lo (by decide), hN])
    rw [m_X6_valueWithout_L174, r_a hz, Option.bind_some, e0, Option.bind_some, iLe (Nat.le_refl _) (by omega)]
/-- the array put back -/
theorem wo_back {M2 B2 : Nat → Int32} (ha : Al A al) (R : Rg al) {u : Nat} (hu : u < al 0) : nb0 (updA (wq (updA (nb0 A (fun k => A 0 (13 + k) &&& (((1 : Int32) <<< (nI u &&& 31)) ^^^ (-1 : Int32))) (al 0)) 0 (13 + u) 0) M2 B2) 0 (13 + u) (nI (nrf al u))) (fun k => updA (wq (updA (nb0 A (fun k => A 0 (13 + k) &&& (((1 : Int32) <<< (nI u &&& 31)) ^^^ (-1 : Int32))) (al 0)) 0 (13 + u) 0) M2 B2) 0 (13 + u) (nI (nrf al u)) 0 (13 + k) ||| (((nI (nrf al u) >>> (nI k &&& 31)) &&& (1 : Int32)) <<< (nI u &&& 31))) (al 0) = wq A M2 B2 := by
  have h9 := R.1
  refine funext fun j => ?_
  by_cases hj : j = 0
  · subst hj
    refine funext fun k => ?_
    have hval : ∀ t, updA (wq (updA (nb0 A (fun k => A 0 (13 + k) &&& (((1 : Int32) <<< (nI u &&& 31)) ^^^ (-1 : Int32))) (al 0)) 0 (13 + u) 0) M2 B2) 0 (13 + u) (nI (nrf al u)) 0 t = if t = 13 + u then nI (nrf al u) else if 13 ≤ t ∧ t < 13 + al 0 then A 0 (13 + (t - 13)) &&& (((1 : Int32) <<< (nI u &&& 31)) ^^^ (-1 : Int32)) else A 0 t := fun t => by
      show (if t = 13 + u then nI (nrf al u) else if t = 13 + u then 0 else if 13 ≤ t ∧ t < 13 + al 0 then A 0 (13 + (t - 13)) &&& (((1 : Int32) <<< (nI u &&& 31)) ^^^ (-1 : Int32)) else A 0 t) = _
      by_cases e : t = 13 + u
      · rw [if_pos e, if_pos e]
      · rw [if_neg e, if_neg e, if_neg e]
    show (if 13 ≤ k ∧ k < 13 + al 0 then _ ||| _ else _) = A 0 k
    by_cases h1 : 13 ≤ k ∧ k < 13 + al 0
    · rw [if_pos h1, hval]
      obtain ⟨t, rfl⟩ : ∃ t, k = 13 + t := ⟨k - 13, by omega⟩
      rw [Nat.add_sub_cancel_left] at *
      have ht9 : t < 9 := by omega
      have hnu := nrf_lt R (show u < 9 by omega)
      have hnt := nrf_lt R ht9
      rw [ha (13 + t) (by omega), nI_bit (by omega) (by omega), nI_sh (by omega)]
      have e1 : nI ((nrf al u).testBit t).toNat <<< (nI u &&& 31) = nI (if (nrf al u).testBit t = true then 2 ^ u else 0) := by
        cases (nrf al u).testBit t
        · rw [if_neg (by decide)]
          exact (by decide +kernel : ∀ u, u < 9 → nI false.toNat <<< (nI u &&& 31) = nI 0) u (by omega)
        · rw [if_pos rfl]
          exact (by decide +kernel : ∀ u, u < 9 → nI true.toNat <<< (nI u &&& 31) = nI (2 ^ u)) u (by omega)
      rw [e1]
      have en : al (13 + t) = nrf al t := (nrf_e ht9).symm
      rw [en]
      by_cases e : t = u
      · subst e
        rw [if_pos rfl, if_neg (fun q => (nr_in R q).2.2 rfl), nI_or, Nat.or_zero]
      · rw [if_neg (by omega), if_pos ⟨by omega, by omega⟩, show 13 + (13 + t - 13) = 13 + t by omega, ha (13 + t) (by omega), en, nI_dif (by omega), nI_or]
        refine congrArg nI (Nat.eq_of_testBit_eq fun i => ?_)
        rw [Nat.testBit_or, tb_dif, tb_pow]
        have hsy : (nrf al u).testBit t = (nrf al t).testBit u := by
          cases hx : (nrf al u).testBit t <;> cases hy : (nrf al t).testBit u
          · rfl
          · rw [sy_Rg R t u hy] at hx; cases hx
          · rw [sy_Rg R u t hx] at hy; cases hy
          · rfl
        rw [hsy]
        by_cases hiu : u = i
        · subst hiu
          rw [decide_eq_true rfl, Bool.not_true, Bool.and_false, Bool.false_or]
          cases (nrf al t).testBit u
          · rw [if_neg (by decide), Nat.zero_testBit]
          · rw [if_pos rfl, Nat.testBit_two_pow_self]
        · rw [decide_eq_false hiu, Bool.not_false, Bool.and_true]
          have : (if (nrf al t).testBit u = true then 2 ^ u else 0).testBit i = false := by
            split
            · rw [tb_pow]; exact decide_eq_false hiu
            · exact Nat.zero_testBit i
          rw [this, Bool.or_false]
    · rw [if_neg h1, hval, if_neg (by omega), if_neg h1]
  · unfold nb0 updA wq
    simp only [if_neg hj]
theorem d_woM (hz : 31 ≤ g.2.1) (X : Rb A al b) (U : Ub al) {u : Nat} (hu : (fre al).testBit u = true) : ∃ M B, m_X6_valueWithout 20 (nI u) (setR v A g) = some (nI ((wo al u).1 ^^^ al 2 % 2), setR (upd v 7 0) (wq A M B) g) := by
  obtain ⟨ha, R, F, hk⟩ := id X
  have hN := R.1
  have h2 := R.2.2.1
  have hf := fre_lt R
  obtain ⟨hu0, h220⟩ := fre_0 hu
  have hu9 : u < 9 := by omega
  have hP : rch (nrf al) (fre al) (2 ^ u) < 512 := rch_lt hf
  have hself := rch_self (nr := nrf al) hf hu
  have hne : rch (nrf al) (fre al) (2 ^ u) ≠ 0 := ne_0.mpr ⟨u, hself⟩
  have cl := rch_cl (nr := nrf al) (set := fre al) (s := 2 ^ u) hf
  have hC := Cfg_rch R F hu
  obtain ⟨M1, B1, hM1, e1⟩ := q_valueNow (v := upd v 7 0) (Rx_fg hz X)
  have X1 := Rx_wq (B := B1) (Rx_fg hz X) hM1
  rw [wq_wq] at e1 X1
  obtain ⟨M2, hM2, e2⟩ := y_knownRD (v := upd v 7 0) hz X1.2.1 X1.2.2.1 hC hne
  rw [wK_wq, wq_wq] at e2
  have hbd := gA_bd hC
  have hD9 : dif (rch (nrf al) (fre al) (2 ^ u)) (2 ^ u) < 512 := dif_l9 hP
  have hDu : (dif (rch (nrf al) (fre al) (2 ^ u)) (2 ^ u)).testBit u = false := by
    cases e : (dif (rch (nrf al) (fre al) (2 ^ u)) (2 ^ u)).testBit u
    · rfl
    · exact absurd rfl (tb_dp.mp e).2
  -- the array of the changed graph
  obtain ⟨A3, hA3⟩ : ∃ A3, A3 = wq A (fgt M2 80000) (wq A M1 B1 8) := ⟨_, rfl⟩
  have hf2 : m_X6_forgets 20 (setR (upd v 7 0) (wq A M2 (wq A M1 B1 8)) g) = some (setR (upd v 7 0) A3 g) := by
    rw [y_fg hz, wq_wq, wq_7, wq_8, hA3]
  have ha3 : Al A3 al := by rw [hA3]; exact Al_wq ha
  obtain ⟨A4, hA4⟩ : ∃ A4, A4 = updA (nb0 A3 (fun k => A3 0 (13 + k) &&& (((1 : Int32) <<< (nI u &&& 31)) ^^^ (-1 : Int32))) (al 0)) 0 (13 + u) 0 := ⟨_, rfl⟩
  have ha4 : Al A4 (rmv al u) := fun k hk40 => by
    rw [hA4]
    show (if k = 13 + u then (0 : Int32) else if 13 ≤ k ∧ k < 13 + al 0 then A3 0 (13 + (k - 13)) &&& (((1 : Int32) <<< (nI u &&& 31)) ^^^ (-1 : Int32)) else A3 0 k) = nI (rmv al u k)
    by_cases hkn : 13 ≤ k ∧ k < 22
    · obtain ⟨t, rfl⟩ : ∃ t, k = 13 + t := ⟨k - 13, by omega⟩
      have ht9 : t < 9 := by omega
      rw [rmv_nr ht9]
      by_cases e : t = u
      · rw [if_pos (by omega), if_pos e]
        rfl
      · rw [if_neg (by omega), if_neg e, Nat.add_sub_cancel_left, ha3 (13 + t) (by omega), nI_sh (by omega), nI_dif (by have := (R.2.2.2.2.1 t ht9).2.1; omega)]
        by_cases ht0 : t < al 0
        · rw [if_pos ⟨by omega, by omega⟩]
        · rw [if_neg (by omega)]
          have : al (13 + t) = 0 := bit_eq fun w => by
            rw [Nat.zero_testBit]
            exact ⟨fun q => by have := (R.2.2.2.2.2.1 t w ht9 q).2.1; omega, fun q => by cases q⟩
          rw [this, dif_z]
    · rw [if_neg (by omega), if_neg (by omega), rmv_o hkn, ha3 k hk40]
  have hm4 : MK (rmv al u) (A4 7) := by
    have : A4 7 = fgt M2 80000 := by
      rw [hA4, hA3]
      rfl
    rw [this]
    exact MK_fgt
  have hAg := Ag_rmv (al := al) hD9 hDu
  obtain ⟨M5, hM5, e5⟩ := y_together (v := upd v 7 0) (bb := al (31 + u)) (n := 60) hz (y_known hz RD) ha4 hm4 (Rg_rmv R) hD9 (fun i hi => by
    rw [rmv_o (k := 0) (by omega)]
    exact fre_N (cl.2.1 i (tb_dp.mp hi).1)) (fun j hj => by
    have hq9 : prt (nrf (rmv al u)) (dif (rch (nrf al) (fre al) (2 ^ u)) (2 ^ u)) j < 512 := prt_lt hD9
    have cq := rch_cl (nr := nrf (rmv al u)) (set := dif (rch (nrf al) (fre al) (2 ^ u)) (2 ^ u)) (s := 2 ^ lo (rst (nrf (rmv al u)) (dif (rch (nrf al) (fre al) (2 ^ u)) (2 ^ u)) j)) hD9
    refine ⟨Rg_rmv R, Fw_rmv F, hq9, fun i hi => ?_, fun a w haq hn hw => ?_, ?_⟩
    · rw [rmv_o (k := 0) (by omega), rmv_o (k := 22 + i) (by omega)]
      exact fre_0 (cl.2.1 i (tb_dp.mp (cq.2.1 i hi)).1)
    · have ha9 := bit_lt hq9 haq
      have haD := tb_dp.mp (cq.2.1 a haq)
      have hn' := hn
      rw [nrf_e ha9] at hn'
      obtain ⟨n1, n2, n3⟩ := (rmv_tb ha9).mp hn'
      rw [rmv_o (k := 22 + w) (by omega)]
      intro e0
      have hN3 : (nrf al a).testBit w = true := by rw [nrf_e ha9]; exact n3
      have hwP := cl.2.2.1 a w haD.1 hN3 (fre_m (nr_in R hN3).1 e0)
      have hwq := cq.2.2.1 a w haq hn (tb_dp.mpr ⟨hwP, n2⟩)
      have hwq' : (prt (nrf (rmv al u)) (dif (rch (nrf al) (fre al) (2 ^ u)) (2 ^ u)) j).testBit w = true := hwq
      rw [hwq'] at hw
      cases hw
    · rw [rmv_o (k := 1) (by omega)]
      exact (F.2.2 u hu9).2) (Nat.le_trans pop_le (by decide))
  rw [wK_wq] at e5
  have epc : pcs (nrf (rmv al u)) (dif (rch (nrf al) (fre al) (2 ^ u)) (2 ^ u)) (fun q => gA (rmv al u) q (al (31 + u))) = pcs (nrf al) (dif (rch (nrf al) (fre al) (2 ^ u)) (2 ^ u)) (fun q => gA al q (al (31 + u))) := pcs_ag hD9 hAg fun q hq hqs => gA_rmv R h220 hq (by
    cases e : q.testBit u
    · rfl
    · have := hqs u e
      rw [hDu] at this
      cases this)
  rw [epc] at e5
  have hbd2 : Bd3 (pcs (nrf al) (dif (rch (nrf al) (fre al) (2 ^ u)) (2 ^ u)) (fun q => gA al q (al (31 + u)))) (pop (dif (rch (nrf al) (fre al) (2 ^ u)) (2 ^ u))) := pcs_bd (sy_Rg R) hD9 fun j _ => gr_b9 R (Okp_opf R (prt_lt hD9))
  have hbrd : brd al = cmb (pcs (nrf al) (dif (fre al) (rch (nrf al) (fre al) (2 ^ u))) (gB al)) (gB al (rch (nrf al) (fre al) (2 ^ u))) := by
    have hy := sy_Rg R
    have e := pcs_split (G := gB al) hy hf (cs_rest R hu) (Cs_rch (s := 2 ^ u) hf) (fun i => by
      rw [tb_dif]
      cases hp : (rch (nrf al) (fre al) (2 ^ u)).testBit i
      · cases (fre al).testBit i <;> rfl
      · rw [cl.2.1 i hp]
        rfl) (fun i a b => by
      rw [tb_dd] at a
      rw [a.2] at b
      cases b)
    rw [pcs_one hy hf hu] at e
    exact e
  have hlo := (Ptb_rch R U hu).2.2.2 u hself
  have hgB : gB al (rch (nrf al) (fre al) (2 ^ u)) = gA al (rch (nrf al) (fre al) (2 ^ u)) (al (31 + u)) := by
    show gA al _ (al (31 + lo _)) = _
    rw [← hlo]
  have hxor : ((brd al).1 ^^^ al 2 % 2) ^^^ (gA al (rch (nrf al) (fre al) (2 ^ u)) (al (31 + u))).1 ^^^ (pcs (nrf al) (dif (rch (nrf al) (fre al) (2 ^ u)) (2 ^ u)) (fun q => gA al q (al (31 + u)))).1 = (wo al u).1 ^^^ al 2 % 2 := by
    rw [hbrd, hgB]
    show (((pcs _ _ _).1 ^^^ (gA al _ _).1) ^^^ al 2 % 2) ^^^ (gA al _ _).1 ^^^ (pcs _ _ _).1 = ((pcs _ _ _).1 ^^^ (pcs _ _ _).1) ^^^ al 2 % 2
    generalize (gA al (rch (nrf al) (fre al) (2 ^ u)) (al (31 + u))).1 = y
    generalize (pcs (nrf al) (dif (fre al) (rch (nrf al) (fre al) (2 ^ u))) (gB al)).1 = x
    generalize (pcs (nrf al) (dif (rch (nrf al) (fre al) (2 ^ u)) (2 ^ u)) (fun q => gA al q (al (31 + u)))).1 = z
    refine Nat.eq_of_testBit_eq fun i => ?_
    simp only [Nat.testBit_xor]
    cases x.testBit i <;> cases y.testBit i <;> cases z.testBit i <;> cases (al 2 % 2).testBit i <;> rfl
  have hn0 : A3 0 0 = nI (al 0) := ha3 0 (by decide)
  have hn4 : ∀ {M B : Nat → Int32} {x}, updA (wq A4 M B) 0 (13 + u) x 0 0 = nI (al 0) := fun {M B x} => by
    show (if 0 = 13 + u then x else A4 0 0) = _
    rw [if_neg (by omega), ha4 0 (by decide), rmv_o (by omega)]
  refine ⟨M5, A4 8, ?_⟩
  unfold m_X6_valueWithout
  rw [r_cv hz, y_isVertex hz ha R, nI_toInt (by omega), decide_eq_true (by omega), Option.bind_some]
  simp only [e_jK]
  rw [if_pos trivial, r_cv hz, y_isFree hz ha R hu9, fre_v hu0, hu, Option.bind_some, if_pos rfl]
  refine (pz0 hz).trans ?_
  rw [r_cv hz, y_fg hz, Option.bind_some, r_a hz, Option.bind_some, i13, nI_add, r_nr hz (Al_wq ha) hu9, Option.bind_some, r_cv hz, e1, e_b2, r_cv hz, y_banOf hz X1.2.1 hu9, Option.bind_some, r_cv hz, y_freeSet hz X1.2.1 R, Option.bind_some, r_cv hz, y_reached hz X1.2.1 R hf (fun i hi => fre_N hi) hu, Option.bind_some, r_cv hz, e2, e_b2, p_v hbd pop_le]
  simp only [e_nm]
  rw [nI_xor, r_cv hz, hf2, Option.bind_some, y_L96 hz hn0 hN, r_a hz, Option.bind_some, r_s0 hz (by omega), Option.bind_some, ← hA4, r_cv hz, nI_sh (by omega), nI_dif (by omega), e5, e_b2, p_v hbd2 pop_le, nI_xor, hxor, r_a hz, Option.bind_some, r_s0 hz (by omega), Option.bind_some, y_L174 hz hn4 hN]
  have hback := wo_back (A := A3) (M2 := M5) (B2 := A4 8) ha3 R hu0
  rw [← hA4] at hback
  rw [hback, hA3, wq_wq]
end RR
