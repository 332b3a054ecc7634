/-! the start: what the Statement gives, as Kn says it; the law's end -/
abbrev NW : List Cond := flatC (Jvm.Cond.and given_1 narrow_1)
def tmR (j : Nat) : Term := .string "ColourDuel$Reader" ([57, 71, 84, 106, 129, 131].getD j 0)
def tmM (j : Nat) : Term := .string "ColourDuelModel" ([137, 143, 144, 149, 154, 156].getD j 0)
abbrev lnR : List Nat := (List.range 6).map (fun j => (strB j).length)
abbrev byR : List (List Int32) := (List.range 6).map strB
theorem n_ex : ∀ i, i < 6 → Cond.exactly (tmR i) "java/lang/String" ∈ NW := by decide +kernel
theorem n_co : ∀ i, i < 6 → Cond.eq (.field (tmR i) "java/lang/String" "coder" "B") (.int 0) ∈ NW := by decide +kernel
theorem n_ar : ∀ i, i < 6 → Cond.arrayOf (.field (tmR i) "java/lang/String" "value" "[B") .byte ∈ NW := by decide +kernel
theorem n_le : ∀ i, i < 6 → Cond.eq (.length (.field (tmR i) "java/lang/String" "value" "[B")) (.int (Int32.ofNat (lnR.getD i 0))) ∈ NW := by decide +kernel
theorem n_el : ∀ i, i < 6 → ∀ j, j < lnR.getD i 0 → Cond.eq (.elem (.field (tmR i) "java/lang/String" "value" "[B") (.int (Int32.ofNat j))) (.int ((byR.getD i []).getD j 0)) ∈ NW := by decide +kernel
theorem n_len : ∀ i, i < 6 → lnR.getD i 0 < 2 ^ 31 := by decide +kernel
theorem n_pos : ∀ i, i < 6 → 0 < lnR.getD i 0 := by decide +kernel
theorem n_dif : ∀ i, i < 6 → ∀ j, j < 6 → lnR.getD i 0 = lnR.getD j 0 → (byR.getD i []).getD 0 0 = (byR.getD j []).getD 0 0 → i = j := by decide +kernel
theorem n_same : ∀ i, i < 6 → Cond.eq (tmR i) (tmM i) ∈ NW := by decide +kernel
theorem n_small : ∀ i, i < 6 → ∀ n, n < lnR.getD i 0 + 0 → n < 2147483648 := fun i hi n hn => Nat.lt_of_lt_of_le hn (Nat.le_of_lt (n_len i hi))
/-- the pool's words on Strings, all -/
def strW : List (String × Nat × String) := lw_tbl.filterMap (fun w => match w with
  | .stringRef o k t => some (o, k, t)
  | _ => none)
theorem strW_mem {o t : String} {k : Nat} (h : Cond.stringRef o k t ∈ lw_tbl) : (o, k, t) ∈ strW := List.mem_filterMap.mpr ⟨_, h, rfl⟩
theorem strW_ex : strW.all (fun q => decide (Cond.exactly (.string q.1 q.2.1) "java/lang/String" ∈ NW)) = true := by decide +kernel
theorem strW_own : strW.all (fun q => (List.range 6).all fun j => !decide (str_[j]? = some q.2.2) || ((decide (q.1 = "ColourDuel$Reader") && decide ([57, 71, 84, 106, 129, 131].getD j 0 = q.2.1)) || (decide (q.1 = "ColourDuelModel") && decide ([137, 143, 144, 149, 154, 156].getD j 0 = q.2.1)))) = true := by decide +kernel
theorem strW_tx {o t : String} {k : Nat} (h : Cond.stringRef o k t ∈ lw_tbl) {j : Nat} (hj : str_[j]? = some t) : j < 6 ∧ (Term.string o k = tmR j ∨ Term.string o k = tmM j) := by
  have h6 : j < 6 := (List.getElem?_eq_some_iff.mp hj).1
  have h1 := List.all_eq_true.mp strW_own _ (strW_mem h)
  have h2 := List.all_eq_true.mp h1 j (List.mem_range.mpr h6)
  have hj' : str_[j]? = some (o, k, t).2.2 := hj
  simp only [Bool.or_eq_true, Bool.and_eq_true, Bool.not_eq_true', decide_eq_true_eq, decide_eq_false_iff_not] at h2
  rcases h2 with h2 | ⟨h2, h3⟩ | ⟨h2, h3⟩
  · exact absurd hj' h2
  · refine ⟨h6, Or.inl ?_⟩
    have h2' : o = "ColourDuel$Reader" := h2
    have h3' : [57, 71, 84, 106, 129, 131].getD j 0 = k := h3
    rw [h2', ← h3']
    rfl
  · refine ⟨h6, Or.inr ?_⟩
    have h2' : o = "ColourDuelModel" := h2
    have h3' : [137, 143, 144, 149, 154, 156].getD j 0 = k := h3
    rw [h2', ← h3']
    rfl
theorem z_OF_inj {o n d : String} {v v' : Value} {a : Nat} {A : Nat → Prop} {U : State} {H : Heap} (h : va_OF o n d v a A U H) (h' : va_OF o n d v' a A U H) : v = v' := by
  obtain ⟨cf, k, i, f, cell, h1, -, h3, -, h5, -⟩ := h
  obtain ⟨cf', k', i', f', cell', h1', -, h3', -, h5', -⟩ := h'
  cases h1.symm.trans h1'
  cases h3.symm.trans h3'
  exact Option.some.inj (h5.symm.trans h5')
theorem z_T_inj {t : Nat} {N N' : Nat} {f f' : Nat → Value} {A : Nat → Prop} {U : State} {H : Heap} (hN : N < 2 ^ 31) (hN' : N' < 2 ^ 31) (h : va_T .byte t N f A U H) (h' : va_T .byte t N' f' A U H) : N = N' ∧ ∀ j, j < N → f j = f' j := by
  obtain ⟨cell, h1, -, -, -, h5, h6, -⟩ := h
  obtain ⟨cell', h1', -, -, -, h5', h6', -⟩ := h'
  cases h1.symm.trans h1'
  have e : Int32.ofNat N = Int32.ofNat N' := h5.symm.trans h5'
  have e1 := (Int32.ofNat_le_ofNat hN hN').mp (Int32.le_of_eq e)
  have e2 := (Int32.ofNat_le_ofNat hN' hN).mp (Int32.le_of_eq e.symm)
  have e3 : N = N' := Nat.le_antisymm e1 e2
  subst e3
  exact ⟨rfl, fun j hj => Option.some.inj ((h6 j hj).symm.trans (h6' j hj))⟩
/-- the String constants, as the library's law says them, their being apart by what they hold -/
theorem z_Sof {args : Array Value} {s : State} {A : Nat → Prop} (hv : ∀ c ∈ NW, c.before args s = true) (hA : ∀ a : Nat, a < s.heap.size → ¬ A a) :
    ∃ adK adV : Nat → Nat, vk_S 6 lnR byR adK adV A s s.heap ∧ ∀ i : Nat, i < 6 → (tmR i).eval args s none [] s = some (.ref (adK i)) := by
  have h0 : ∀ i : Nat, ∃ q : Nat × Nat, i < 6 → (tmR i).eval args s none [] s = some (.ref q.1) ∧ va_O "java/lang/String" q.1 A s s.heap ∧ va_OF "java/lang/String" "coder" "B" (.int 0) q.1 A s s.heap ∧ va_OF "java/lang/String" "value" "[B" (.ref q.2) q.1 A s s.heap ∧ va_T .byte q.2 (lnR.getD i 0) (fun j => .int ((byR.getD i []).getD j 0)) A s s.heap := by
    intro i
    by_cases hi : i < 6
    · obtain ⟨a, c, cA, kA, q1, q2, q3, q4, q5, q6, -⟩ := Cond.exactly_spec (args := args) (first := s) (o := none) (s := s) (idx := []) (t := tmR i) (cls := "java/lang/String") (hv _ (n_ex i hi))
      obtain ⟨t, ht, hT⟩ := va_Tof (f := fun j => .int ((byR.getD i []).getD j 0)) (A := A) (n_len i hi) (hv _ (n_ar i hi)) (va_eqt (hv _ (n_le i hi))) (fun j hj => va_eqt (hv _ (n_el i hi j hj))) hA
      exact ⟨(a, t), fun _ => ⟨q1, ⟨cA, q3, q5, by rw [q6]; exact q2, hA a (Array.getElem?_eq_some_iff.mp q3).1⟩, vk_OFof q1 (va_eqt (hv _ (n_co i hi))) hA, vk_OFof q1 ht hA, hT⟩⟩
    · exact ⟨(0, 0), fun h => absurd h hi⟩
  obtain ⟨ad, had⟩ := Classical.axiomOfChoice h0
  refine ⟨fun i => (ad i).1, fun i => (ad i).2, ⟨fun i hi => (had i hi).2, fun i j hi hj e => ?_⟩, fun i hi => (had i hi).1⟩
  obtain ⟨-, -, -, g1, g2⟩ := had i hi
  obtain ⟨-, -, -, g3, g4⟩ := had j hj
  have e1 : (ad i).1 = (ad j).1 := e
  rw [← e1] at g3
  have e2 : (ad i).2 = (ad j).2 := Value.ref.inj (z_OF_inj g1 g3)
  rw [← e2] at g4
  obtain ⟨e3, e4⟩ := z_T_inj (n_len i hi) (n_len j hj) g2 g4
  exact n_dif i hi j hj e3 (Value.int.inj (e4 0 (n_pos i hi)))
theorem vk_S_congr {N : Nat} {len : List Nat} {byt : List (List Int32)} {adK adV adK' adV' : Nat → Nat} {A : Nat → Prop} {U : State} {H : Heap} (h1 : ∀ i, i < N → adK' i = adK i) (h2 : ∀ i, i < N → adV' i = adV i) (h : vk_S N len byt adK adV A U H) : vk_S N len byt adK' adV' A U H := by
  refine ⟨fun i hi => ?_, fun i j hi hj e => h.2 i j hi hj ?_⟩
  · rw [h1 i hi, h2 i hi]
    exact h.1 i hi
  · rw [← h1 i hi, ← h1 j hj]
    exact e
theorem eq_same {args : Array Value} {s : State} {t u : Term} {a : Nat} (h : (Cond.eq t u).before args s = true) (ht : t.eval args s none [] s = some (.ref a)) : ∀ q : Nat, u.eval args s none [] s = some (.ref q) → q = a := by
  intro q hu
  by_cases e : q = a
  · exact e
  · simp [Cond.before, Cond.holds, Cond.value, ht, hu] at h
    exact absurd h.symm e
theorem arr_of {args : Array Value} {s : State} {ty : FieldType} (h : (Cond.arrayClass ty).before args s = true) : ∃ cA : ClassId, ArrOfT s cA ty ∧ s.vm.findClass ("[" ++ ty.toString) = some cA := by
  obtain ⟨c, k, comp, h1, h2, h3⟩ := Cond.arrayClass_spec h
  exact ⟨c, fun n z => ⟨fun k h => (by cases h), k, h2, comp, h3⟩, h1⟩
theorem arr_ofB {args : Array Value} {s : State} {C : String} (h : (Cond.arrayOver (.object C)).before args s = true) : ∃ cA : ClassId, ArrOfT s cA (.object C) ∧ va_RA s cA (.object C) := by
  obtain ⟨comp, c, k, h1, h2, h3, h4, h5⟩ := Cond.arrayOver_spec h
  exact ⟨c, fun n z => ⟨fun k h => (by cases h), k, h3, comp, h4⟩, k, comp, h3, h4, h1, h5⟩
theorem z_cls {args : Array Value} {s : State} (hts : ∀ w ∈ Tb, w.before args s = true) : ∃ D : va_G, ∀ (c : Nat) (q : vw_C), cls_[c]? = some q → u_Kn s q.1 q.2.1 q.2.2 (D.1 c) (D.2 c) := by
  have hx : ∀ k, k < 4 → Cond.instantiable (xn k) 6 ∈ Tb := by
    intro k hk
    rcases (by omega : k = 0 ∨ k = 1 ∨ k = 2 ∨ k = 3) with rfl | rfl | rfl | rfl
    · exact tb_of (i := 457) (by decide +kernel) rfl
    · exact tb_of (i := 537) (by decide +kernel) rfl
    · exact tb_of (i := 812) (by decide +kernel) rfl
    · exact tb_of (i := 872) (by decide +kernel) rfl
  have hX : ∀ k, k < 4 → ∃ x : ClassId × (Nat → Nat), u_Kn s (xn k) TE 0 x.1 x.2 := by
    intro k hk
    obtain ⟨a, b, h⟩ := u_known (C := xn k) (T := TE) (N := 0) hts (fun w hw => by cases hw) (hts _ (hx k hk))
    exact ⟨(a, b), h⟩
  have h0 : ∀ c : Nat, ∃ x : ClassId × (Nat → Nat), ∀ q : vw_C, cls_[c]? = some q → u_Kn s q.1 q.2.1 q.2.2 x.1 x.2 := by
    intro c
    by_cases hc : c < 11
    · rcases (by omega : c = 0 ∨ c = 1 ∨ c = 2 ∨ c = 3 ∨ c = 4 ∨ c = 5 ∨ c = 6 ∨ c = 7 ∨ c = 8 ∨ c = 9 ∨ c = 10) with rfl | rfl | rfl | rfl | rfl | rfl | rfl | rfl | rfl | rfl | rfl
      · obtain ⟨a, b, h⟩ := u_known hts kc0.2.1 (hts (Cond.instantiable RX0 11) (tb_of (i := 117) (by decide +kernel) rfl))
        exact ⟨(a, b), fun q hq => by cases hq; exact h⟩
      · obtain ⟨a, b, h⟩ := u_known hts kc1.2.1 (hts (Cond.instantiable RX1 3) (tb_of (i := 224) (by decide +kernel) rfl))
        exact ⟨(a, b), fun q hq => by cases hq; exact h⟩
      · obtain ⟨a, b, h⟩ := u_known hts kc2.2.1 (hts (Cond.instantiable RX2 5) (tb_of (i := 714) (by decide +kernel) rfl))
        exact ⟨(a, b), fun q hq => by cases hq; exact h⟩
      · obtain ⟨a, b, h⟩ := u_known hts kc3.2.1 (hts (Cond.instantiable RX3 10) (tb_of (i := 181) (by decide +kernel) rfl))
        exact ⟨(a, b), fun q hq => by cases hq; exact h⟩
      · obtain ⟨a, b, h⟩ := u_known hts kc4.2.1 (hts (Cond.instantiable RX4 3) (tb_of (i := 111) (by decide +kernel) rfl))
        exact ⟨(a, b), fun q hq => by cases hq; exact h⟩
      · obtain ⟨a, b, h⟩ := u_known hts kc5.2.1 (hts (Cond.instantiable RX5 8) (tb_of (i := 103) (by decide +kernel) rfl))
        exact ⟨(a, b), fun q hq => by cases hq; exact h⟩
      · obtain ⟨a, b, h⟩ := u_known hts kc6.2.1 (hts (Cond.instantiable RX6 22) (tb_of (i := 1033) (by decide +kernel) rfl))
        exact ⟨(a, b), fun q hq => by cases hq; exact h⟩
      · obtain ⟨x, h⟩ := hX 0 (by decide)
        exact ⟨x, fun q hq => by cases hq; exact h⟩
      · obtain ⟨x, h⟩ := hX 1 (by decide)
        exact ⟨x, fun q hq => by cases hq; exact h⟩
      · obtain ⟨x, h⟩ := hX 2 (by decide)
        exact ⟨x, fun q hq => by cases hq; exact h⟩
      · obtain ⟨x, h⟩ := hX 3 (by decide)
        exact ⟨x, fun q hq => by cases hq; exact h⟩
    · refine ⟨(0, fun _ => 0), fun q hq => ?_⟩
      have h1 : c < cls_.length := (List.getElem?_eq_some_iff.mp hq).1
      have h2 : cls_.length = 11 := rfl
      omega
  obtain ⟨f, hf⟩ := Classical.axiomOfChoice h0
  exact ⟨(fun c => (f c).1, fun c => (f c).2), hf⟩
theorem z_start {args : Array Value} {s : State} {b L : Nat} {xs : Nat → Int32} (hts : ∀ w ∈ lw_tbl, w.before args s = true) (hv : ∀ c ∈ NW, c.before args s = true) (hX : va_X b L xs s s.heap) (hb : b < s.heap.size) :
    ∃ G : Gx, G.1 = s.heap.size ∧ G.2.2.2.1 5000 = b ∧ G.2.2.2.2.1 = L ∧ G.2.2.2.2.2 = xs ∧ Kn G s s.heap := by
  have hTb : ∀ w ∈ Tb, w.before args s = true := fun w hw => hts w (List.mem_filter.mp hw).1
  have hA : ∀ a : Nat, a < s.heap.size → ¬ (fun q => s.heap.size ≤ q) a := fun a h1 h2 => Nat.not_le.mpr h1 h2
  obtain ⟨adK, adV, hS, hK⟩ := z_Sof hv hA
  obtain ⟨D, hD⟩ := z_cls hTb
  obtain ⟨c0, a0, n0⟩ := arr_of (hTb _ kw_166)
  obtain ⟨c1, a1, n1⟩ := arr_of (hTb _ kw_179)
  obtain ⟨c2, a2, n2⟩ := arr_of (hTb _ kw_222)
  obtain ⟨c3, a3, n3⟩ := arr_of (hTb _ kw_1107)
  have hov : (Cond.arrayOver (.object "ColourDuel$Board")).before args s = true := hts _ (tn_of (i := 230) (by decide +kernel))
  obtain ⟨c4, a4, n4⟩ := arr_ofB hov
  have hZ1 : va_Z "java/lang/String" "COMPACT_STRINGS" "Z" (.int 1) (fun q => s.heap.size ≤ q) s s.heap := va_Zof (hts _ (tn_of (i := 593) (by decide +kernel))) (hts _ (tn_of (i := 94) (by decide +kernel))) (va_eqi (hv _ (by decide +kernel))) hA
  have hZ2 : va_Zq "jdk/internal/util/Preconditions" "SIOOBE_FORMATTER" "Ljava/util/function/BiFunction;" (fun q => s.heap.size ≤ q) s s.heap := va_Zqof (hts _ (tn_of (i := 609) (by decide +kernel))) (hts _ (tn_of (i := 96) (by decide +kernel))) (hv _ (by decide +kernel)) hA
  have hZ3 : vx_Zq Bundle.tN "UNASSIGNED_STACK" Bundle.steD (fun q => s.heap.size ≤ q) s s.heap := vx_Zqof (hts _ (tn_of (i := 483) (by decide +kernel))) (hts _ (tn_of (i := 88) (by decide +kernel))) (hv _ (by decide +kernel)) hA
  have hZ4 : vx_Zq Bundle.tN "SUPPRESSED_SENTINEL" Bundle.listD (fun q => s.heap.size ≤ q) s s.heap := vx_Zqof (hts _ (tn_of (i := 485) (by decide +kernel))) (hts _ (tn_of (i := 88) (by decide +kernel))) (hv _ (by decide +kernel)) hA
  obtain ⟨tf, htf⟩ : ∃ tf : Nat, va_Z "jdk/internal/util/Preconditions" "SIOOBE_FORMATTER" "Ljava/util/function/BiFunction;" .null (fun q => s.heap.size ≤ q) s s.heap ∨ va_Z "jdk/internal/util/Preconditions" "SIOOBE_FORMATTER" "Ljava/util/function/BiFunction;" (.ref tf) (fun q => s.heap.size ≤ q) s s.heap := by
    rcases hZ2 with h | ⟨t, h⟩
    · exact ⟨0, Or.inl h⟩
    · exact ⟨t, Or.inr h⟩
  refine ⟨(s.heap.size, D, (fun k => match k with
    | 0 => c0
    | 1 => c1
    | 2 => c2
    | 3 => c3
    | _ => c4), (fun j => if j < 6 then adK j else if j = 5000 then b else if j = 6000 then tf else adV (j - 1000)), L, xs), rfl, rfl, rfl, rfl, ⟨hD, fun k q hk => ?_⟩, ⟨vk_S_congr (fun i hi => if_pos hi) (fun i hi => ?_) hS, hZ1, htf, hX, hb⟩, fun own k tx hm => ?_, fun w hw hn => ?_, va_AO.of hov, hZ3, hZ4, ⟨va_Nc.of (hv _ (by decide +kernel)), va_Nc.of (hv _ (by decide +kernel)), va_Nc.of (hv _ (by decide +kernel))⟩, fun w hw he => ?_, Nat.le_refl _⟩
  · match k, hk with
    | 0, hk => cases hk; exact ⟨a0, n0⟩
    | 1, hk => cases hk; exact ⟨a1, n1⟩
    | 2, hk => cases hk; exact ⟨a2, n2⟩
    | 3, hk => cases hk; exact ⟨a3, n3⟩
    | 4, hk => cases hk; exact ⟨a4, n4⟩
    | k + 5, hk => cases hk
  · show (if 1000 + i < 6 then adK (1000 + i) else if 1000 + i = 5000 then b else if 1000 + i = 6000 then tf else adV (1000 + i - 1000)) = adV i
    rw [if_neg (by omega), if_neg (by omega), if_neg (by omega)]
    rw [Nat.add_sub_cancel_left]
  · have h1 := List.all_eq_true.mp strW_ex _ (strW_mem hm)
    obtain ⟨a, c, cA, kA, q1, -⟩ := Cond.exactly_spec (args := args) (first := s) (o := none) (s := s) (idx := []) (t := .string own k) (cls := "java/lang/String") (hv _ (of_decide_eq_true h1))
    refine ⟨a, vk_R.of (hts _ hm) q1, fun j hj => ?_⟩
    obtain ⟨h6, h7⟩ := strW_tx hm hj
    show a = if j < 6 then adK j else _
    rw [if_pos h6]
    rcases h7 with h7 | h7
    · rw [h7] at q1
      exact Value.ref.inj (Option.some.inj (q1.symm.trans (hK j h6)))
    · rw [h7] at q1
      exact eq_same (hv _ (n_same j h6)) (hK j h6) a q1
  · have ht : w.onTables = true := by cases w <;> first | (cases hn; done) | rfl
    exact va_tabs ht rfl (hts w hw)
  · obtain ⟨ty, rfl⟩ := he
    exact hTb _ hw
/-- nothing was there: the abstract heap begins empty -/
def h00 : Hp := (fun _ => .inr (0, []), 0, 0)
theorem z_Rl {G : Gx} {H : Heap} (h : G.1 = H.size) : Rl G h00 H := ⟨by rw [h]; rfl, fun k hk => absurd hk (Nat.not_lt_zero k)⟩
theorem z_drop {s s' : State} {L : List Loc} {k n : Nat} (h : s.sameButNew s' L k n) (hL : ∀ x ∈ L, s.heap.size ≤ x.base) : s.sameButNew s' [] k n := by
  obtain ⟨h1, h2, h3, h4, h5, h6⟩ := h
  refine ⟨h1, h2, h3, h4, h5, fun a c hc => ?_⟩
  obtain ⟨c', g1, g2, g3, g4⟩ := h6 a c hc
  refine ⟨c', g1, g2, g3, fun i _ => g4 i fun hm => ?_⟩
  have e1 : s.heap.size ≤ a := hL _ hm
  exact Nat.not_le.mpr (Array.getElem?_eq_some_iff.mp hc).1 e1
