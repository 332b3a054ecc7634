/-! methods that throw, called by a method that catches; the law's helpers -/
/-- the contract of a method that may throw -/
def SX (l : Launch) (G : Gx) (lev : Nat) (M : Mt) (avs : List Value) (h : Hp) (o : Oc × Hp) : Prop := (h.2.1 ≤ o.2.2.1 ∧ h.2.2 ≤ o.2.2.2) ∧
  vx_Met l M.1 (wsM M) (rmL lev (o.2.2.1 - h.2.1) (o.2.2.2 - h.2.2)) (PcM G avs h) (PqC G o) (PqX G o) (o.2.2.1 - h.2.1) (o.2.2.2 - h.2.2) (fun q => G.1 ≤ q)
def wsH (M : Mt) : List Cond := Cond.codeWith M.1 M.2.1 M.2.2.1 M.2.2.2.1 M.2.2.2.2 :: Tb
def KH (M : Mt) (n : Nat) : Prop := Cond.codeWith M.1 M.2.1 M.2.2.1 M.2.2.2.1 M.2.2.2.2 ∈ Tb ∧ Cond.initialized M.1.cls ∈ Tb ∧ (M.1.cls ≠ "java/lang/invoke/MethodHandle" ∧ M.1.cls ≠ "java/lang/invoke/VarHandle" ∧ (parseMethodDescriptor M.1.desc).map (fun d => d.parameters.length) = some n) ∧ M.2.2.1 ≤ 45 ∧ plainName M.1.cls = true
def SH (l : Launch) (G : Gx) (lev : Nat) (M : Mt) (avs : List Value) (h : Hp) (rv : Option Value) (h' : Hp) : Prop := (h.2.1 ≤ h'.2.1 ∧ h.2.2 ≤ h'.2.2) ∧
  Met l M.1 (wsH M) (rmL lev (h'.2.1 - h.2.1) (h'.2.2 - h.2.2)) (PcM G avs h) (PqC G (.inl rv, h')) (h'.2.1 - h.2.1) (h'.2.2 - h.2.2) (fun q => G.1 ≤ q)
/-- thrown: what the way from there on answers -/
def SimX (l : Launch) (G : Gx) (lev : Nat) (M : Mt) {ρ : Type} (fin : ρ → Oc × Hp) (pc : Nat) (lv : List (Nat × Value)) (k : Nat) (h : Hp) (r : Option ρ) : Prop :=
  ∀ v, r = some v → (h.2.1 ≤ (fin v).2.2.1 ∧ h.2.2 ≤ (fin v).2.2.2) ∧
    ∀ (p : Program) (e : Env) (R : Room) (s : State) (m : MethodId) (args : Array Value) (below : List Frame) (meth : Method) (c : Code) (H : Heap) (locs : List Loc) (cells slots : Nat) (ls : Array Slot) (q : Addr) (ce : Cell) (rest : List Value),
      Cx l G lev M lv h p R s m args meth c H locs ls → cells + (fin v).2.2.1 ≤ R.cells + h.2.1 → slots + (fin v).2.2.2 ≤ R.slots + h.2.2 → H[q]? = some ce → ce.vm = .none → s.vm.findClass (xn k) = some ce.cls →
      vx_W p l e R s m args below meth c H locs cells slots (vx_MQ below (PqC G (fin v)) (PqX G (fin v)) args s R.cells R.slots (fun q => G.1 ≤ q)) (F0 m pc ls rest) q
/-- where a handler begins -/
def SimQ (l : Launch) (G : Gx) (lev : Nat) (M : Mt) {ρ : Type} (fin : ρ → Oc × Hp) (pc : Nat) (lv : List (Nat × Value)) (h : Hp) (r : Option ρ) : Prop :=
  ∀ v, r = some v → (h.2.1 ≤ (fin v).2.2.1 ∧ h.2.2 ≤ (fin v).2.2.2) ∧
    ∀ (p : Program) (e : Env) (R : Room) (s : State) (m : MethodId) (args : Array Value) (below : List Frame) (meth : Method) (c : Code) (H : Heap) (locs : List Loc) (cells slots : Nat) (ls : Array Slot) (q : Addr),
      Cx l G lev M lv h p R s m args meth c H locs ls → cells + (fin v).2.2.1 ≤ R.cells + h.2.1 → slots + (fin v).2.2.2 ≤ R.slots + h.2.2 →
      W p l e R s m args below meth c H locs cells slots (vx_MQ below (PqC G (fin v)) (PqX G (fin v)) args s R.cells R.slots (fun q => G.1 ≤ q)) (F0 m pc ls [.ref q])
section CATCH
variable {l : Launch} {G : Gx} {lev : Nat} {M : Mt} {ρ : Type} {fin : ρ → Oc × Hp} {pc : Nat} {lv : List (Nat × Value)} {st : List Value} {h : Hp} {r : Option ρ}
theorem SX.of {n lev : Nat} {avs : List Value} {lv0 : List (Nat × Value)} {v : ρ} (hK : KM M n) (hs : l.stackTraces = false) (hl0 : lv_args 0 avs = lv0) (hsz : (lg_sl avs).length ≤ M.2.2.1) (S : Sim l G lev M fin 0 lv0 [] h r) (hv : r = some v) : SX l G lev M avs h (fin v) := by
  obtain ⟨S1, S2⟩ := S v hv
  refine ⟨S1, ?_⟩
  refine vx_ofW (cc := M.2.1) (maxL := M.2.2.1) (ret := M.2.2.2.1) (ws' := Tb) hK.2.2.2.2.1 rfl ?_
  intro p e s m args below meth c s₁ B hml htab hv9
  obtain ⟨rfl, hR, hKn⟩ := hv9
  have hts := atoms_spec (ws := wsM M) B.pre
  have hl := lv_entry (avs.map (sh G)) (n := M.2.2.1) (by rw [sl_len]; exact hsz)
  rw [lg_entry_eq]
  have hl' : lv_args 0 (avs.map (sh G)) = lv0.map (fun q => (q.1, sh G q.2)) := by rw [← hl0]; exact args_map avs 0
  rw [hl'] at hl
  have htab' : c.exceptionTable.toList = tableOf M.2.2.2.2 := by
    rw [hK.2.2.2.2.2]
    cases hh : c.exceptionTable.toList with
    | nil => rfl
    | cons a t => exact absurd (htab a (by rw [hh]; exact List.mem_cons_self)) (fun h => h)
  have hw := S2 p e (headSpec (wsM M) (rmL lev ((fin v).2.2.1 - h.2.1) ((fin v).2.2.2 - h.2.2))).room s m _ below meth c s.heap [] 0 0 _ ⟨B.exec, B.bytes, B.returns, hml, fun w hw => hts w (List.mem_cons_of_mem _ hw), findClass_of_methodNamed B.named, B.notSynchronized, (name_of_methodNamed B.named B.method).1, htab', hKn, hR, va_S.rf, hl, hs, Nat.le_refl _, Nat.le_refl _⟩ (by show 0 + (fin v).2.2.1 ≤ ((fin v).2.2.1 - h.2.1) + h.2.1; omega) (by show 0 + (fin v).2.2.2 ≤ ((fin v).2.2.2 - h.2.2) + h.2.2; omega)
  exact hw
theorem SH.of {n lev : Nat} {avs : List Value} {lv0 : List (Nat × Value)} {v : ρ} {rv : Option Value} {h' : Hp} (hK : KH M n) (hs : l.stackTraces = false) (hl0 : lv_args 0 avs = lv0) (hsz : (lg_sl avs).length ≤ M.2.2.1) (S : Sim l G lev M fin 0 lv0 [] h r) (hv : r = some v) (hf : fin v = (.inl rv, h')) : SH l G lev M avs h rv h' := by
  obtain ⟨S1, S2⟩ := S v hv
  rw [hf] at S1 S2
  refine ⟨S1, ?_⟩
  have hX : vx_Met l M.1 (wsH M) (rmL lev (h'.2.1 - h.2.1) (h'.2.2 - h.2.2)) (PcM G avs h) (PqC G (.inl rv, h')) (PqX G (.inl rv, h')) (h'.2.1 - h.2.1) (h'.2.2 - h.2.2) (fun q => G.1 ≤ q) := by
    refine vx_ofWH (cc := M.2.1) (maxL := M.2.2.1) (ret := M.2.2.2.1) (hh := M.2.2.2.2) (ws' := Tb) hK.2.2.2.2 rfl ?_
    intro p e s m args below meth c s₁ B hml hv9
    obtain ⟨rfl, hR, hKn⟩ := hv9
    have hts := atoms_spec (ws := wsH M) B.pre
    have hl := lv_entry (avs.map (sh G)) (n := M.2.2.1) (by rw [sl_len]; exact hsz)
    rw [lg_entry_eq]
    have hl' : lv_args 0 (avs.map (sh G)) = lv0.map (fun q => (q.1, sh G q.2)) := by rw [← hl0]; exact args_map avs 0
    rw [hl'] at hl
    have htab' : c.exceptionTable.toList = tableOf M.2.2.2.2 := vx_table (x := M.1) B (hts _ List.mem_cons_self)
    have hw := S2 p e (headSpec (wsH M) (rmL lev (h'.2.1 - h.2.1) (h'.2.2 - h.2.2))).room s m _ below meth c s.heap [] 0 0 _ ⟨B.exec, B.bytes, B.returns, hml, fun w hw => hts w (List.mem_cons_of_mem _ hw), findClass_of_methodNamed B.named, B.notSynchronized, (name_of_methodNamed B.named B.method).1, htab', hKn, hR, va_S.rf, hl, hs, Nat.le_refl _, Nat.le_refl _⟩ (by show 0 + h'.2.1 ≤ (h'.2.1 - h.2.1) + h.2.1; omega) (by show 0 + h'.2.2 ≤ (h'.2.2 - h.2.2) + h.2.2; omega)
    exact hw
  intro p e ha hc hk s m args below hf9 hap hP hT
  obtain ⟨n, o, h1, h2, h3, h4⟩ := hX p e ha hc hk s m args below hf9 hap hP hT
  refine ⟨n, o, h1, h2, h3, ?_⟩
  rcases h4 with h4 | ⟨q, -, E, ce, L, ⟨k, hk9, -⟩, -⟩
  · exact h4
  · cases hk9
/-- what a call that may throw goes on with -/
def bX {ρ : Type} (call : Option ((Int32 ⊕ Nat) × Hp)) (f : Int32 → Hp → Option ρ) (g : Nat → Hp → Option ρ) : Option ρ := call.bind fun o => match o.1 with
  | .inl v => f v o.2
  | .inr k => g k o.2
theorem S_callVX {lev' n index ci a N : Nat} {T : u_T} {ty : Nat → FieldType} {My : Mt} (avs st : List Value) {call : Option ((Int32 ⊕ Nat) × Hp)} {f : Int32 → Hp → Option ρ} {g : Nat → Hp → Option ρ} (hC : KC ci My.1.cls T N ty) (hK : KM My n) (hl : Cond.methodLink M.1.cls index My.1 ∈ Tb) (hin : Cond.instanceMethod My.1 ∈ Tb) (hse : Cond.selects My.1.cls My.1 My.1 ∈ Tb) (hd : decode M.2.1 pc = .ok (.invokevirtual index, 3)) (hlev : lev' + 1 ≤ lev) (hn : avs.length = n) (hroom : (st.map fun v => v.category).sum ≤ 8)
    (hm : ∀ x, call = some x → SX l G lev' My (.ref a :: avs) h (finX x)) (kk : ∀ x h1, Sim l G lev M fin (pc + 3) lv (.int x :: st) h1 (f x h1)) (kx : ∀ k h1, SimX l G lev M fin pc lv k h1 (g k h1)) : Sim l G lev M fin pc lv (avs.reverse ++ .ref a :: st) h (cv h ci a (bX call f g)) := by
  intro v hv
  unfold cv at hv
  cases ho : hO h ci a with
  | none => rw [ho] at hv; cases hv
  | some fs =>
    rw [ho] at hv
    cases hx : call with
    | none => rw [hx] at hv; cases hv
    | some x =>
      rw [hx] at hv
      obtain ⟨⟨z1, z2⟩, hM⟩ := hm x hx
      have hkk : (x.2.2.1 ≤ (fin v).2.2.1 ∧ x.2.2.2 ≤ (fin v).2.2.2) := by
        obtain ⟨o, h1⟩ := x
        cases o with
        | inl w => exact (kk w h1 v hv).1
        | inr k => exact (kx k h1 v hv).1
      have z1' : h.2.1 ≤ x.2.2.1 := z1
      have z2' : h.2.2 ≤ x.2.2.2 := z2
      refine ⟨⟨Nat.le_trans z1' hkk.1, Nat.le_trans z2' hkk.2⟩, fun p e R s m args below meth c H locs cells slots ls C h1 h2 => ?_⟩
      have C' := C
      obtain ⟨a1, a2, a3, a4, a5, a6, a7, a8, a9, a10, a11, a12, a13, a14, a15, a16⟩ := C
      have hR := rm_ok (c := x.2.2.1 - h.2.1) (s := x.2.2.2 - h.2.2) a15 a16 hlev hK.2.2.2.1
      have hr := vx_runV (p := p) (l := l) (e := e) (R := R) (s := s) (m := m) (args := args) (below := below) (meth := meth) (c := c) (H := H) (locs := locs) (cells := cells) (slots := slots) (own := M.1.cls) (C := My.1.cls) (b := G.1 + a) (g := F0 m pc ls ((avs.reverse ++ .ref a :: st).map (sh G))) (As := avs.map (sh G)) (rest := st.map (sh G)) ⟨a1, a2, a4, a6, a5⟩ hM ⟨callB_of n a5 (gTb hK.1) rfl rfl rfl (a5 _ hK.2.1) (a5 _ hl) hK.2.2.1 hR, a5 _ hin, a5 _ hse⟩ ⟨PcM.blind, rl_recv hC a10.1 a11 ho, PcM.at (avs := .ref a :: avs) C'⟩ rfl (by rw [List.length_map]; exact hn) a13.1 (by show List.map _ _ = _; rw [List.map_append, List.map_reverse]; rfl) (lv_room (by rw [catsum]; exact hroom)) hd ⟨by show cells + (x.2.2.1 - h.2.1) ≤ R.cells; omega, by show slots + (x.2.2.2 - h.2.2) ≤ R.slots; omega⟩
      have hS : ∀ (H1 : Heap) (locs1 : List Loc) (L : List Loc), locs1 = locs ++ L → (∀ q ∈ L, G.1 ≤ q.base) → (∀ q : Nat, q < G.1 → H1[q]? = H[q]?) → Rl G x.2 H1 → va_S (fun q => G.1 ≤ q) s.heap H1 locs1 := by
        intro H1 locs1 L e9 hL hq hR1
        subst e9
        refine ⟨by have := a11.1; have := hR1.1; have := a12.1; omega, fun q g1 g2 => ?_, fun q hq9 => ?_⟩
        · rw [hq q (Nat.not_le.mp g2)]
          exact a12.2.1 q g1 g2
        · rcases List.mem_append.mp hq9 with h9 | h9
          · exact a12.2.2 q h9
          · exact hL q h9
      intro T hT X
      rcases hr T hT X with ⟨v1, st₀, t, T', L, h0, X', hL, e1, e2, ⟨v9, hv9, hvv, hR1, hq⟩, stp⟩ | ⟨q1, st₀, t, T', L, E, ce, h0, X', hL, e1, e2, ⟨k9, hk9, rfl, hR1, hq⟩, hce, hcv, hcl, stp⟩
      · obtain ⟨o, h3⟩ := x
        cases o with
        | inr k => cases hv9
        | inl w =>
          cases hv9
          cases hvv
          have y1 : h3.2.1 ≤ (fin v).2.2.1 := hkk.1
          have y2 : h3.2.2 ≤ (fin v).2.2.2 := hkk.2
          have y3 : h.2.1 ≤ h3.2.1 := z1'
          have y4 : h.2.2 ≤ h3.2.2 := z2'
          have hS1 := hS t.heap (locs ++ L) L rfl hL (fun q g => by rw [hq q g, h0]) hR1
          obtain ⟨t2, b1, b2⟩ := (kk w h3 v hv).2 p e R s m args below meth c t.heap (locs ++ L) (cells + (h3.2.1 - h.2.1)) (slots + (h3.2.2 - h.2.2)) ls ⟨a1, a2, a3, a4, a5, a6, a7, a8, a9, a10, hR1, hS1, a13, a14, a15, a16⟩ (by omega) (by omega) T' e1 X'
          exact ⟨t2, stp t2 b1, b2⟩
      · obtain ⟨o, h3⟩ := x
        cases o with
        | inl w => cases hk9
        | inr k =>
          cases hk9
          have y1 : h3.2.1 ≤ (fin v).2.2.1 := hkk.1
          have y2 : h3.2.2 ≤ (fin v).2.2.2 := hkk.2
          have y3 : h.2.1 ≤ h3.2.1 := z1'
          have y4 : h.2.2 ≤ h3.2.2 := z2'
          have hS1 := hS t.heap (locs ++ L) L rfl hL (fun q g => by rw [hq q g, h0]) hR1
          obtain ⟨t2, b1, b2⟩ := (kx _ h3 v hv).2 p e R s m args below meth c t.heap (locs ++ L) (cells + (h3.2.1 - h.2.1)) (slots + (h3.2.2 - h.2.2)) ls q1 ce (st.map (sh G)) ⟨a1, a2, a3, a4, a5, a6, a7, a8, a9, a10, hR1, hS1, a13, a14, a15, a16⟩ (by omega) (by omega) hce hcv hcl T' e1 X'
          exact ⟨t2, stp.trans b1, b2⟩
theorem S_hst_n {n : Fin 4} {i : Nat} (hd : decode M.2.1 pc = .ok (.astore_n n, 1)) (hi : (n : Nat) = i) (hn : i < M.2.2.1) (k : Sim l G lev M fin (pc + 1) [] [] h r) : SimQ l G lev M fin pc lv h r := fun v hv => ⟨(k v hv).1, fun p e R s m args below meth c H locs cells slots ls q C h1 h2 => by
  obtain ⟨a1, a2, a3, a4, a5, a6, a7, a8, a9, a10, a11, a12, a13, a14, a15, a16⟩ := C
  refine lv_astore_n a1 a2 hd hi a13 hn rfl fun ls' hl' => ?_
  exact (k v hv).2 p e R s m args below meth c H locs cells slots ls' ⟨a1, a2, a3, a4, a5, a6, a7, a8, a9, a10, a11, a12, lv_sub hl' [] rfl, a14, a15, a16⟩ h1 h2⟩
theorem S_hst {i : Nat} (hd : decode M.2.1 pc = .ok (.astore i, 2)) (hn : i < M.2.2.1) (k : Sim l G lev M fin (pc + 2) [] [] h r) : SimQ l G lev M fin pc lv h r := fun v hv => ⟨(k v hv).1, fun p e R s m args below meth c H locs cells slots ls q C h1 h2 => by
  obtain ⟨a1, a2, a3, a4, a5, a6, a7, a8, a9, a10, a11, a12, a13, a14, a15, a16⟩ := C
  refine lv_astore a1 a2 hd a13 hn rfl fun ls' hl' => ?_
  exact (k v hv).2 p e R s m args below meth c H locs cells slots ls' ⟨a1, a2, a3, a4, a5, a6, a7, a8, a9, a10, a11, a12, lv_sub hl' [] rfl, a14, a15, a16⟩ h1 h2⟩
theorem S_hx1 {k k0 s0 e0 hp ct : Nat} (hh : M.2.2.2.2 = [(s0, e0, hp, ct)]) (hcov : covers ⟨s0, e0, hp, ct⟩ pc = true) (hct : ct ≠ 0) (hl : Cond.classLink M.1.cls ct (xn k0) ∈ Tb) (hca : Cond.castable (xn k0) (xn k0) ∈ lw_tbl) (S : SimQ l G lev M fin hp lv h r) : SimX l G lev M fin pc lv k h (if k = k0 then r else none) := by
  intro v hv
  by_cases hk : k = k0
  · subst hk
    rw [if_pos rfl] at hv
    refine ⟨(S v hv).1, fun p e R s m args below meth c H locs cells slots ls q ce rest C h1 h2 hce hcv hcl => ?_⟩
    have w := fun q => (S v hv).2 p e R s m args below meth c H locs cells slots ls q C h1 h2
    obtain ⟨a1, a2, a3, a4, a5, a6, a7, a8, a9, a10, a11, a12, a13, a14, a15, a16⟩ := C
    exact vx_catch (own := M.1.cls) (name := xn k) (E := xn k) a6 [] ⟨s0, e0, hp, ct⟩ [] (by rw [a9, hh]; rfl) (fun z hz => nomatch hz) hcov hct (a5 _ hl) (va_Nw.use rfl (a10.2.2.2.1 _ hca rfl)) hce hcv hcl (w q)
  · rw [if_neg hk] at hv; cases hv
theorem S_hx2 {k k1 s0 e0 hp ct hp1 ct1 : Nat} {r1 : Option ρ} (hh : M.2.2.2.2 = [(s0, e0, hp, ct), (s0, e0, hp1, ct1)]) (hcov : covers ⟨s0, e0, hp, ct⟩ pc = true) (hcov1 : covers ⟨s0, e0, hp1, ct1⟩ pc = true) (hct : ct ≠ 0) (hct1 : ct1 ≠ 0) (hl : Cond.classLink M.1.cls ct (xn 2) ∈ Tb) (hl1 : Cond.classLink M.1.cls ct1 (xn k1) ∈ Tb) (hca : Cond.castable (xn 2) (xn 2) ∈ lw_tbl) (hca1 : Cond.castable (xn k1) (xn k1) ∈ lw_tbl) (hk1 : k1 = 0 ∨ k1 = 1 ∨ k1 = 3) (S : SimQ l G lev M fin hp lv h r) (S1 : SimQ l G lev M fin hp1 lv h r1) : SimX l G lev M fin pc lv k h (if k = 2 then r else if k = k1 then r1 else none) := by
  intro v hv
  by_cases hk : k = 2
  · subst hk
    rw [if_pos rfl] at hv
    refine ⟨(S v hv).1, fun p e R s m args below meth c H locs cells slots ls q ce rest C h1 h2 hce hcv hcl => ?_⟩
    have w := fun q => (S v hv).2 p e R s m args below meth c H locs cells slots ls q C h1 h2
    obtain ⟨a1, a2, a3, a4, a5, a6, a7, a8, a9, a10, a11, a12, a13, a14, a15, a16⟩ := C
    exact vx_catch (own := M.1.cls) (name := xn 2) (E := xn 2) a6 [] ⟨s0, e0, hp, ct⟩ [⟨s0, e0, hp1, ct1⟩] (by rw [a9, hh]; rfl) (fun z hz => nomatch hz) hcov hct (a5 _ hl) (va_Nw.use rfl (a10.2.2.2.1 _ hca rfl)) hce hcv hcl (w q)
  · rw [if_neg hk] at hv
    by_cases hk2 : k = k1
    · subst hk2
      rw [if_pos rfl] at hv
      refine ⟨(S1 v hv).1, fun p e R s m args below meth c H locs cells slots ls q ce rest C h1 h2 hce hcv hcl => ?_⟩
      have w := fun q => (S1 v hv).2 p e R s m args below meth c H locs cells slots ls q C h1 h2
      obtain ⟨a1, a2, a3, a4, a5, a6, a7, a8, a9, a10, a11, a12, a13, a14, a15, a16⟩ := C
      have hno : va_Nc (xn k) (xn 2) s := by
        obtain ⟨b1, b2, b3⟩ := a10.2.2.2.2.2.2.2.1
        rcases hk1 with rfl | rfl | rfl
        · exact b3
        · exact b1
        · exact b2
      refine vx_catch (own := M.1.cls) (name := xn k) (E := xn k) a6 [⟨s0, e0, hp, ct⟩] ⟨s0, e0, hp1, ct1⟩ [] (by rw [a9, hh]; rfl) (fun z hz => ?_) hcov1 hct1 (a5 _ hl1) (va_Nw.use rfl (a10.2.2.2.1 _ hca1 rfl)) hce hcv hcl (w q)
      cases List.mem_singleton.mp hz
      exact Or.inr ⟨hct, xn 2, a5 _ hl, hno⟩
    · rw [if_neg hk2] at hv; cases hv
theorem S_callSH {lev' n index : Nat} {My : Mt} (avs st : List Value) {call : Option (Int32 × Hp)} {f : Int32 → Hp → Option ρ} (hK : KH My n) (hl : Cond.methodLink M.1.cls index My.1 ∈ Tb) (hst : Cond.static My.1 ∈ Tb) (hd : decode M.2.1 pc = .ok (.invokestatic index, 3)) (hlev : lev' + 1 ≤ lev) (hn : avs.length = n) (hroom : (st.map fun v => v.category).sum ≤ 8)
    (hm : ∀ x h1, call = some (x, h1) → SH l G lev' My avs h (some (.int x)) h1) (kk : ∀ x h1, call = some (x, h1) → Sim l G lev M fin (pc + 3) lv (.int x :: st) h1 (f x h1)) : Sim l G lev M fin pc lv (avs.reverse ++ st) h (b2 call f) := by
  refine Sim.call (fv := fun p : Int32 × Hp => (some (.int p.1), p.2)) (fun x hx => (hm x.1 x.2 hx).1) (fun x hx => kk x.1 x.2 hx) fun {p e R s m args below meth c H locs cells slots ls} x hx C h1 h2 => ⟨(avs.map (sh G)).toArray, ?_⟩
  have C' := C
  obtain ⟨a1, a2, a3, a4, a5, a6, a7, a8, a9, a10, a11, a12, a13, a14, a15, a16⟩ := C
  have hR := rm_ok (c := x.2.2.1 - h.2.1) (s := x.2.2.2 - h.2.2) a15 a16 hlev hK.2.2.2.1
  have hG : GoodIn Tb (wsH My) := by
    intro w hw
    rcases List.mem_cons.mp hw with rfl | hw
    · exact ⟨hK.1, good_of_word (List.mem_filter.mp hK.1).2⟩
    · exact ⟨hw, good_of_word (List.mem_filter.mp hw).2⟩
  refine vx_runSW (own := M.1.cls) (hh := My.2.2.2.2) (As := avs.map (sh G)) (rest := st.map (sh G)) (n := n) ⟨a1, a2, a4, a6, a5⟩ (hm x.1 x.2 hx).2 ⟨⟨rfl, rfl, hR.1, hR.2, pay_in a5 hG, List.mem_cons_self⟩, a5 _ hK.1, a5 _ hK.2.1, ⟨hK.2.2.1.1, hK.2.2.1.2.1⟩, fun sig h9 => ?_, a5 _ hl, a5 _ hst⟩ ⟨PcM.blind, PcM.at C'⟩ rfl (by rw [List.length_map]; exact hn) a13.1 (by show List.map _ _ = _; rw [List.map_append, List.map_reverse]) (lv_room (by rw [catsum]; exact hroom)) hd ⟨h1, h2⟩
  have h3 := hK.2.2.1.2.2
  rw [h9] at h3
  exact (Option.some.inj h3).symm
/-! the script -/
theorem S_xlen {j : Nat} (hj : j = 5000) (hd : decode M.2.1 pc = .ok (.arraylength, 1)) (k : Sim l G lev M fin (pc + 1) lv (.int (Int32.ofNat G.2.2.2.2.1) :: st) h r) : Sim l G lev M fin pc lv (.retAddr j :: st) h r := Sim.pure k fun C w => by
  subst hj
  exact va_slen C.1 C.2.1 (A := fun q => G.1 ≤ q) C.2.2.2.2.2.2.2.2.2.1.2.1.2.2.2.1 (Nat.lt_of_lt_of_le C.2.2.2.2.2.2.2.2.2.1.2.1.2.2.2.2 C.2.2.2.2.2.2.2.2.2.1.2.2.2.2.2.2.2.2.2) (Nat.not_le.mpr C.2.2.2.2.2.2.2.2.2.1.2.1.2.2.2.2) C.2.2.2.2.2.2.2.2.2.2.2.1 hd w
def xg (G : Gx) (i : Int32) : Option Int32 := if i < 0 ∨ G.2.2.2.2.1 ≤ i.toNatClampNeg then none else some (G.2.2.2.2.2 i.toNatClampNeg)
theorem S_xld {j : Nat} {i : Int32} {f : Int32 → Option ρ} (hj : j = 5000) (hd : decode M.2.1 pc = .ok (.iaload, 1)) (k : ∀ x, Sim l G lev M fin (pc + 1) lv (.int x :: st) h (f x)) : Sim l G lev M fin pc lv (.int i :: .retAddr j :: st) h ((xg G i).bind f) := by
  unfold xg
  by_cases hin : i < 0 ∨ G.2.2.2.2.1 ≤ i.toNatClampNeg
  · rw [if_pos hin]
    intro v hv
    cases hv
  · rw [if_neg hin]
    refine Sim.pure (k _) fun C w => ?_
    subst hj
    exact va_sld C.1 C.2.1 (A := fun q => G.1 ≤ q) C.2.2.2.2.2.2.2.2.2.1.2.1.2.2.2.1 (Nat.lt_of_lt_of_le C.2.2.2.2.2.2.2.2.2.1.2.1.2.2.2.2 C.2.2.2.2.2.2.2.2.2.1.2.2.2.2.2.2.2.2.2) (Nat.not_le.mpr C.2.2.2.2.2.2.2.2.2.1.2.1.2.2.2.2) C.2.2.2.2.2.2.2.2.2.2.2.1 hin hd w
end CATCH
