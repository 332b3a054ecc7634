/-! making cells, ending, calling -/
def bI (b : Bool) : Int32 := if b then 1 else 0
def rmL (lev c s : Nat) : Room := { frames := lev + 8, cells := c, slots := s, locals := 64 * lev + 256 }
def wsM (M : Mt) : List Cond := Cond.code M.1 M.2.1 M.2.2.1 M.2.2.2.1 :: Tb
def PcM (G : Gx) (avs : List Value) (h : Hp) : Array Value → State → Prop := va_Pc (avs.map (sh G)) (fun U => Rl G h U.heap ∧ Kn G U U.heap)
/-- what a method without handlers is known by: its words, how many arguments, how many locals -/
def KM (M : Mt) (n : Nat) : Prop := Cond.code M.1 M.2.1 M.2.2.1 M.2.2.2.1 ∈ Tb ∧ Cond.initialized M.1.cls ∈ Tb ∧ (M.1.cls ≠ "java/lang/invoke/MethodHandle" ∧ M.1.cls ≠ "java/lang/invoke/VarHandle" ∧ (parseMethodDescriptor M.1.desc).map (fun d => d.parameters.length) = some n) ∧ M.2.2.1 ≤ 45 ∧ plainName M.1.cls = true ∧ M.2.2.2.2 = []
/-- the contract: called so, it returns rv and leaves h' -/
def SR (l : Launch) (G : Gx) (lev : Nat) (M : Mt) (avs : List Value) (h : Hp) (rv : Option Value) (h' : Hp) : Prop := (h.2.1 ≤ h'.2.1 ∧ h.2.2 ≤ h'.2.2) ∧
  Met l M.1 (wsM M) (rmL lev (h'.2.1 - h.2.1) (h'.2.2 - h.2.2)) (PcM G avs h) (PqC G (.inl rv, h')) (h'.2.1 - h.2.1) (h'.2.2 - h.2.2) (fun q => G.1 ≤ q)
theorem KnS.kept {G : Gx} {U : State} {H H1 : Heap} (k : KnS G U H) (hq : ∀ q : Nat, q < G.1 → H1[q]? = H[q]?) : KnS G U H1 := by
  obtain ⟨k1, k2, k3, k4, k5⟩ := k
  have hq' : ∀ a : Nat, a < H.size → ¬ (fun q => G.1 ≤ q) a → H1[a]? = H[a]? := fun a _ h2 => hq a (Nat.not_le.mp h2)
  exact ⟨k1.kept hq', k2.kept hq', k3.imp (fun k => k.kept hq') (fun k => k.kept hq'), k4.kept (hq _ k5), k5⟩
theorem KnS.moved {G : Gx} {u U : State} {H : Heap} (hvm : u.vm.Alike U.vm) (k : KnS G u H) : KnS G U H := by
  obtain ⟨k1, k2, k3, k4, k5⟩ := k
  exact ⟨k1.moved hvm, k2.moved hvm, k3.imp (fun k => va_Z.moved hvm k) (fun k => va_Z.moved hvm k), k4.moved hvm, k5⟩
theorem Kn.kept {G : Gx} {U : State} {H H1 : Heap} (k : Kn G U H) (hz : G.1 ≤ H1.size) (hq : ∀ q : Nat, q < G.1 → H1[q]? = H[q]?) : Kn G U H1 := by
  obtain ⟨k1, k2, k3, k4, k5, k6, k7, k8, k9, k10⟩ := k
  have hq' : ∀ a : Nat, a < H.size → ¬ (fun q => G.1 ≤ q) a → H1[a]? = H[a]? := fun a _ h2 => hq a (Nat.not_le.mp h2)
  exact ⟨k1, k2.kept hq, k3, k4, k5, k6.kept hq', k7.kept hq', k8, k9, hz⟩
theorem nwk_warm {w : Cond} (hk : nwk w = true) {s U : State} (hW : s.WarmedH U.vm) (h : va_Nw w s) : va_Nw w U := by
  cases w <;> first | (cases hk; done) | exact va_Nw.warmM hW h | exact va_Nw.warmF hW h | exact va_Nw.warmC hW h | exact va_Nw.warmD hW h
theorem Kn.warm {G : Gx} {s U : State} {H : Heap} (hW : s.WarmedH U.vm) (k : Kn G s H) : Kn G U H := by
  obtain ⟨k1, k2, k3, k4, k5, k6, k7, ⟨k8, k8b, k8c⟩, k9, k10⟩ := k
  refine ⟨k1.moved hW.alike, k2.moved hW.alike, fun own i tx hm => ?_, fun w hw hn => nwk_warm hn hW (k4 w hw hn), k5.moved hW.alike, k6.moved hW.alike, k7.moved hW.alike, ⟨k8.moved hW.alike, k8b.moved hW.alike, k8c.moved hW.alike⟩, fun w hw he => ?_, k10⟩
  · obtain ⟨q, h1, h2⟩ := k3 own i tx hm
    exact ⟨q, vk_R.warm hW h1, h2⟩
  · exact word_at hW (Or.inr he) (k9 w hw he)
theorem Kn.vm {G : Gx} {u U : State} {H : Heap} (hv : U.vm = u.vm) (k : Kn G u H) : Kn G U H := Kn.warm (by rw [hv]; exact State.WarmedH.refl u) k
theorem W.mono {p : Program} {l : Launch} {e : Env} {R : Room} {s : State} {m : MethodId} {args : Array Value} {below : List Frame} {meth : Method} {c : Code} {H : Heap} {locs : List Loc} {cells slots : Nat} {Q Q' : State → Prop} {g : JFrame} (hQ : ∀ t, Q t → Q' t) (k : W p l e R s m args below meth c H locs cells slots Q g) : W p l e R s m args below meth c H locs cells slots Q' g := by
  intro T hT X
  obtain ⟨t, a, b⟩ := k T hT X
  exact ⟨t, a, hQ t b⟩
theorem PcM.blind {G : Gx} {avs : List Value} {h : Hp} : FrameBlind (PcM G avs h) := fun a U g mk q => ⟨q.1, q.2.1, Kn.vm (U := U.calling g mk a) (u := U) rfl q.2.2⟩
section CALL
variable {l : Launch} {G : Gx} {lev : Nat} {M : Mt} {ρ : Type} {fin : ρ → Oc × Hp} {pc : Nat} {lv : List (Nat × Value)} {st : List Value} {h : Hp} {r : Option ρ}
theorem sl_len : ∀ avs : List Value, (lg_sl (avs.map (sh G))).length = (lg_sl avs).length
  | [] => rfl
  | a :: t => by
    have ih := sl_len t
    unfold lg_sl at ih ⊢
    rw [List.map_cons, List.flatMap_cons, List.flatMap_cons, List.length_append, List.length_append, sh_cat, ih]
    congr 1
    split <;> rfl
theorem args_map : ∀ (avs : List Value) (i : Nat), lv_args i (avs.map (sh G)) = (lv_args i avs).map (fun q => (q.1, sh G q.2))
  | [], _ => rfl
  | a :: t, i => by
    show (i, sh G a) :: lv_args (if (sh G a).category = 2 then i + 2 else i + 1) (t.map (sh G)) = (i, sh G a) :: (lv_args (if a.category = 2 then i + 2 else i + 1) t).map _
    rw [sh_cat, args_map t]
theorem rm_a {a b z : Nat} (h1 : a + 8 ≤ z) (h : b + 1 ≤ a) : b + 8 + 1 ≤ z := by omega
set_option maxRecDepth 20000 in
theorem rm_b {a b z mx : Nat} (h2 : 64 * a + 256 ≤ z) (h : b + 1 ≤ a) (hm : mx ≤ 45) : 8 + (mx + 11) + (64 * b + 256) ≤ z := by omega
theorem rm_ok {lev lev' c s mx : Nat} {R : Room} (h1 : lev + 8 ≤ R.frames) (h2 : 64 * lev + 256 ≤ R.locals) (h : lev' + 1 ≤ lev) (hm : mx ≤ 45) : (rmL lev' c s).frames + 1 ≤ R.frames ∧ 8 + (mx + 11) + (rmL lev' c s).locals ≤ R.locals :=
  ⟨rm_a h1 h, rm_b h2 h hm⟩
/-- the contract out of the walk of the body -/
theorem SR.of {n lev : Nat} {avs : List Value} {lv0 : List (Nat × Value)} {v : ρ} {rv : Option Value} {h' : Hp} (hK : KM M n) (hs : l.stackTraces = false) (hl0 : lv_args 0 avs = lv0) (hsz : (lg_sl avs).length ≤ M.2.2.1) (S : Sim l G lev M fin 0 lv0 [] h r) (hv : r = some v) (hf : fin v = (.inl rv, h')) : SR l G lev M avs h rv h' := by
  obtain ⟨S1, S2⟩ := S v hv
  rw [hf] at S1 S2
  refine ⟨S1, ?_⟩
  have hX : vx_Met l M.1 (wsM M) (rmL lev (h'.2.1 - h.2.1) (h'.2.2 - h.2.2)) (PcM G avs h) (PqC G (.inl rv, h')) (PqX G (.inl rv, h')) (h'.2.1 - h.2.1) (h'.2.2 - h.2.2) (fun q => G.1 ≤ q) := by
    refine vx_ofW (cc := M.2.1) (maxL := M.2.2.1) (ret := M.2.2.2.1) (ws' := Tb) hK.2.2.2.2.1 rfl ?_
    intro p e s m args below meth c s₁ B hml htab hv9
    obtain ⟨rfl, hR, hKn⟩ := hv9
    have hts := atoms_spec (ws := wsM M) B.pre
    have hl := lv_entry (avs.map (sh G)) (n := M.2.2.1) (by rw [sl_len]; exact hsz)
    rw [lg_entry_eq]
    have hl' : lv_args 0 (avs.map (sh G)) = lv0.map (fun q => (q.1, sh G q.2)) := by rw [← hl0]; exact args_map avs 0
    rw [hl'] at hl
    have htab' : c.exceptionTable.toList = tableOf M.2.2.2.2 := by
      rw [hK.2.2.2.2.2]
      cases hh : c.exceptionTable.toList with
      | nil => rfl
      | cons a t => exact absurd (htab a (by rw [hh]; exact List.mem_cons_self)) (fun h => h)
    have hw := S2 p e (headSpec (wsM M) (rmL lev (h'.2.1 - h.2.1) (h'.2.2 - h.2.2))).room s m _ below meth c s.heap [] 0 0 _ ⟨B.exec, B.bytes, B.returns, hml, fun w hw => hts w (List.mem_cons_of_mem _ hw), findClass_of_methodNamed B.named, B.notSynchronized, (name_of_methodNamed B.named B.method).1, htab', hKn, hR, va_S.rf, hl, hs, Nat.le_refl _, Nat.le_refl _⟩ (by show 0 + h'.2.1 ≤ (h'.2.1 - h.2.1) + h.2.1; omega) (by show 0 + h'.2.2 ≤ (h'.2.2 - h.2.2) + h.2.2; omega)
    exact hw
  intro p e ha hc hk s m args below hf9 hap hP hT
  obtain ⟨n, o, h1, h2, h3, h4⟩ := hX p e ha hc hk s m args below hf9 hap hP hT
  refine ⟨n, o, h1, h2, h3, ?_⟩
  rcases h4 with h4 | ⟨q, -, E, ce, L, ⟨k, hk9, -⟩, -⟩
  · exact h4
  · cases hk9
theorem W.ofRun {p : Program} {e : Env} {R : Room} {s : State} {m : MethodId} {args : Array Value} {below : List Frame} {meth : Method} {c : Code} {H : Heap} {locs : List Loc} {cells slots mc ms : Nat} {ls : Array Slot} {Q : State → Prop} {st0 rest : List Value} {rv : Option Value} {h' : Hp} {a : Array Value}
    (hr : va_Run p l e R s m args below meth c H locs cells slots mc ms (F0 m pc ls st0) rest (PqC G (.inl rv, h') a) (fun q => G.1 ≤ q)) (hR : Rl G h H) (hle : h.2.1 ≤ h'.2.1) (hS : va_S (fun q => G.1 ≤ q) s.heap H locs)
    (kk : ∀ (H1 : Heap) (locs1 : List Loc), Rl G h' H1 → va_S (fun q => G.1 ≤ q) s.heap H1 locs1 → W p l e R s m args below meth c H1 locs1 (cells + mc) (slots + ms) Q (F0 m (pc + 3) ls ((rv.map (sh G)).toList ++ rest))) : W p l e R s m args below meth c H locs cells slots Q (F0 m pc ls st0) := by
  intro T hT X
  obtain ⟨v, st₀, t, T', L, h0, X', hL, e1, e2, ⟨v9, hv9, hv, hR1, hq⟩, st⟩ := hr T hT X
  cases hv9
  cases hv
  have hR1' : Rl G h' t.heap := hR1
  obtain ⟨t2, a1, b1⟩ := kk t.heap (locs ++ L) hR1' ⟨by have := hR.1; have := hR1'.1; have := hS.1; omega, fun q h1 h2 => by
      rw [hq q (Nat.not_le.mp h2), h0]
      exact hS.2.1 q h1 h2, fun q hq9 => by
      rcases List.mem_append.mp hq9 with h9 | h9
      · exact hS.2.2 q h9
      · exact hL q h9⟩ T' e1 X'
  exact ⟨t2, st t2 a1, b1⟩
theorem PcM.at {avs : List Value} {s : State} {args : Array Value} {p : Program} {R : Room} {m : MethodId} {meth : Method} {c : Code} {H : Heap} {locs : List Loc} {ls : Array Slot} (C : Cx l G lev M lv h p R s m args meth c H locs ls) : ∀ U : State, U.heap = H → s.WarmedH U.vm → PcM G avs h (avs.map (sh G)).toArray U := by
  intro U hU hW
  obtain ⟨a1, a2, a3, a4, a5, a6, a7, a8, a9, a10, a11, a12, a13, a14, a15, a16⟩ := C
  refine ⟨rfl, by rw [hU]; exact a11, Kn.warm hW ?_⟩
  have hle : G.1 ≤ s.heap.size := a10.2.2.2.2.2.2.2.2.2
  refine a10.kept (by rw [hU]; have := a12.1; omega) (fun q hq => ?_)
  rw [hU]
  exact a12.2.1 q (by omega) (Nat.not_le.mpr hq)
theorem Sim.call {α : Type} {call : Option α} {f : α → Option ρ} {fv : α → Option Value × Hp} {st0 : List Value} (hz : ∀ x, call = some x → h.2.1 ≤ (fv x).2.2.1 ∧ h.2.2 ≤ (fv x).2.2.2) (kk : ∀ x, call = some x → Sim l G lev M fin (pc + 3) lv ((fv x).1.toList ++ st) (fv x).2 (f x))
    (hw : ∀ {p : Program} {e : Env} {R : Room} {s : State} {m : MethodId} {args : Array Value} {below : List Frame} {meth : Method} {c : Code} {H : Heap} {locs : List Loc} {cells slots : Nat} {ls : Array Slot} (x : α), call = some x →
      Cx l G lev M lv h p R s m args meth c H locs ls → cells + ((fv x).2.2.1 - h.2.1) ≤ R.cells → slots + ((fv x).2.2.2 - h.2.2) ≤ R.slots → ∃ a, va_Run p l e R s m args below meth c H locs cells slots ((fv x).2.2.1 - h.2.1) ((fv x).2.2.2 - h.2.2) (F0 m pc ls (st0.map (sh G))) (st.map (sh G)) (PqC G (.inl (fv x).1, (fv x).2) a) (fun q => G.1 ≤ q)) :
    Sim l G lev M fin pc lv st0 h (call.bind f) := by
  intro v hv
  cases hx : call with
  | none => rw [hx] at hv; cases hv
  | some x =>
    rw [hx] at hv
    obtain ⟨z1, z2⟩ := hz x hx
    obtain ⟨⟨k1, k1b⟩, k2⟩ := kk x hx v hv
    refine ⟨⟨by omega, by omega⟩, fun p e R s m args below meth c H locs cells slots ls C h1 h2 => ?_⟩
    obtain ⟨a, hr⟩ := hw (e := e) (below := below) (cells := cells) (slots := slots) x hx C (by omega) (by omega)
    obtain ⟨a1, a2, a3, a4, a5, a6, a7, a8, a9, a10, a11, a12, a13, a14, a15, a16⟩ := C
    refine W.ofRun hr a11 z1 a12 fun H1 locs1 q1 q2 => ?_
    have w := k2 p e R s m args below meth c H1 locs1 (cells + ((fv x).2.2.1 - h.2.1)) (slots + ((fv x).2.2.2 - h.2.2)) ls ⟨a1, a2, a3, a4, a5, a6, a7, a8, a9, a10, q1, q2, a13, a14, a15, a16⟩ (by omega) (by omega)
    rw [List.map_append] at w
    have e9 : List.map (sh G) (fv x).1.toList = ((fv x).1.map (sh G)).toList := by cases (fv x).1 <;> rfl
    rw [e9] at w
    exact w
theorem gTb {M : Mt} (hc : Cond.code M.1 M.2.1 M.2.2.1 M.2.2.2.1 ∈ Tb) : GoodIn Tb (wsM M) := by
  intro w hw
  rcases List.mem_cons.mp hw with rfl | hw
  · exact ⟨hc, good_of_word (List.mem_filter.mp hc).2⟩
  · exact ⟨hw, good_of_word (List.mem_filter.mp hw).2⟩
theorem catsum (st : List Value) : ((st.map (sh G)).map fun v => v.category).sum = (st.map fun v => v.category).sum := by
  rw [List.map_map]
  congr 2
  funext v
  exact sh_cat G v
theorem S_callS {lev' n index : Nat} {My : Mt} (avs st : List Value) {α : Type} {call : Option α} {f : α → Option ρ} (fv : α → Option Value × Hp) (hK : KM My n) (hl : Cond.methodLink M.1.cls index My.1 ∈ Tb) (hst : Cond.static My.1 ∈ Tb) (hd : decode M.2.1 pc = .ok (.invokestatic index, 3)) (hlev : lev' + 1 ≤ lev) (hn : avs.length = n) (hroom : (st.map fun v => v.category).sum ≤ 8)
    (hm : ∀ x, call = some x → SR l G lev' My avs h (fv x).1 (fv x).2) (kk : ∀ x, call = some x → Sim l G lev M fin (pc + 3) lv ((fv x).1.toList ++ st) (fv x).2 (f x)) : Sim l G lev M fin pc lv (avs.reverse ++ st) h (call.bind f) := by
  refine Sim.call (fun x hx => (hm x hx).1) kk fun {p e R s m args below meth c H locs cells slots ls} x hx C h1 h2 => ⟨(avs.map (sh G)).toArray, ?_⟩
  have C' := C
  obtain ⟨a1, a2, a3, a4, a5, a6, a7, a8, a9, a10, a11, a12, a13, a14, a15, a16⟩ := C
  have hR := rm_ok (c := (fv x).2.2.1 - h.2.1) (s := (fv x).2.2.2 - h.2.2) a15 a16 hlev hK.2.2.2.1
  exact va_runS (own := M.1.cls) (As := avs.map (sh G)) (rest := st.map (sh G)) ⟨a1, a2, a4, a6, a5⟩ (hm x hx).2 ⟨callB_of n a5 (gTb hK.1) rfl rfl rfl (a5 _ hK.2.1) (a5 _ hl) hK.2.2.1 hR, a5 _ hst⟩ ⟨PcM.blind, PcM.at C'⟩ rfl (by rw [List.length_map]; exact hn) a13.1 (by show List.map _ _ = _; rw [List.map_append, List.map_reverse]) (lv_room (by rw [catsum]; exact hroom)) hd ⟨h1, h2⟩
theorem S_callSN {lev' n index : Nat} {host : String} {My : Mt} (avs st : List Value) {α : Type} {call : Option α} {f : α → Option ρ} (fv : α → Option Value × Hp) (hK : KM My n) (hl : Cond.methodLinkNest M.1.cls index My.1 host ∈ lw_tbl) (hst : Cond.static My.1 ∈ Tb) (hd : decode M.2.1 pc = .ok (.invokestatic index, 3)) (hlev : lev' + 1 ≤ lev) (hn : avs.length = n) (hroom : (st.map fun v => v.category).sum ≤ 8)
    (hm : ∀ x, call = some x → SR l G lev' My avs h (fv x).1 (fv x).2) (kk : ∀ x, call = some x → Sim l G lev M fin (pc + 3) lv ((fv x).1.toList ++ st) (fv x).2 (f x)) : Sim l G lev M fin pc lv (avs.reverse ++ st) h (call.bind f) := by
  refine Sim.call (fun x hx => (hm x hx).1) kk fun {p e R s m args below meth c H locs cells slots ls} x hx C h1 h2 => ⟨(avs.map (sh G)).toArray, ?_⟩
  have C' := C
  obtain ⟨a1, a2, a3, a4, a5, a6, a7, a8, a9, a10, a11, a12, a13, a14, a15, a16⟩ := C
  have hR := rm_ok (c := (fv x).2.2.1 - h.2.1) (s := (fv x).2.2.2 - h.2.2) a15 a16 hlev hK.2.2.2.1
  exact va_runSN (own := M.1.cls) (As := avs.map (sh G)) (rest := st.map (sh G)) ⟨a1, a2, a4, a6, a5⟩ (hm x hx).2 ⟨va_cnB n a5 (gTb hK.1) rfl rfl rfl (a10.2.2.2.1 _ hl rfl) (a5 _ hK.2.1) hK.2.2.1 hR, a5 _ hst, trivial⟩ ⟨PcM.blind, PcM.at C'⟩ rfl (by rw [List.length_map]; exact hn) a13.1 (by show List.map _ _ = _; rw [List.map_append, List.map_reverse]) (lv_room (by rw [catsum]; exact hroom)) hd ⟨h1, h2⟩
theorem rl_recv {s : State} {H : Heap} {a ci : Nat} {fs : List Value} {C : String} {T : u_T} {N : Nat} {ty : Nat → FieldType} (hK : KC ci C T N ty) (hKn : va_K G.2.1 cls_ (tys_ G) s) (hR : Rl G h H) (ho : hO h ci a = some fs) : ∃ cell : Cell, H[G.1 + a]? = some cell ∧ cell.vm.isStatics = false ∧ s.vm.findClass C = some cell.cls := by
  obtain ⟨h1, h2⟩ := hO_some ho
  have h3 := hR.2 a h1
  rw [h2] at h3
  obtain ⟨r', hr', cell, g1, g2, g3, -⟩ := h3
  exact ⟨cell, g1, by rw [g3]; rfl, by rw [g2]; exact (hKn.1 ci _ hK.1).2.1⟩
theorem S_callV {lev' n index ci a : Nat} {T : u_T} {N : Nat} {ty : Nat → FieldType} {My : Mt} (avs st : List Value) {α : Type} {call : Option α} {f : α → Option ρ} (fv : α → Option Value × Hp) (hC : KC ci My.1.cls T N ty) (hK : KM My n) (hl : Cond.methodLink M.1.cls index My.1 ∈ Tb) (hin : Cond.instanceMethod My.1 ∈ Tb) (hse : Cond.selects My.1.cls My.1 My.1 ∈ Tb) (hd : decode M.2.1 pc = .ok (.invokevirtual index, 3)) (hlev : lev' + 1 ≤ lev) (hn : avs.length = n) (hroom : (st.map fun v => v.category).sum ≤ 8)
    (hm : ∀ x, call = some x → SR l G lev' My (.ref a :: avs) h (fv x).1 (fv x).2) (kk : ∀ x, call = some x → Sim l G lev M fin (pc + 3) lv ((fv x).1.toList ++ st) (fv x).2 (f x)) : Sim l G lev M fin pc lv (avs.reverse ++ .ref a :: st) h ((hO h ci a).bind fun _ => call.bind f) := by
  intro v hv
  cases ho : hO h ci a with
  | none => rw [ho] at hv; cases hv
  | some fs =>
    rw [ho] at hv
    refine Sim.call (fun x hx => (hm x hx).1) kk (fun {p e R s m args below meth c H locs cells slots ls} x hx C h1 h2 => ⟨((.ref a :: avs).map (sh G)).toArray, ?_⟩) v hv
    have C' := C
    obtain ⟨a1, a2, a3, a4, a5, a6, a7, a8, a9, a10, a11, a12, a13, a14, a15, a16⟩ := C
    have hR := rm_ok (c := (fv x).2.2.1 - h.2.1) (s := (fv x).2.2.2 - h.2.2) a15 a16 hlev hK.2.2.2.1
    exact va_runV (own := M.1.cls) (C := My.1.cls) (b := G.1 + a) (As := avs.map (sh G)) (rest := st.map (sh G)) ⟨a1, a2, a4, a6, a5⟩ (hm x hx).2 ⟨callB_of n a5 (gTb hK.1) rfl rfl rfl (a5 _ hK.2.1) (a5 _ hl) hK.2.2.1 hR, a5 _ hin, a5 _ hse⟩ ⟨PcM.blind, rl_recv hC a10.1 a11 ho, PcM.at (avs := .ref a :: avs) C'⟩ rfl (by rw [List.length_map]; exact hn) a13.1 (by show List.map _ _ = _; rw [List.map_append, List.map_reverse]; rfl) (lv_room (by rw [catsum]; exact hroom)) hd ⟨h1, h2⟩
theorem S_callI {lev' n index a : Nat} {My : Mt} (avs st : List Value) {α : Type} {call : Option α} {f : α → Option ρ} (fv : α → Option Value × Hp) (hK : KM My n) (hret : My.2.2.2.1 = none) (hnm : My.1.name = "<init>") (hl : Cond.methodLink M.1.cls index My.1 ∈ Tb) (hin : Cond.instanceMethod My.1 ∈ Tb) (hd : decode M.2.1 pc = .ok (.invokespecial index, 3)) (hlev : lev' + 1 ≤ lev) (hn : avs.length = n) (hroom : (st.map fun v => v.category).sum ≤ 8)
    (hm : ∀ x, call = some x → SR l G lev' My (.ref a :: avs) h (fv x).1 (fv x).2) (kk : ∀ x, call = some x → Sim l G lev M fin (pc + 3) lv ((fv x).1.toList ++ st) (fv x).2 (f x)) : Sim l G lev M fin pc lv (avs.reverse ++ .ref a :: st) h (call.bind f) := by
  refine Sim.call (fun x hx => (hm x hx).1) kk fun {p e R s m args below meth c H locs cells slots ls} x hx C h1 h2 => ⟨((.ref a :: avs).map (sh G)).toArray, ?_⟩
  have C' := C
  obtain ⟨a1, a2, a3, a4, a5, a6, a7, a8, a9, a10, a11, a12, a13, a14, a15, a16⟩ := C
  have hR := rm_ok (c := (fv x).2.2.1 - h.2.1) (s := (fv x).2.2.2 - h.2.2) a15 a16 hlev hK.2.2.2.1
  have hcode := hK.1
  rw [hret] at hcode
  have hw : wsM My = Cond.code My.1 My.2.1 My.2.2.1 none :: Tb := by unfold wsM; rw [hret]
  exact va_runI (own := M.1.cls) (b := G.1 + a) (As := avs.map (sh G)) (rest := st.map (sh G)) ⟨a1, a2, a4, a6, a5⟩ (hm x hx).2 ⟨callB_of n a5 (gTb hK.1) hw rfl rfl (a5 _ hK.2.1) (a5 _ hl) hK.2.2.1 hR, hnm, a5 _ hin⟩ ⟨PcM.blind, PcM.at (avs := .ref a :: avs) C'⟩ rfl (by rw [List.length_map]; exact hn) a13.1 (by show List.map _ _ = _; rw [List.map_append, List.map_reverse]; rfl) (lv_room (by rw [catsum]; exact hroom)) hd ⟨h1, h2⟩
theorem S_callIN {lev' n index a : Nat} {host : String} {My : Mt} (avs st : List Value) {α : Type} {call : Option α} {f : α → Option ρ} (fv : α → Option Value × Hp) (hK : KM My n) (hret : My.2.2.2.1 = none) (hnm : My.1.name = "<init>") (hl : Cond.methodLinkNest M.1.cls index My.1 host ∈ lw_tbl) (hin : Cond.instanceMethod My.1 ∈ Tb) (hd : decode M.2.1 pc = .ok (.invokespecial index, 3)) (hlev : lev' + 1 ≤ lev) (hn : avs.length = n) (hroom : (st.map fun v => v.category).sum ≤ 8)
    (hm : ∀ x, call = some x → SR l G lev' My (.ref a :: avs) h (fv x).1 (fv x).2) (kk : ∀ x, call = some x → Sim l G lev M fin (pc + 3) lv ((fv x).1.toList ++ st) (fv x).2 (f x)) : Sim l G lev M fin pc lv (avs.reverse ++ .ref a :: st) h (call.bind f) := by
  refine Sim.call (fun x hx => (hm x hx).1) kk fun {p e R s m args below meth c H locs cells slots ls} x hx C h1 h2 => ⟨((.ref a :: avs).map (sh G)).toArray, ?_⟩
  have C' := C
  obtain ⟨a1, a2, a3, a4, a5, a6, a7, a8, a9, a10, a11, a12, a13, a14, a15, a16⟩ := C
  have hR := rm_ok (c := (fv x).2.2.1 - h.2.1) (s := (fv x).2.2.2 - h.2.2) a15 a16 hlev hK.2.2.2.1
  have hcode := hK.1
  rw [hret] at hcode
  have hw : wsM My = Cond.code My.1 My.2.1 My.2.2.1 none :: Tb := by unfold wsM; rw [hret]
  exact va_runIN (own := M.1.cls) (b := G.1 + a) (As := avs.map (sh G)) (rest := st.map (sh G)) ⟨a1, a2, a4, a6, a5⟩ (hm x hx).2 ⟨va_cnB n a5 (gTb hK.1) hw rfl rfl (a10.2.2.2.1 _ hl rfl) (a5 _ hK.2.1) hK.2.2.1 hR, hnm, a5 _ hin⟩ ⟨PcM.blind, PcM.at (avs := .ref a :: avs) C'⟩ rfl (by rw [List.length_map]; exact hn) a13.1 (by show List.map _ _ = _; rw [List.map_append, List.map_reverse]; rfl) (lv_room (by rw [catsum]; exact hroom)) hd ⟨h1, h2⟩
end CALL
