/-! reads and writes of the abstract heap, and their rows -/
def hset (h : Hp) (a : Nat) (c : Ac) : Hp := (fun x => if x = a then c else h.1 x, h.2)
def hpush (h : Hp) (c : Ac) (n : Nat) : Hp := (fun x => if x = h.2.1 then c else h.1 x, h.2.1 + 1, h.2.2 + n)
def hO (h : Hp) (ci a : Nat) : Option (List Value) := if a < h.2.1 then (match h.1 a with
  | .inr o => if o.1 = ci then some o.2 else none
  | .inl _ => none) else none
def hA (h : Hp) (t a : Nat) : Option vp_A := if a < h.2.1 then (match h.1 a with
  | .inl o => if o.1 = t then some o.2 else none
  | .inr _ => none) else none
def asI : Value → Option Int32
  | .int x => some x
  | _ => none
def asR : Value → Option Nat
  | .ref a => some a
  | _ => none
def asN : Value → Option (Option Nat)
  | .null => some none
  | .ref a => some (some a)
  | _ => none
def gV (h : Hp) (ci a k : Nat) : Option Value := (hO h ci a).bind (fun fs => fs[k]?)
def gI (h : Hp) (ci a k : Nat) : Option Int32 := (gV h ci a k).bind asI
def gR (h : Hp) (ci a k : Nat) : Option Nat := (gV h ci a k).bind asR
def gN (h : Hp) (ci a k : Nat) : Option (Option Nat) := (gV h ci a k).bind asN
def pV (h : Hp) (ci a k : Nat) (v : Value) : Option Hp := (hO h ci a).bind fun fs => if k < fs.length then some (hset h a (.inr (ci, fs.set k v))) else none
def aN (h : Hp) (t a : Nat) : Option Int32 := (hA h t a).map fun x => Int32.ofNat x.1
def aI (h : Hp) (t a : Nat) (i : Int32) : Option Int32 := (hA h t a).bind fun x => match x.2 with
  | .inl f => if i < 0 ∨ x.1 ≤ i.toNatClampNeg then none else some (f i.toNatClampNeg)
  | _ => none
def aL (h : Hp) (t a : Nat) (i : Int32) : Option Int64 := (hA h t a).bind fun x => match x.2 with
  | .inr (.inl f) => if i < 0 ∨ x.1 ≤ i.toNatClampNeg then none else some (f i.toNatClampNeg)
  | _ => none
def aQ (h : Hp) (t a : Nat) (i : Int32) : Option (Option Nat) := (hA h t a).bind fun x => match x.2 with
  | .inr (.inr (.inr (.inr f))) => if i < 0 ∨ x.1 ≤ i.toNatClampNeg then none else some (f i.toNatClampNeg)
  | _ => none
/-- what an array of the kind t keeps of an int -/
def nar (t : Nat) (x : Int32) : Int32 := match t with
  | 2 => x.toInt8.toInt32
  | 3 => x &&& 1
  | _ => x
def sI (h : Hp) (t a : Nat) (i x : Int32) : Option Hp := (hA h t a).bind fun y => match y.2 with
  | .inl f => if i < 0 ∨ y.1 ≤ i.toNatClampNeg then none else some (hset h a (.inl (t, y.1, .inl (upd f i.toNatClampNeg (nar t x)))))
  | _ => none
def sL (h : Hp) (t a : Nat) (i : Int32) (x : Int64) : Option Hp := (hA h t a).bind fun y => match y.2 with
  | .inr (.inl f) => if i < 0 ∨ y.1 ≤ i.toNatClampNeg then none else some (hset h a (.inl (t, y.1, .inr (.inl (vp_updL f i.toNatClampNeg x)))))
  | _ => none
def sQ (h : Hp) (t a : Nat) (i : Int32) (x : Nat) : Option Hp := (hA h t a).bind fun y => match y.2 with
  | .inr (.inr (.inr (.inr f))) => if i < 0 ∨ y.1 ≤ i.toNatClampNeg then none else (hO h 0 x).map fun _ => hset h a (.inl (t, y.1, .inr (.inr (.inr (.inr (va_up f i.toNatClampNeg (some x)))))))
  | _ => none
theorem hO_some {h : Hp} {ci a : Nat} {fs : List Value} (e : hO h ci a = some fs) : a < h.2.1 ∧ h.1 a = .inr (ci, fs) := by
  unfold hO at e
  split at e
  next hl =>
    split at e
    next o ho =>
      split at e
      next hc =>
        obtain ⟨o1, o2⟩ := o
        cases e
        exact ⟨hl, by rw [ho]; cases hc; rfl⟩
      next => cases e
    next => cases e
  next => cases e
theorem hA_some {h : Hp} {t a : Nat} {x : vp_A} (e : hA h t a = some x) : a < h.2.1 ∧ h.1 a = .inl (t, x) := by
  unfold hA at e
  split at e
  next hl =>
    split at e
    next o ho =>
      split at e
      next hc =>
        obtain ⟨o1, o2⟩ := o
        cases e
        exact ⟨hl, by rw [ho]; cases hc; rfl⟩
      next => cases e
    next => cases e
  next => cases e
theorem gV_some {h : Hp} {ci a k : Nat} {v : Value} (e : gV h ci a k = some v) : ∃ fs, hO h ci a = some fs ∧ fs[k]? = some v := by
  unfold gV at e
  cases ho : hO h ci a with
  | none => rw [ho] at e; cases e
  | some fs => rw [ho] at e; exact ⟨fs, rfl, e⟩
theorem gI_some {h : Hp} {ci a k : Nat} {v : Int32} (e : gI h ci a k = some v) : gV h ci a k = some (.int v) := by
  unfold gI at e
  cases ho : gV h ci a k with
  | none => rw [ho] at e; cases e
  | some x => rw [ho] at e; cases x <;> cases e; rfl
theorem gR_some {h : Hp} {ci a k : Nat} {v : Nat} (e : gR h ci a k = some v) : gV h ci a k = some (.ref v) := by
  unfold gR at e
  cases ho : gV h ci a k with
  | none => rw [ho] at e; cases e
  | some x => rw [ho] at e; cases x <;> cases e; rfl
theorem gN_some {h : Hp} {ci a k : Nat} {v : Option Nat} (e : gN h ci a k = some v) : gV h ci a k = some (va_rf v) := by
  unfold gN at e
  cases ho : gV h ci a k with
  | none => rw [ho] at e; cases e
  | some x => rw [ho] at e; cases x <;> cases e <;> rfl
/-- a class of the world: its place, its words, its fields' types -/
def KC (ci : Nat) (C : String) (T : u_T) (N : Nat) (ty : Nat → FieldType) : Prop := cls_[ci]? = some (C, T, N) ∧ (∀ w ∈ u_ws C T N, w ∈ Tb) ∧ (∀ k, k < N → parseFieldDescriptor (T k).2.2.1 = some (ty k)) ∧ (∀ a, a < N → ∀ b, b < N → a ≠ b → (T a).2.1 ≠ (T b).2.1) ∧ (∀ k, k < N → (T k).1 = C)
section HEAP
variable {l : Launch} {G : Gx} {lev : Nat} {M : Mt} {ρ : Type} {fin : ρ → Oc × Hp} {pc : Nat} {lv : List (Nat × Value)} {st : List Value} {h : Hp} {r : Option ρ}
theorem Rl.set {H H1 : Heap} {a : Nat} {c : Ac} (hR : Rl G h H) (hat : va_at G.2.1 cls_ (G.1 + a, she G c) H1) (hz : H1.size = H.size) (hq : ∀ q : Nat, q ≠ G.1 + a → H1[q]? = H[q]?) : Rl G (hset h a c) H1 := by
  refine ⟨hz.trans hR.1, fun k hk => ?_⟩
  show va_at G.2.1 cls_ (G.1 + k, she G (if k = a then c else h.1 k)) H1
  by_cases e : k = a
  · rw [if_pos e, e]; exact hat
  · rw [if_neg e]
    exact (hR.2 k hk).kept (hq _ (by show G.1 + k ≠ G.1 + a; omega))
theorem Rl.push {H H1 : Heap} {c : Ac} {n : Nat} (hR : Rl G h H) (hat : va_at G.2.1 cls_ (H.size, she G c) H1) (hz : H1.size = H.size + 1) (hq : ∀ q : Nat, q < H.size → H1[q]? = H[q]?) : Rl G (hpush h c n) H1 := by
  have h1 := hR.1
  refine ⟨?_, fun k hk => ?_⟩
  · show H1.size = G.1 + (h.2.1 + 1); omega
  · show va_at G.2.1 cls_ (G.1 + k, she G (if k = h.2.1 then c else h.1 k)) H1
    have hk' : k < h.2.1 + 1 := hk
    by_cases e : k = h.2.1
    · rw [if_pos e, e, ← h1]; exact hat
    · rw [if_neg e]
      exact (hR.2 k (by omega)).kept (hq _ (by show G.1 + k < H.size; omega))
theorem Rl.one {H : Heap} {a : Nat} (hR : Rl G h H) (ha : a < h.2.1) : va_P G.2.1 cls_ [(G.1 + a, she G (h.1 a))] H := by
  intro k q hk
  have hz : k < 1 := (List.getElem?_eq_some_iff.mp hk).1
  rw [show k = 0 by omega] at hk
  cases hk
  exact hR.2 a ha
/-- a step that reads: the model's read gives the value -/
theorem Sim.rd {α : Type} {rd : Option α} {f : α → Option ρ} {pc' : Nat} {st' : α → List Value} (k : ∀ x, rd = some x → Sim l G lev M fin pc' lv (st' x) h (f x))
    (hw : ∀ {p : Program} {e : Env} {R : Room} {s : State} {m : MethodId} {args : Array Value} {below : List Frame} {meth : Method} {c : Code} {H : Heap} {locs : List Loc} {cells slots : Nat} {ls : Array Slot} {Q : State → Prop} (x : α), rd = some x →
      Cx l G lev M lv h p R s m args meth c H locs ls → W p l e R s m args below meth c H locs cells slots Q (F0 m pc' ls ((st' x).map (sh G))) → W p l e R s m args below meth c H locs cells slots Q (F0 m pc ls (st.map (sh G)))) :
    Sim l G lev M fin pc lv st h (rd.bind f) := by
  intro v hv
  cases hx : rd with
  | none => rw [hx] at hv; cases hv
  | some x =>
    rw [hx] at hv
    exact ⟨(k x hx v hv).1, fun p e R s m args below meth c H locs cells slots ls C h1 h2 => hw x hx C ((k x hx v hv).2 p e R s m args below meth c H locs cells slots ls C h1 h2)⟩
/-- a step that writes -/
theorem Sim.wr {wr : Option Hp} {f : Hp → Option ρ} {pc' : Nat} {st' : List Value} (hz : ∀ h', wr = some h' → h'.2 = h.2) (k : ∀ h', wr = some h' → Sim l G lev M fin pc' lv st' h' (f h'))
    (hw : ∀ {p : Program} {e : Env} {R : Room} {s : State} {m : MethodId} {args : Array Value} {below : List Frame} {meth : Method} {c : Code} {H : Heap} {locs : List Loc} {cells slots : Nat} {ls : Array Slot} {Q : State → Prop} (h' : Hp), wr = some h' →
      Cx l G lev M lv h p R s m args meth c H locs ls → (∀ (H1 : Heap) (locs1 : List Loc), Rl G h' H1 → va_S (fun q => G.1 ≤ q) s.heap H1 locs1 → W p l e R s m args below meth c H1 locs1 cells slots Q (F0 m pc' ls (st'.map (sh G)))) → W p l e R s m args below meth c H locs cells slots Q (F0 m pc ls (st.map (sh G)))) :
    Sim l G lev M fin pc lv st h (wr.bind f) := by
  intro v hv
  cases hx : wr with
  | none => rw [hx] at hv; cases hv
  | some h' =>
    rw [hx] at hv
    have e := hz h' hx
    obtain ⟨k1, k2⟩ := k h' hx v hv
    rw [e] at k1
    refine ⟨k1, fun p e9 R s m args below meth c H locs cells slots ls C h1 h2 => hw h' hx C fun H1 locs1 q1 q2 => ?_⟩
    obtain ⟨a1, a2, a3, a4, a5, a6, a7, a8, a9, a10, a11, a12, a13, a14, a15, a16⟩ := C
    exact k2 p e9 R s m args below meth c H1 locs1 cells slots ls ⟨a1, a2, a3, a4, a5, a6, a7, a8, a9, a10, q1, q2, a13, a14, a15, a16⟩ (by rw [e]; exact h1) (by rw [e]; exact h2)
theorem S_getV {ci a k index : Nat} {C : String} {T : u_T} {N : Nat} {ty : Nat → FieldType} (hK : KC ci C T N ty) {α : Type} {rd : Option α} {val : α → Value} {f : α → Option ρ} (hrd : ∀ x, rd = some x → gV h ci a k = some (val x)) (hk : k < N)
    (hl : Cond.fieldLink M.1.cls index C (T k).2.1 (T k).2.2.1 ∈ Tb) (hd : decode M.2.1 pc = .ok (.getfield index, 3)) (kk : ∀ x, rd = some x → Sim l G lev M fin (pc + 3) lv (val x :: st) h (f x)) :
    Sim l G lev M fin pc lv (.ref a :: st) h (rd.bind f) := by
  refine Sim.rd kk fun x hx C w => ?_
  obtain ⟨fs, ho, hf⟩ := gV_some (hrd x hx)
  obtain ⟨hlt, hc⟩ := hO_some ho
  obtain ⟨a1, a2, a3, a4, a5, a6, a7, a8, a9, a10, a11, a12, a13, a14, a15, a16⟩ := C
  refine va_get (fs := fs.map (sh G)) a1 a2 a5 hK.2.1 a6 a10.1 (a11.one hlt) 0 (by rw [hc]; rfl) hK.1 k hk (a5 _ hl) (by rw [hK.2.2.2.2 k hk]; exact fun _ h9 => h9) (v := sh G (val x)) (by rw [List.getElem?_map, hf]; rfl) hd w
theorem S_getI {ci a k index : Nat} {C : String} {T : u_T} {N : Nat} {ty : Nat → FieldType} (hK : KC ci C T N ty) {f : Int32 → Option ρ} (hk : k < N) (hl : Cond.fieldLink M.1.cls index C (T k).2.1 (T k).2.2.1 ∈ Tb) (hd : decode M.2.1 pc = .ok (.getfield index, 3))
    (kk : ∀ x, gI h ci a k = some x → Sim l G lev M fin (pc + 3) lv (.int x :: st) h (f x)) : Sim l G lev M fin pc lv (.ref a :: st) h ((gI h ci a k).bind f) := S_getV hK (val := fun x => .int x) (fun x hx => gI_some hx) hk hl hd kk
theorem S_getR {ci a k index : Nat} {C : String} {T : u_T} {N : Nat} {ty : Nat → FieldType} (hK : KC ci C T N ty) {f : Nat → Option ρ} (hk : k < N) (hl : Cond.fieldLink M.1.cls index C (T k).2.1 (T k).2.2.1 ∈ Tb) (hd : decode M.2.1 pc = .ok (.getfield index, 3))
    (kk : ∀ x, gR h ci a k = some x → Sim l G lev M fin (pc + 3) lv (.ref x :: st) h (f x)) : Sim l G lev M fin pc lv (.ref a :: st) h ((gR h ci a k).bind f) := S_getV hK (val := fun x => .ref x) (fun x hx => gR_some hx) hk hl hd kk
theorem S_getN {ci a k index : Nat} {C : String} {T : u_T} {N : Nat} {ty : Nat → FieldType} (hK : KC ci C T N ty) {f : Option Nat → Option ρ} (hk : k < N) (hl : Cond.fieldLink M.1.cls index C (T k).2.1 (T k).2.2.1 ∈ Tb) (hd : decode M.2.1 pc = .ok (.getfield index, 3))
    (kk : ∀ x, gN h ci a k = some x → Sim l G lev M fin (pc + 3) lv (va_rf x :: st) h (f x)) : Sim l G lev M fin pc lv (.ref a :: st) h ((gN h ci a k).bind f) := S_getV hK (val := fun x => va_rf x) (fun x hx => gN_some hx) hk hl hd kk
theorem pV_some {ci a k : Nat} {v : Value} {h' : Hp} (e : pV h ci a k v = some h') : ∃ fs, a < h.2.1 ∧ h.1 a = .inr (ci, fs) ∧ k < fs.length ∧ h' = hset h a (.inr (ci, fs.set k v)) := by
  unfold pV at e
  cases ho : hO h ci a with
  | none => rw [ho] at e; cases e
  | some fs =>
    rw [ho, Option.bind_some] at e
    split at e
    next hk => cases e; exact ⟨fs, (hO_some ho).1, (hO_some ho).2, hk, rfl⟩
    next => cases e
theorem rl_put {s : State} {args : Array Value} {ci a k : Nat} {C : String} {T : u_T} {N : Nat} {ty : Nat → FieldType} (hK : KC ci C T N ty) (hk : k < N) (hts : ∀ w ∈ Tb, w.before args s = true) (hKn : va_K G.2.1 cls_ (tys_ G) s) {H : Heap} (hR : Rl G h H) {fs : List Value} (hlt : a < h.2.1) (hc : h.1 a = .inr (ci, fs)) :
    ∃ (cell : Cell) (cf fi : Nat) (kf : Class) (fd : Field) (kC : Class), H[G.1 + a]? = some cell ∧ cell.vm = .none ∧ cell.cls = G.2.1.1 ci ∧ s.vm.findClass C = some (G.2.1.1 ci) ∧ s.vm.classes[G.2.1.1 ci]? = some kC ∧ kC.kind = .ordinary ∧ s.fieldFound? (T k).1 (T k).2.1 (T k).2.2.1 = some (cf, kf, fi, fd) ∧ fd.isStatic = false ∧ fd.slot < cell.slots.size ∧
      ((Cond.lays C (T k).1 (T k).2.1 (T k).2.2.1).before args s = true ∨ (Cond.laysFinal C (T k).1 (T k).2.1 (T k).2.2.1).before args s = true) ∧
      ∀ (v : Value) (H1 : Heap), k < fs.length → H1[G.1 + a]? = some (cell.setSlot fd.slot (sh G v)) → H1.size = H.size → (∀ q : Nat, q ≠ G.1 + a → H1[q]? = H[q]?) → Rl G (hset h a (.inr (ci, fs.set k v))) H1 := by
  have hap := va_apart (own := C) hts hK.2.1 ty hK.2.2.1 hK.2.2.2.1 hKn hK.1
  have hat := hR.2 a hlt
  rw [hc] at hat
  obtain ⟨r, h1, cell, q1, q2, q3, q4⟩ := hat
  have hr : r = (C, T, N) := Option.some.inj (h1.symm.trans hK.1)
  subst hr
  obtain ⟨hS, hfc, kC, hkC, hkind⟩ := hKn.1 ci _ hK.1
  obtain ⟨cf, kf, fi, f, hi, hsl⟩ := hS k hk
  refine ⟨cell, cf, fi, kf, f, kC, q1, q3, q2, hfc, hkC, hkind, hi, (u_facts hfc hkC (u_lays hts hK.2.1 hk) hi).1, by rw [hsl]; exact k2_hasslot (q4 k hk), u_lays hts hK.2.1 hk, fun v H1 hl e1 e2 e3 => ?_⟩
  rw [hsl] at e1
  refine hR.set ?_ e2 e3
  refine ⟨_, hK.1, ?_⟩
  have hl' : k < (fs.map (sh G)).length := by rw [List.length_map]; exact hl
  have e9 : (fs.set k v).map (sh G) = (fs.map (sh G)).set k (sh G v) := List.map_set
  show t_OB (G.1 + a) _ _ _ H1 (vp_V ((fs.set k v).map (sh G)))
  rw [e9]
  exact t_OB.to (V := updV (vp_V (fs.map (sh G))) k (sh G v)) ⟨_, e1, q2, q3, t_set q4 hap hk (sh G v)⟩ (fun j _ => vp_updV_set hl' (sh G v) j)
theorem S_put {ci a k index : Nat} {C : String} {T : u_T} {N : Nat} {ty : Nat → FieldType} (hK : KC ci C T N ty) {v : Value} {f : Hp → Option ρ} (hk : k < N) (hfin : (T k).2.2.2 = false)
    (hl : Cond.fieldLink M.1.cls index C (T k).2.1 (T k).2.2.1 ∈ Tb) (hn : narrow (ty k) (sh G v) = sh G v) (hfit : fits (ty k) (sh G v) = true) (hd : decode M.2.1 pc = .ok (.putfield index, 3)) (kk : ∀ h', pV h ci a k v = some h' → Sim l G lev M fin (pc + 3) lv st h' (f h')) :
    Sim l G lev M fin pc lv (v :: .ref a :: st) h ((pV h ci a k v).bind f) := by
  refine Sim.wr (fun h' e => by obtain ⟨fs, -, -, -, e4⟩ := pV_some e; rw [e4]; rfl) kk fun h' hx C w => ?_
  obtain ⟨fs, hlt, hc, hlen, e4⟩ := pV_some hx
  obtain ⟨a1, a2, a3, a4, a5, a6, a7, a8, a9, a10, a11, a12, a13, a14, a15, a16⟩ := C
  obtain ⟨cell, cf, fi, kf, fd, kC, g1, g2, g3, g4, g5, g6, g7, g8, g9, g10, g11⟩ := rl_put hK hk a5 a10.1 a11 hlt hc
  have hlay := a5 _ (hK.2.1 _ (u_in_lay hk))
  unfold u_lay at hlay
  rw [if_neg (by rw [hfin]; decide)] at hlay
  have h6 := u_store (v := sh G v) g4 g5 g6 hlay g7 (hK.2.2.1 k hk) hn hfit
  refine W.putK a1 a2 (f := fd) ⟨a6, a5 _ hl, ⟨cf, kf, fi, by rw [← hK.2.2.2.2 k hk]; exact g7⟩, g8⟩ (by rw [g3]; exact h6) g1 g2 g9 rfl rfl hd fun H' e1 e2 e3 => ?_
  rw [e4] at w
  exact w H' _ (g11 v H' hlen e1 e2 e3) (a12.put e2 e3 (Nat.le_add_right _ _))
theorem S_putF {ci a k index : Nat} {C : String} {T : u_T} {N : Nat} {ty : Nat → FieldType} (hK : KC ci C T N ty) {v : Value} {f : Hp → Option ρ} (hk : k < N) (hfin : (T k).2.2.2 = true) (hown : M.1.cls = C) (hini : M.1.name = "<init>")
    (hl : Cond.fieldLink M.1.cls index C (T k).2.1 (T k).2.2.1 ∈ Tb) (hn : narrow (ty k) (sh G v) = sh G v) (hfit : fits (ty k) (sh G v) = true) (hd : decode M.2.1 pc = .ok (.putfield index, 3)) (kk : ∀ h', pV h ci a k v = some h' → Sim l G lev M fin (pc + 3) lv st h' (f h')) :
    Sim l G lev M fin pc lv (v :: .ref a :: st) h ((pV h ci a k v).bind f) := by
  refine Sim.wr (fun h' e => by obtain ⟨fs, -, -, -, e4⟩ := pV_some e; rw [e4]; rfl) kk fun h' hx C9 w => ?_
  obtain ⟨fs, hlt, hc, hlen, e4⟩ := pV_some hx
  obtain ⟨a1, a2, a3, a4, a5, a6, a7, a8, a9, a10, a11, a12, a13, a14, a15, a16⟩ := C9
  obtain ⟨cell, cf, fi, kf, fd, kC, g1, g2, g3, g4, g5, g6, g7, g8, g9, g10, g11⟩ := rl_put hK hk a5 a10.1 a11 hlt hc
  have hlay := a5 _ (hK.2.1 _ (u_in_lay hk))
  unfold u_lay at hlay
  rw [if_pos hfin] at hlay
  have h6 := u_fits (v := sh G v) g4 g5 g6 (Or.inr hlay) g7 (hK.2.2.1 k hk) hn hfit
  refine W.putFinK a1 a2 a6 (a5 _ hl) (by rw [← hK.2.2.2.2 k hk]; exact g7) g8 (by
    obtain ⟨_, _, c', _, _, _, -, -, hf', -, -, -, hown2, -⟩ := Cond.laysFinal_spec hlay
    have e1 : c' = cf := by have := g7.symm.trans hf'; simp at this; exact this.1.symm
    rw [hK.2.2.2.2 k hk, ← hown] at hown2
    rw [← e1]; exact Option.some.inj (a6.symm.trans hown2)) (a8.trans hini) (by rw [g3]; exact h6) g1 g2 g9 rfl rfl hd fun H' e1 e2 e3 => ?_
  rw [e4] at w
  exact w H' _ (g11 v H' hlen e1 e2 e3) (a12.put e2 e3 (Nat.le_add_right _ _))
theorem hA_cell {t a : Nat} {x : vp_A} {H : Heap} (hR : Rl G h H) (e : hA h t a = some x) : H[G.1 + a]? = some (vp_cell (G.2.2.1 t) (shA G x)) := by
  obtain ⟨h1, h2⟩ := hA_some e
  have h3 := hR.2 a h1
  rw [h2] at h3
  exact h3
theorem S_alen {t a : Nat} {ty : FieldType} {f : Int32 → Option ρ} (ht : (tys_ G)[t]? = some (G.2.2.1 t, ty)) (hd : decode M.2.1 pc = .ok (.arraylength, 1)) (kk : ∀ x, aN h t a = some x → Sim l G lev M fin (pc + 1) lv (.int x :: st) h (f x)) : Sim l G lev M fin pc lv (.ref a :: st) h ((aN h t a).bind f) := by
  refine Sim.rd kk fun x hx C w => ?_
  unfold aN at hx
  cases ho : hA h t a with
  | none => rw [ho] at hx; cases hx
  | some y =>
    rw [ho] at hx
    cases hx
    obtain ⟨h1, h2⟩ := hA_some ho
    obtain ⟨a1, a2, a3, a4, a5, a6, a7, a8, a9, a10, a11, a12, a13, a14, a15, a16⟩ := C
    refine va_alen (x := shA G y) a1 a2 a10.1 (a11.one h1) 0 t (by rw [h2]; rfl) ht (v := Int32.ofNat y.1) ?_ hd w
    obtain ⟨n, f | f | f | f | f⟩ := y <;> rfl
theorem nin {i : Int32} {n : Nat} (h : ¬ (i < 0 ∨ n ≤ i.toNatClampNeg)) : vp_in i n := h
theorem aI_some {t a : Nat} {i x : Int32} (e : aI h t a i = some x) : ∃ n f, hA h t a = some (n, .inl f) ∧ vp_in i n ∧ x = f i.toNatClampNeg := by
  unfold aI at e
  cases ho : hA h t a with
  | none => rw [ho] at e; cases e
  | some y =>
    rw [ho] at e
    obtain ⟨n, f | f | f | f | f⟩ := y
    · simp only [Option.bind_some] at e
      split at e
      next => cases e
      next hh => cases e; exact ⟨n, f, rfl, hh, rfl⟩
    all_goals cases e
theorem aL_some {t a : Nat} {i : Int32} {x : Int64} (e : aL h t a i = some x) : ∃ n f, hA h t a = some (n, .inr (.inl f)) ∧ vp_in i n ∧ x = f i.toNatClampNeg := by
  unfold aL at e
  cases ho : hA h t a with
  | none => rw [ho] at e; cases e
  | some y =>
    rw [ho] at e
    obtain ⟨n, f | f | f | f | f⟩ := y
    case inr.inl =>
      simp only [Option.bind_some] at e
      split at e
      next => cases e
      next hh => cases e; exact ⟨n, f, rfl, hh, rfl⟩
    all_goals cases e
theorem aQ_some {t a : Nat} {i : Int32} {x : Option Nat} (e : aQ h t a i = some x) : ∃ n f, hA h t a = some (n, .inr (.inr (.inr (.inr f)))) ∧ vp_in i n ∧ x = f i.toNatClampNeg := by
  unfold aQ at e
  cases ho : hA h t a with
  | none => rw [ho] at e; cases e
  | some y =>
    rw [ho] at e
    obtain ⟨n, f | f | f | f | f⟩ := y
    case inr.inr.inr.inr =>
      simp only [Option.bind_some] at e
      split at e
      next => cases e
      next hh => cases e; exact ⟨n, f, rfl, hh, rfl⟩
    all_goals cases e
theorem S_iaload {a : Nat} {i : Int32} {f : Int32 → Option ρ} (hd : decode M.2.1 pc = .ok (.iaload, 1)) (kk : ∀ x, aI h 0 a i = some x → Sim l G lev M fin (pc + 1) lv (.int x :: st) h (f x)) : Sim l G lev M fin pc lv (.int i :: .ref a :: st) h ((aI h 0 a i).bind f) := by
  refine Sim.rd kk fun x hx C w => ?_
  obtain ⟨n, g, ho, hin, rfl⟩ := aI_some hx
  obtain ⟨h1, h2⟩ := hA_some ho
  exact va_iald (f := g) C.1 C.2.1 C.2.2.2.2.2.2.2.2.2.1.1 (C.2.2.2.2.2.2.2.2.2.2.1.one h1) 0 0 (by rw [h2]; rfl) rfl hin hd w
theorem S_baload {a : Nat} {i : Int32} {f : Int32 → Option ρ} (hd : decode M.2.1 pc = .ok (.baload, 1)) (kk : ∀ x, aI h 2 a i = some x → Sim l G lev M fin (pc + 1) lv (.int x :: st) h (f x)) : Sim l G lev M fin pc lv (.int i :: .ref a :: st) h ((aI h 2 a i).bind f) := by
  refine Sim.rd kk fun x hx C w => ?_
  obtain ⟨n, g, ho, hin, rfl⟩ := aI_some hx
  obtain ⟨h1, h2⟩ := hA_some ho
  exact va_bald (f := g) C.1 C.2.1 C.2.2.2.2.2.2.2.2.2.1.1 (C.2.2.2.2.2.2.2.2.2.2.1.one h1) 0 2 (by rw [h2]; rfl) rfl hin hd w
theorem S_zaload {a : Nat} {i : Int32} {f : Int32 → Option ρ} (hd : decode M.2.1 pc = .ok (.baload, 1)) (kk : ∀ x, aI h 3 a i = some x → Sim l G lev M fin (pc + 1) lv (.int x :: st) h (f x)) : Sim l G lev M fin pc lv (.int i :: .ref a :: st) h ((aI h 3 a i).bind f) := by
  refine Sim.rd kk fun x hx C w => ?_
  obtain ⟨n, g, ho, hin, rfl⟩ := aI_some hx
  obtain ⟨h1, h2⟩ := hA_some ho
  exact va_zald (f := g) C.1 C.2.1 C.2.2.2.2.2.2.2.2.2.1.1 (C.2.2.2.2.2.2.2.2.2.2.1.one h1) 0 3 (by rw [h2]; rfl) rfl hin hd w
theorem S_laload {a : Nat} {i : Int32} {f : Int64 → Option ρ} (hd : decode M.2.1 pc = .ok (.laload, 1)) (kk : ∀ x, aL h 1 a i = some x → Sim l G lev M fin (pc + 1) lv (.long x :: st) h (f x)) : Sim l G lev M fin pc lv (.int i :: .ref a :: st) h ((aL h 1 a i).bind f) := by
  refine Sim.rd kk fun x hx C w => ?_
  obtain ⟨n, g, ho, hin, rfl⟩ := aL_some hx
  obtain ⟨h1, h2⟩ := hA_some ho
  exact va_lald (f := g) C.1 C.2.1 C.2.2.2.2.2.2.2.2.2.1.1 (C.2.2.2.2.2.2.2.2.2.2.1.one h1) 0 1 (by rw [h2]; rfl) rfl hin hd w
theorem sh_rf (q : Option Nat) : sh G (va_rf q) = va_rf (q.map (fun k => G.1 + k)) := by cases q <;> rfl
theorem S_aaload {a : Nat} {i : Int32} {f : Option Nat → Option ρ} (hd : decode M.2.1 pc = .ok (.aaload, 1)) (kk : ∀ x, aQ h 4 a i = some x → Sim l G lev M fin (pc + 1) lv (va_rf x :: st) h (f x)) : Sim l G lev M fin pc lv (.int i :: .ref a :: st) h ((aQ h 4 a i).bind f) := by
  refine Sim.rd kk fun x hx C w => ?_
  obtain ⟨n, g, ho, hin, rfl⟩ := aQ_some hx
  obtain ⟨h1, h2⟩ := hA_some ho
  rw [List.map_cons, sh_rf] at w
  exact va_aldq (f := fun j => (g j).map (fun k => G.1 + k)) C.1 C.2.1 C.2.2.2.2.2.2.2.2.2.1.1 (C.2.2.2.2.2.2.2.2.2.2.1.one h1) 0 4 (by rw [h2]; rfl) rfl hin hd w
theorem sI_some {t a : Nat} {i x : Int32} {h' : Hp} (e : sI h t a i x = some h') : ∃ n f, hA h t a = some (n, .inl f) ∧ vp_in i n ∧ h' = hset h a (.inl (t, n, .inl (upd f i.toNatClampNeg (nar t x)))) := by
  unfold sI at e
  cases ho : hA h t a with
  | none => rw [ho] at e; cases e
  | some y =>
    rw [ho] at e
    obtain ⟨n, f | f | f | f | f⟩ := y
    · simp only [Option.bind_some] at e
      split at e
      next => cases e
      next hh => cases e; exact ⟨n, f, rfl, hh, rfl⟩
    all_goals cases e
theorem sL_some {t a : Nat} {i : Int32} {x : Int64} {h' : Hp} (e : sL h t a i x = some h') : ∃ n f, hA h t a = some (n, .inr (.inl f)) ∧ vp_in i n ∧ h' = hset h a (.inl (t, n, .inr (.inl (vp_updL f i.toNatClampNeg x)))) := by
  unfold sL at e
  cases ho : hA h t a with
  | none => rw [ho] at e; cases e
  | some y =>
    rw [ho] at e
    obtain ⟨n, f | f | f | f | f⟩ := y
    case inr.inl =>
      simp only [Option.bind_some] at e
      split at e
      next => cases e
      next hh => cases e; exact ⟨n, f, rfl, hh, rfl⟩
    all_goals cases e
theorem sQ_some {t a : Nat} {i : Int32} {x : Nat} {h' : Hp} (e : sQ h t a i x = some h') : ∃ n f fs, hA h t a = some (n, .inr (.inr (.inr (.inr f)))) ∧ hO h 0 x = some fs ∧ vp_in i n ∧ h' = hset h a (.inl (t, n, .inr (.inr (.inr (.inr (va_up f i.toNatClampNeg (some x))))))) := by
  unfold sQ at e
  cases ho : hA h t a with
  | none => rw [ho] at e; cases e
  | some y =>
    rw [ho] at e
    obtain ⟨n, f | f | f | f | f⟩ := y
    case inr.inr.inr.inr =>
      simp only [Option.bind_some] at e
      split at e
      next => cases e
      next hh =>
        cases hx : hO h 0 x with
        | none => rw [hx] at e; cases e
        | some fs => rw [hx] at e; cases e; exact ⟨n, f, fs, rfl, rfl, hh, rfl⟩
    all_goals cases e
theorem vin {G : Gx} {a n : Nat} {i : Int32} (cA : ClassId) (f : Nat → Value) (hin : vp_in i n) : ¬ (i < 0 ∨ (arrV cA n f).slots.size ≤ i.toNatClampNeg) := by rw [arrV_size]; exact hin
theorem S_iastore {a : Nat} {i x : Int32} {f : Hp → Option ρ} (hd : decode M.2.1 pc = .ok (.iastore, 1)) (kk : ∀ h', sI h 0 a i x = some h' → Sim l G lev M fin (pc + 1) lv st h' (f h')) : Sim l G lev M fin pc lv (.int x :: .int i :: .ref a :: st) h ((sI h 0 a i x).bind f) := by
  refine Sim.wr (fun h' e => by obtain ⟨n, g, -, -, e4⟩ := sI_some e; rw [e4]; rfl) kk fun h' hx C w => ?_
  obtain ⟨n, g, ho, hin, rfl⟩ := sI_some hx
  obtain ⟨a1, a2, a3, a4, a5, a6, a7, a8, a9, a10, a11, a12, a13, a14, a15, a16⟩ := C
  refine W.iast a1 a2 (hA_cell a11 ho) ((a10.1.2 0 _ rfl).1 n (fun j => .int (g j))) (fun q => by cases q) (vin (G := G) (a := a) _ _ hin) rfl rfl hd fun H1 e z oq => ?_
  refine w H1 _ (a11.set ?_ z oq) (a12.put z oq (Nat.le_add_right _ _))
  show H1[_]? = some (arrV _ n (fun j => .int (upd g i.toNatClampNeg x j)))
  rw [e]
  show some ((arrV _ n (fun j => .int (g j))).setSlot _ _) = _
  rw [arrV_store]
  congr 2
  funext q
  by_cases hq : q = i.toNatClampNeg
  · subst hq; simp [updV, upd]
  · simp [updV, upd, hq]
theorem S_bastore {a : Nat} {i x : Int32} {f : Hp → Option ρ} (hd : decode M.2.1 pc = .ok (.bastore, 1)) (kk : ∀ h', sI h 2 a i x = some h' → Sim l G lev M fin (pc + 1) lv st h' (f h')) : Sim l G lev M fin pc lv (.int x :: .int i :: .ref a :: st) h ((sI h 2 a i x).bind f) := by
  refine Sim.wr (fun h' e => by obtain ⟨n, g, -, -, e4⟩ := sI_some e; rw [e4]; rfl) kk fun h' hx C w => ?_
  obtain ⟨n, g, ho, hin, rfl⟩ := sI_some hx
  obtain ⟨a1, a2, a3, a4, a5, a6, a7, a8, a9, a10, a11, a12, a13, a14, a15, a16⟩ := C
  refine W.bast a1 a2 (hA_cell a11 ho) ((a10.1.2 2 _ rfl).1 n (fun j => .int (g j))) (fun q => by cases q) (vin (G := G) (a := a) _ _ hin) rfl rfl hd fun H1 e z oq => ?_
  refine w H1 _ (a11.set ?_ z oq) (a12.put z oq (Nat.le_add_right _ _))
  show H1[_]? = some (arrV _ n (fun j => .int (upd g i.toNatClampNeg (nar 2 x) j)))
  rw [e]
  show some ((arrV _ n (fun j => .int (g j))).setSlot _ _) = _
  rw [arrV_store]
  congr 2
  funext q
  by_cases hq : q = i.toNatClampNeg
  · subst hq; simp [updV, upd, nar]; try rfl
  · simp [updV, upd, hq]
theorem S_zastore {a : Nat} {i x : Int32} {f : Hp → Option ρ} (hd : decode M.2.1 pc = .ok (.bastore, 1)) (kk : ∀ h', sI h 3 a i x = some h' → Sim l G lev M fin (pc + 1) lv st h' (f h')) : Sim l G lev M fin pc lv (.int x :: .int i :: .ref a :: st) h ((sI h 3 a i x).bind f) := by
  refine Sim.wr (fun h' e => by obtain ⟨n, g, -, -, e4⟩ := sI_some e; rw [e4]; rfl) kk fun h' hx C w => ?_
  obtain ⟨n, g, ho, hin, rfl⟩ := sI_some hx
  obtain ⟨a1, a2, a3, a4, a5, a6, a7, a8, a9, a10, a11, a12, a13, a14, a15, a16⟩ := C
  refine W.zast a1 a2 (hA_cell a11 ho) ((a10.1.2 3 _ rfl).1 n (fun j => .int (g j))) (fun q => by cases q) (vin (G := G) (a := a) _ _ hin) rfl rfl hd fun H1 e z oq => ?_
  refine w H1 _ (a11.set ?_ z oq) (a12.put z oq (Nat.le_add_right _ _))
  show H1[_]? = some (arrV _ n (fun j => .int (upd g i.toNatClampNeg (nar 3 x) j)))
  rw [e]
  show some ((arrV _ n (fun j => .int (g j))).setSlot _ _) = _
  rw [arrV_store]
  congr 2
  funext q
  by_cases hq : q = i.toNatClampNeg
  · subst hq; simp [updV, upd, nar]; try rfl
  · simp [updV, upd, hq]
theorem S_lastore {a : Nat} {i : Int32} {x : Int64} {f : Hp → Option ρ} (hd : decode M.2.1 pc = .ok (.lastore, 1)) (kk : ∀ h', sL h 1 a i x = some h' → Sim l G lev M fin (pc + 1) lv st h' (f h')) : Sim l G lev M fin pc lv (.long x :: .int i :: .ref a :: st) h ((sL h 1 a i x).bind f) := by
  refine Sim.wr (fun h' e => by obtain ⟨n, g, -, -, e4⟩ := sL_some e; rw [e4]; rfl) kk fun h' hx C w => ?_
  obtain ⟨n, g, ho, hin, rfl⟩ := sL_some hx
  obtain ⟨a1, a2, a3, a4, a5, a6, a7, a8, a9, a10, a11, a12, a13, a14, a15, a16⟩ := C
  refine W.last a1 a2 (hA_cell a11 ho) ((a10.1.2 1 _ rfl).1 n (fun j => .long (g j))) (fun q => by cases q) (vin (G := G) (a := a) _ _ hin) rfl rfl hd fun H1 e z oq => ?_
  refine w H1 _ (a11.set ?_ z oq) (a12.put z oq (Nat.le_add_right _ _))
  show H1[_]? = some (arrV _ n (fun j => .long (vp_updL g i.toNatClampNeg x j)))
  rw [e]
  show some ((arrV _ n (fun j => .long (g j))).setSlot _ _) = _
  rw [arrV_store]
  congr 2
  funext q
  by_cases hq : q = i.toNatClampNeg
  · subst hq; simp [updV, vp_updL]
  · simp [updV, vp_updL, hq]
theorem S_aastore {a v : Nat} {i : Int32} {f : Hp → Option ρ} (hd : decode M.2.1 pc = .ok (.aastore, 1)) (kk : ∀ h', sQ h 4 a i v = some h' → Sim l G lev M fin (pc + 1) lv st h' (f h')) : Sim l G lev M fin pc lv (.ref v :: .int i :: .ref a :: st) h ((sQ h 4 a i v).bind f) := by
  refine Sim.wr (fun h' e => by obtain ⟨n, g, fs, -, -, -, e4⟩ := sQ_some e; rw [e4]; rfl) kk fun h' hx C w => ?_
  obtain ⟨n, g, fs, ho, hov, hin, rfl⟩ := sQ_some hx
  obtain ⟨a1, a2, a3, a4, a5, a6, a7, a8, a9, a10, a11, a12, a13, a14, a15, a16⟩ := C
  have hlt : i.toNatClampNeg < n := Nat.not_le.mp fun q => hin (Or.inr q)
  have h0 : ¬ i < 0 := fun q => hin (Or.inl q)
  obtain ⟨hv1, hv2⟩ := hO_some hov
  have hv3 := a11.2 v hv1
  rw [hv2] at hv3
  obtain ⟨r', hr', cellV, g1, g2, g3, -⟩ := hv3
  have hcls := (a10.1.1 0 _ rfl).2
  obtain ⟨kA, comp, k1, k2, k3, -⟩ := (a10.1.2 4 _ rfl).2
  have hcomp : comp = G.2.1.1 0 := Option.some.inj (k3.symm.trans hcls.1)
  subst hcomp
  obtain ⟨kC, hkC, -⟩ := hcls.2
  refine W.aast a1 a2 (hA_cell a11 ho) (fun q h => by cases h) (fun h => by cases h) k1 k2 rfl hkC ⟨h0, by show _ < (arrV _ _ _).slots.size; rw [arrV_size]; exact hlt⟩ g1 (fun q h => by rw [g3] at h; cases h) (by rw [g2]; exact hkC) (by rw [g2]; exact va_assign hcls) rfl rfl hd fun H1 e z oq => ?_
  refine w H1 _ (a11.set ?_ z oq) (a12.put z oq (Nat.le_add_right _ _))
  show H1[_]? = some (arrV _ n (fun j => va_rf ((va_up g i.toNatClampNeg (some v) j).map (fun k => G.1 + k))))
  rw [e]
  show some ((arrV _ n (fun j => va_rf ((g j).map (fun k => G.1 + k)))).setSlot _ _) = _
  rw [arrV_store]
  congr 2
  funext q
  by_cases hq : q = i.toNatClampNeg
  · subst hq; simp [updV, va_up, va_rf]; try rfl
  · simp [updV, va_up, hq]
end HEAP
