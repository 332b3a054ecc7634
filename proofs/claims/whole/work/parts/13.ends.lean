/-! making cells; ends; switches; null -/
def nm {α β : Type} (x : α) (f : α → β) : β := f x
def sw {ρ : Type} (x : Int32) (lo : Int) (rs : List (Option ρ)) (d : Option ρ) : Option ρ := if x.toInt < lo then d else rs.getD (x.toInt - lo).toNat d
def SwP {ρ : Type} (P : Nat → Option ρ → Prop) : List Nat → List (Option ρ) → Prop
  | t :: ts, r :: rs => P t r ∧ SwP P ts rs
  | _, _ => True
def nz {ρ : Type} (q : Option Nat) (r1 : Option ρ) (r2 : Nat → Option ρ) : Option ρ := match q with
  | none => r1
  | some a => r2 a
def n32 (x : UInt32) : Option UInt32 := if x &&& 0x7fffffff ≤ 0x7f800000 then some x else none
def n64 (x : UInt64) : Option UInt64 := if x &&& 0x7fffffffffffffff ≤ 0x7ff0000000000000 then some x else none
def dv (x y : Int32) : Option Int32 := if y = 0 then none else some (x / y)
def rm (x y : Int32) : Option Int32 := if y = 0 then none else some (x - x / y * y)
/-- a join: the rest of the way as a function -/
def jn {α ρ : Type} (K : α → Option ρ) (body : (α → Option ρ) → Option ρ) : Option ρ := body K
theorem SwP.all {ρ : Type} {P : Nat → Option ρ → Prop} {d : Option ρ} : ∀ (ts : List Nat) (rs : List (Option ρ)), SwP P ts rs → rs.length = ts.length → ∀ j, j < ts.length → P (ts.getD j 0) (rs.getD j d)
  | [], _, _, _, j, h => by cases h
  | _ :: _, [], _, e, _, _ => by cases e
  | t :: ts, r :: rs, h, e, 0, _ => h.1
  | t :: ts, r :: rs, h, e, j + 1, hj => SwP.all ts rs h.2 (Nat.succ.inj e) j (Nat.lt_of_succ_lt_succ hj)
section ENDS
variable {l : Launch} {G : Gx} {lev : Nat} {M : Mt} {ρ : Type} {fin : ρ → Oc × Hp} {pc : Nat} {lv : List (Nat × Value)} {st : List Value} {h : Hp} {r : Option ρ}
theorem S_nm {α : Type} {x : α} {f : α → Option ρ} (k : ∀ y, y = x → Sim l G lev M fin pc lv st h (f y)) : Sim l G lev M fin pc lv st h (nm x f) := k x rfl
theorem S_jn {α : Type} {K : α → Option ρ} {body : (α → Option ρ) → Option ρ} (P : (α → Option ρ) → Prop) (hK : P K) (k : ∀ k9, P k9 → Sim l G lev M fin pc lv st h (body k9)) : Sim l G lev M fin pc lv st h (jn K body) := k K hK
theorem Sim.mk (p2 : Nat) {st' : List Value} {c : Ac} {n : Nat} (k : Sim l G lev M fin p2 lv st' (hpush h c n) r)
    (hw : ∀ {p : Program} {e : Env} {R : Room} {s : State} {m : MethodId} {args : Array Value} {below : List Frame} {meth : Method} {cd : Code} {H : Heap} {locs : List Loc} {cells slots : Nat} {ls : Array Slot} {Q : State → Prop},
      Cx l G lev M lv h p R s m args meth cd H locs ls → cells + 1 ≤ R.cells → slots + n ≤ R.slots → (∀ (H1 : Heap), Rl G (hpush h c n) H1 → va_S (fun q => G.1 ≤ q) s.heap H1 locs → W p l e R s m args below meth cd H1 locs (cells + 1) (slots + n) Q (F0 m p2 ls (st'.map (sh G)))) → W p l e R s m args below meth cd H locs cells slots Q (F0 m pc ls (st.map (sh G)))) : Sim l G lev M fin pc lv st h r := by
  intro v hv
  obtain ⟨⟨k1, k1b⟩, k2⟩ := k v hv
  have e1 : (hpush h c n).2.1 = h.2.1 + 1 := rfl
  have e2 : (hpush h c n).2.2 = h.2.2 + n := rfl
  rw [e1] at k1
  rw [e2] at k1b
  refine ⟨⟨by omega, by omega⟩, fun p e R s m args below meth cd H locs cells slots ls C h1 h2 => hw C (by omega) (by omega) fun H1 q1 q2 => ?_⟩
  obtain ⟨a1, a2, a3, a4, a5, a6, a7, a8, a9, a10, a11, a12, a13, a14, a15, a16⟩ := C
  exact k2 p e R s m args below meth cd H1 locs (cells + 1) (slots + n) ls ⟨a1, a2, a3, a4, a5, a6, a7, a8, a9, a10, q1, q2, a13, a14, a15, a16⟩ (by rw [e1]; omega) (by rw [e2]; omega)
theorem va_S.grow {A : Nat → Prop} {H0 H H1 : Heap} {locs : List Loc} (h : va_S A H0 H locs) (hz : H1.size = H.size + 1) (hq : ∀ q : Nat, q < H.size → H1[q]? = H[q]?) : va_S A H0 H1 locs :=
  ⟨Nat.le_trans h.1 (by omega), fun q h1 h2 => (hq q (Nat.lt_of_lt_of_le h1 h.1)).trans (h.2.1 q h1 h2), h.2.2⟩
theorem S_new {ci index N : Nat} {C : String} {T : u_T} {ty : Nat → FieldType} (hK : KC ci C T N ty) (fs : List Value) (hsh : fs.map (sh G) = fs) (hfs : ∀ j, j < N → defaultValue (ty j) = vp_V fs j) (hl : Cond.classLink M.1.cls index C ∈ Tb) (hi : Cond.instantiable C N ∈ Tb) (hini : Cond.initialized C ∈ Tb) (hd : decode M.2.1 pc = .ok (.new index, 3))
    (k : Sim l G lev M fin (pc + 3) lv (.ref h.2.1 :: st) (hpush h (.inr (ci, fs)) N) r) : Sim l G lev M fin pc lv st h r := by
  refine Sim.mk (pc + 3) k fun {p e R s m args below meth cd H locs cells slots ls Q} C h1 h2 w => ?_
  obtain ⟨a1, a2, a3, a4, a5, a6, a7, a8, a9, a10, a11, a12, a13, a14, a15, a16⟩ := C
  have hKn := a10.1.1 ci _ hK.1
  refine W.newcK a1 a2 a6 (a5 _ hl) (a5 _ hi) (a5 _ hini) rfl hd h1 h2 hKn.2.1 rfl fun H1 kC hkC e1 z1 o1 => ?_
  have w9 := w H1 (a11.push ?_ z1 o1) (a12.grow z1 o1)
  · have e9 : G.1 + h.2.1 = H.size := a11.1.symm
    show W p l e R s m args below meth cd H1 locs (cells + 1) (slots + N) Q (F0 m (pc + 3) ls (.ref H.size :: st.map (sh G)))
    rw [← e9]
    exact w9
  · show va_at G.2.1 cls_ (H.size, .inr (ci, fs.map (sh G))) H1
    rw [hsh]
    exact ⟨_, hK.1, (u_born ty a5 hK.2.1 hKn hkC e1 hK.2.2.1).to hfs⟩
theorem S_newarr {t : Nat} {at9 : ArrayType} {n : Int32} (N : Nat) {ty : FieldType} (x : vp_A) (ht : (tys_ G)[t]? = some (G.2.2.1 t, ty)) (hty : newarray.typeOf at9 = ty) (hno : ∀ U cA, va_RA U cA ty = (U.vm.findClass ("[" ++ ty.toString) = some cA)) (hx : ∀ cA, vp_cell cA (shA G x) = arrV cA N (fun _ => defaultValue ty)) (hn : ¬ n < 0) (hN : n.toNatClampNeg = N) (hby : N * componentBytes ty ≤ 536870912)
    (hl : Cond.arrayClass ty ∈ Tb) (hd : decode M.2.1 pc = .ok (.newarray at9, 2)) (k : Sim l G lev M fin (pc + 2) lv (.ref h.2.1 :: st) (hpush h (.inl (t, x)) N) r) : Sim l G lev M fin pc lv (.int n :: st) h r := by
  subst hty
  refine Sim.mk (pc + 2) k fun {p e R s m args below meth cd H locs cells slots ls Q} C h1 h2 w => ?_
  obtain ⟨a1, a2, a3, a4, a5, a6, a7, a8, a9, a10, a11, a12, a13, a14, a15, a16⟩ := C
  refine va_newaK a1 a2 (a5 _ hl) rfl hd rfl hn hN hby h1 h2 rfl fun H1 cA e1 z1 o1 hAr hNm => ?_
  have hra := (a10.1.2 t _ ht).2
  rw [hno] at hra
  have hcA : cA = G.2.2.1 t := Option.some.inj (hNm.symm.trans hra)
  subst hcA
  have w9 := w H1 (a11.push ?_ z1 o1) (a12.grow z1 o1)
  · have e9 : G.1 + h.2.1 = H.size := a11.1.symm
    show W p l e R s m args below meth cd H1 locs (cells + 1) (slots + N) Q (F0 m (pc + 2) ls (.ref H.size :: st.map (sh G)))
    rw [← e9]
    exact w9
  · show H1[H.size]? = some (vp_cell _ _)
    rw [hx]
    exact e1
theorem S_anew {index : Nat} {n : Int32} (N : Nat) (hn : ¬ n < 0) (hN : n.toNatClampNeg = N) (hby : N * 4 ≤ 536870912) (hl : Cond.classLink M.1.cls index "ColourDuel$Board" ∈ Tb) (hd : decode M.2.1 pc = .ok (.anewarray index, 3))
    (k : Sim l G lev M fin (pc + 3) lv (.ref h.2.1 :: st) (hpush h (.inl (4, N, .inr (.inr (.inr (.inr (fun _ => none)))))) N) r) : Sim l G lev M fin pc lv (.int n :: st) h r := by
  refine Sim.mk (pc + 3) k fun {p e R s m args below meth cd H locs cells slots ls Q} C h1 h2 w => ?_
  obtain ⟨a1, a2, a3, a4, a5, a6, a7, a8, a9, a10, a11, a12, a13, a14, a15, a16⟩ := C
  subst hN
  refine W.anew a1 a2 a6 (a5 _ hl) (va_AO.use a10.2.2.2.2.1) rfl hd rfl hn hby h1 h2 fun cA kA comp f1 f2 f3 f4 => ?_
  generalize hH1 : H.push ({ cls := cA, slots := Array.replicate n.toNatClampNeg .null, vm := .none } : Cell) = H1
  have z1 : H1.size = H.size + 1 := by rw [← hH1, Array.size_push]
  have e1 : H1[H.size]? = some (arrV cA n.toNatClampNeg (fun _ => .null)) := by rw [← hH1, Array.getElem?_push_size, ← arrV_new]
  have o1 : ∀ q : Nat, q < H.size → H1[q]? = H[q]? := fun q hq => by rw [← hH1, Array.getElem?_push, if_neg (Nat.ne_of_lt hq)]
  obtain ⟨kA', comp', -, -, -, g4⟩ := (a10.1.2 4 _ rfl).2
  have hcA : cA = G.2.2.1 4 := Option.some.inj (f1.symm.trans g4)
  subst hcA
  have w9 := w H1 (a11.push (c := .inl (4, n.toNatClampNeg, .inr (.inr (.inr (.inr (fun _ => none)))))) ?_ z1 o1) (a12.grow z1 o1)
  · have e9 : G.1 + h.2.1 = H.size := a11.1.symm
    show W p l e R s m args below meth cd H1 locs (cells + 1) (slots + n.toNatClampNeg) Q (F0 m (pc + 3) ls (.ref H.size :: st.map (sh G)))
    rw [← e9]
    exact w9
  · show H1[H.size]? = some (vp_cell _ _)
    exact e1
theorem S_obj {index a : Nat} (hl : Cond.methodLink M.1.cls index objectInit ∈ Tb) (hi : Cond.instanceMethod objectInit ∈ Tb) (hc : Cond.code objectInit ⟨#[0xb1]⟩ 1 none ∈ Tb) (hroom : (st.map fun v => v.category).sum ≤ 8) (hd : decode M.2.1 pc = .ok (.invokespecial index, 3)) (k : Sim l G lev M fin (pc + 3) lv st h r) : Sim l G lev M fin pc lv (.ref a :: st) h r := by
  refine Sim.pure k fun {p e R s m args below meth c H locs cells slots ls Q} C w => ?_
  obtain ⟨a1, a2, a3, a4, a5, a6, a7, a8, a9, a10, a11, a12, a13, a14, a15, a16⟩ := C
  refine W.objInit a1 a2 a6 (a5 _ hl) (a5 _ hi) (a5 _ hc) rfl (by rw [a4]; exact a13.1) (a := G.1 + a) (rest := st.map (sh G)) rfl hd (by omega) ?_ w
  show 2 * 0 + _ + 12 ≤ R.locals
  rw [catsum]
  omega
/-- the ends -/
theorem Sim.end {v : ρ} {rv : Option Value} (hf : fin v = (.inl rv, h))
    (hw : ∀ {p : Program} {e : Env} {R : Room} {s : State} {m : MethodId} {args : Array Value} {below : List Frame} {meth : Method} {c : Code} {H : Heap} {locs : List Loc} {cells slots : Nat} {ls : Array Slot},
      Cx l G lev M lv h p R s m args meth c H locs ls → (∀ t : State, t.heap = H → s.WarmedH t.vm → PqC G (.inl rv, h) args s (.returned (rv.map (sh G))) t) → (∀ q ∈ locs, G.1 ≤ q.base) → W p l e R s m args below meth c H locs cells slots (MQ below (PqC G (.inl rv, h)) args s cells slots (fun q => G.1 ≤ q)) (F0 m pc ls (st.map (sh G)))) : Sim l G lev M fin pc lv st h (some v) := by
  intro v9 hv9
  cases hv9
  rw [hf]
  refine ⟨⟨Nat.le_refl _, Nat.le_refl _⟩, fun p e R s m args below meth c H locs cells slots ls C h1 h2 => ?_⟩
  have C' := C
  obtain ⟨a1, a2, a3, a4, a5, a6, a7, a8, a9, a10, a11, a12, a13, a14, a15, a16⟩ := C
  have hle : G.1 ≤ s.heap.size := a10.2.2.2.2.2.2.2.2.2
  have h1' : cells + h.2.1 ≤ R.cells + h.2.1 := h1
  have h2' : slots + h.2.2 ≤ R.slots + h.2.2 := h2
  refine vx_ret (W.widen (k := R.cells) (n := R.slots) (by omega) (by omega) (hw ⟨a1, a2, a3, a4, a5, a6, a7, a8, a9, a10, a11, a12, a13, a14, a15, a16⟩ (fun t ht _ => ⟨rv, rfl, rfl, by rw [ht]; exact a11, fun q hq => ?_⟩) a12.2.2))
  rw [ht]
  exact a12.2.1 q (by omega) (Nat.not_le.mpr hq)
theorem S_ireturn {v : ρ} {x : Int32} (hf : fin v = (.inl (some (.int x)), h)) (hr : M.2.2.2.1 = some .int) (hd : decode M.2.1 pc = .ok (.ireturn, 1)) : Sim l G lev M fin pc lv [.int x] h (some v) :=
  Sim.end hf fun C q1 q2 => W.iret C.1 C.2.1 (C.2.2.1.trans hr) q1 q2 hd C.2.2.2.2.2.2.1
theorem S_zreturn {v : ρ} {b : Bool} (hf : fin v = (.inl (some (.int (bI b))), h)) (hr : M.2.2.2.1 = some .boolean) (hd : decode M.2.1 pc = .ok (.ireturn, 1)) : Sim l G lev M fin pc lv [.int (bI b)] h (some v) :=
  Sim.end hf fun C q1 q2 => W.zret C.1 C.2.1 (C.2.2.1.trans hr) (by cases b <;> rfl) q1 q2 hd C.2.2.2.2.2.2.1
theorem S_lreturn {v : ρ} {x : Int64} (hf : fin v = (.inl (some (.long x)), h)) (hr : M.2.2.2.1 = some .long) (hd : decode M.2.1 pc = .ok (.lreturn, 1)) : Sim l G lev M fin pc lv [.long x] h (some v) :=
  Sim.end hf fun C q1 q2 => W.lret C.1 C.2.1 (C.2.2.1.trans hr) q1 q2 hd C.2.2.2.2.2.2.1
theorem S_freturn {v : ρ} {x : UInt32} (hf : fin v = (.inl (some (.float x)), h)) (hr : M.2.2.2.1 = some .float) (hd : decode M.2.1 pc = .ok (.freturn, 1)) : Sim l G lev M fin pc lv [.float x] h (some v) :=
  Sim.end hf fun C q1 q2 => W.fret C.1 C.2.1 (C.2.2.1.trans hr) q1 q2 hd C.2.2.2.2.2.2.1
theorem S_return {v : ρ} (hf : fin v = (.inl none, h)) (hr : M.2.2.2.1 = none) (hd : decode M.2.1 pc = .ok (.return_, 1)) : Sim l G lev M fin pc lv [] h (some v) :=
  Sim.end hf fun C q1 q2 => W.vret C.1 C.2.1 (C.2.2.1.trans hr) q1 q2 hd C.2.2.2.2.2.2.1
theorem S_qreturn {v : ρ} {q : Option Nat} {n : String} (hf : fin v = (.inl (some (va_rf q)), h)) (hr : M.2.2.2.1 = some (.object n)) (hd : decode M.2.1 pc = .ok (.areturn, 1)) : Sim l G lev M fin pc lv [va_rf q] h (some v) :=
  Sim.end hf fun C q1 q2 => W.aret C.1 C.2.1 (C.2.2.1.trans hr) (Or.inl ⟨n, rfl⟩) (by cases q <;> first | exact Or.inl rfl | exact Or.inr ⟨_, rfl⟩) q1 q2 hd C.2.2.2.2.2.2.1
theorem S_if_eqB {b : Bool} {off : Int} (tgt : Nat) {r1 r2 : Option ρ} (hd : decode M.2.1 pc = .ok (.ifCond .eq off, 3)) (ht : (pc : Int) + off = (tgt : Int)) (kt : b = false → Sim l G lev M fin tgt lv st h r1) (kf : b = true → Sim l G lev M fin (pc + 3) lv st h r2) : Sim l G lev M fin pc lv (.int (bI b) :: st) h (if b = true then r2 else r1) := by
  cases b with
  | true => exact Sim.pure (kf rfl) fun C w => lv_if_eq C.1 C.2.1 hd ht (fun q => absurd q (by decide)) (fun _ => w)
  | false => exact Sim.pure (kt rfl) fun C w => lv_if_eq C.1 C.2.1 hd ht (fun _ => w) (fun q => absurd rfl q)
theorem S_if_neB {b : Bool} {off : Int} (tgt : Nat) {r1 r2 : Option ρ} (hd : decode M.2.1 pc = .ok (.ifCond .ne off, 3)) (ht : (pc : Int) + off = (tgt : Int)) (kt : b = true → Sim l G lev M fin tgt lv st h r1) (kf : b = false → Sim l G lev M fin (pc + 3) lv st h r2) : Sim l G lev M fin pc lv (.int (bI b) :: st) h (if b = true then r1 else r2) := by
  cases b with
  | true => exact Sim.pure (kt rfl) fun C w => lv_if_ne C.1 C.2.1 hd ht (fun _ => w) (fun q => absurd q (by decide))
  | false => exact Sim.pure (kf rfl) fun C w => lv_if_ne C.1 C.2.1 hd ht (fun q => absurd rfl q) (fun _ => w)
theorem S_ifnull {q : Option Nat} {off : Int} (tgt : Nat) {r1 : Option ρ} {r2 : Nat → Option ρ} (hd : decode M.2.1 pc = .ok (.ifnull off, 3)) (ht : (pc : Int) + off = (tgt : Int)) (kt : q = none → Sim l G lev M fin tgt lv st h r1) (kf : ∀ a, q = some a → Sim l G lev M fin (pc + 3) lv st h (r2 a)) : Sim l G lev M fin pc lv (va_rf q :: st) h (nz q r1 r2) := by
  cases q with
  | none => exact Sim.pure (kt rfl) fun C w => lv_ifnullN C.1 C.2.1 hd ht w
  | some a => exact Sim.pure (kf a rfl) fun C w => lv_ifnull C.1 C.2.1 hd w
theorem S_ifnonnull {q : Option Nat} {off : Int} (tgt : Nat) {r1 : Option ρ} {r2 : Nat → Option ρ} (hd : decode M.2.1 pc = .ok (.ifnonnull off, 3)) (ht : (pc : Int) + off = (tgt : Int)) (kt : ∀ a, q = some a → Sim l G lev M fin tgt lv st h (r2 a)) (kf : q = none → Sim l G lev M fin (pc + 3) lv st h r1) : Sim l G lev M fin pc lv (va_rf q :: st) h (nz q r1 r2) := by
  cases q with
  | none => exact Sim.pure (kf rfl) fun C w => lv_ifnonnullN C.1 C.2.1 hd w
  | some a => exact Sim.pure (kt a rfl) fun C w => lv_ifnonnull C.1 C.2.1 hd ht w
theorem S_deref {q : Option Nat} {f : Nat → Option ρ} (k : ∀ a, q = some a → Sim l G lev M fin pc lv st h (f a)) : Sim l G lev M fin pc lv st h (q.bind f) := by
  cases q with
  | none => intro v hv; cases hv
  | some a => exact k a rfl
theorem S_fdiv {x y : UInt32} {f : UInt32 → Option ρ} (hd : decode M.2.1 pc = .ok (.fdiv, 1)) (kk : ∀ z, n32 (FP.fdiv x y) = some z → Sim l G lev M fin (pc + 1) lv (.float z :: st) h (f z)) : Sim l G lev M fin pc lv (.float y :: .float x :: st) h ((n32 (FP.fdiv x y)).bind f) := by
  refine Sim.rd kk fun z hz C w => ?_
  unfold n32 at hz
  split at hz
  next hn => cases hz; exact lv_fdiv C.1 C.2.1 hd hn w
  next => cases hz
theorem S_f2d {x : UInt32} {f : UInt64 → Option ρ} (hd : decode M.2.1 pc = .ok (.f2d, 1)) (kk : ∀ z, n64 (FP.f2d x) = some z → Sim l G lev M fin (pc + 1) lv (.double z :: st) h (f z)) : Sim l G lev M fin pc lv (.float x :: st) h ((n64 (FP.f2d x)).bind f) := by
  refine Sim.rd kk fun z hz C w => ?_
  unfold n64 at hz
  split at hz
  next hn => cases hz; exact lv_f2d C.1 C.2.1 hd hn w
  next => cases hz
theorem S_idiv {x y : Int32} {f : Int32 → Option ρ} (hd : decode M.2.1 pc = .ok (.idiv, 1)) (kk : ∀ z, dv x y = some z → Sim l G lev M fin (pc + 1) lv (.int z :: st) h (f z)) : Sim l G lev M fin pc lv (.int y :: .int x :: st) h ((dv x y).bind f) := by
  refine Sim.rd kk fun z hz C w => ?_
  unfold dv at hz
  split at hz
  next => cases hz
  next hn => cases hz; exact lv_idiv C.1 C.2.1 hd hn w
theorem S_irem {x y : Int32} {f : Int32 → Option ρ} (hd : decode M.2.1 pc = .ok (.irem, 1)) (kk : ∀ z, rm x y = some z → Sim l G lev M fin (pc + 1) lv (.int z :: st) h (f z)) : Sim l G lev M fin pc lv (.int y :: .int x :: st) h ((rm x y).bind f) := by
  refine Sim.rd kk fun z hz C w => ?_
  unfold rm at hz
  split at hz
  next => cases hz
  next hn => cases hz; exact lv_irem C.1 C.2.1 hd hn w
theorem S_sw {x : Int32} {dflt lo hi : Int} {offs : Array Int} {len : Nat} (tgd : Nat) (tg : List Nat) {rs : List (Option ρ)} {d : Option ρ} (hd : decode M.2.1 pc = .ok (.tableswitch dflt lo hi offs, len)) (hdf : (pc : Int) + dflt = (tgd : Int)) (hhi : hi = lo + (tg.length : Int) - 1) (hlen : rs.length = tg.length) (ho : ∀ i, i < tg.length → offs[i]? = some ((tg.getD i 0 : Int) - (pc : Int)))
    (kd : Sim l G lev M fin tgd lv st h d) (kk : SwP (fun t r => Sim l G lev M fin t lv st h r) tg rs) : Sim l G lev M fin pc lv (.int x :: st) h (sw x lo rs d) := by
  unfold sw
  by_cases h1 : x.toInt < lo
  · rw [if_pos h1]
    exact Sim.pure kd fun C w => lv_tableOut C.1 C.2.1 hd (Or.inl h1) hdf w
  · rw [if_neg h1]
    by_cases h2 : hi < x.toInt
    · have e : rs.getD (x.toInt - lo).toNat d = d := by
        rw [List.getD_eq_getElem?_getD, List.getElem?_eq_none (by omega)]
        rfl
      rw [e]
      exact Sim.pure kd fun C w => lv_tableOut C.1 C.2.1 hd (Or.inr h2) hdf w
    · have hi2 : (x.toInt - lo).toNat < tg.length := by omega
      exact Sim.pure (SwP.all _ _ kk hlen _ hi2) fun C w => lv_tableIn C.1 C.2.1 hd h1 h2 (ho _ hi2) (by omega) w
end ENDS
