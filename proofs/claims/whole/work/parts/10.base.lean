/-! the abstract machine: a heap of numbered cells; Sim: what a model's answer says of the walk -/
abbrev Ac : Type := (Nat × vp_A) ⊕ (Nat × List Value)
abbrev Hp : Type := (Nat → Ac) × Nat × Nat
abbrev Gx : Type := Nat × va_G × (Nat → ClassId) × (Nat → Nat) × Nat × (Nat → Int32)
abbrev Oc : Type := Option Value ⊕ Nat
abbrev Mt : Type := MethodName × ByteArray × Nat × Option FieldType × List (Nat × Nat × Nat × Nat)
def TE : u_T := fun _ => ("", "", "", false)
def xn : Nat → String
  | 0 => "java/lang/IllegalStateException"
  | 1 => "java/lang/IllegalArgumentException"
  | 2 => "java/lang/IndexOutOfBoundsException"
  | _ => "java/util/NoSuchElementException"
abbrev cls_ : List vw_C := vwCl ++ [(xn 0, TE, 0), (xn 1, TE, 0), (xn 2, TE, 0), (xn 3, TE, 0)]
abbrev tys_ (G : Gx) : List (ClassId × FieldType) := [(G.2.2.1 0, .int), (G.2.2.1 1, .long), (G.2.2.1 2, .byte), (G.2.2.1 3, .boolean), (G.2.2.1 4, .object "ColourDuel$Board")]
def sh (G : Gx) : Value → Value
  | .ref k => .ref (G.1 + k)
  | .retAddr j => .ref (G.2.2.2.1 j)
  | v => v
theorem sh_cat (G : Gx) (v : Value) : (sh G v).category = v.category := by cases v <;> rfl
def shA (G : Gx) (a : vp_A) : vp_A := match a.2 with
  | .inr (.inr (.inr (.inr f))) => (a.1, .inr (.inr (.inr (.inr (fun j => (f j).map (fun k => G.1 + k))))))
  | x => (a.1, x)
def she (G : Gx) : Ac → va_E
  | .inl x => .inl (G.2.2.1 x.1, shA G x.2)
  | .inr o => .inr (o.1, o.2.map (sh G))
def Rl (G : Gx) (h : Hp) (H : Heap) : Prop := H.size = G.1 + h.2.1 ∧ ∀ k : Nat, k < h.2.1 → va_at G.2.1 cls_ (G.1 + k, she G (h.1 k)) H
def nwk : Cond → Bool
  | .methodLinkNest .. => true
  | .fieldLinkNest .. => true
  | .castable .. => true
  | .declares .. => true
  | _ => false
/-- the string constants: their texts, as bytes -/
def str_ : List String := ["colours", "passes", "vertex", "edge", "lay", "pass"]
def strB (j : Nat) : List Int32 := (str_.getD j "").toList.map (fun c => Int32.ofNat c.toNat)
abbrev Tb : List Cond := lw_tbl.filter goodWord
/-- what is known of the string constants, of String's statics, and of the script -/
def KnS (G : Gx) (U : State) (H : Heap) : Prop :=
  vk_S 6 ((List.range 6).map (fun j => (strB j).length)) ((List.range 6).map strB) G.2.2.2.1 (fun j => G.2.2.2.1 (1000 + j)) (fun q => G.1 ≤ q) U H ∧
  va_Z "java/lang/String" "COMPACT_STRINGS" "Z" (.int 1) (fun q => G.1 ≤ q) U H ∧ (va_Z "jdk/internal/util/Preconditions" "SIOOBE_FORMATTER" "Ljava/util/function/BiFunction;" .null (fun q => G.1 ≤ q) U H ∨ va_Z "jdk/internal/util/Preconditions" "SIOOBE_FORMATTER" "Ljava/util/function/BiFunction;" (.ref (G.2.2.2.1 6000)) (fun q => G.1 ≤ q) U H) ∧
  va_X (G.2.2.2.1 5000) G.2.2.2.2.1 G.2.2.2.2.2 U H ∧ G.2.2.2.1 5000 < G.1
/-- what is known of the tables and of the cells below the base -/
def Kn (G : Gx) (U : State) (H : Heap) : Prop :=
  va_K G.2.1 cls_ (tys_ G) U ∧ KnS G U H ∧
  (∀ (own : String) (k : Nat) (tx : String), Cond.stringRef own k tx ∈ lw_tbl → ∃ q : Nat, vk_R own k tx q U ∧ ∀ j : Nat, str_[j]? = some tx → q = G.2.2.2.1 j) ∧
  (∀ w ∈ lw_tbl, nwk w = true → va_Nw w U) ∧ va_AO "ColourDuel$Board" U ∧
  vx_Zq Bundle.tN "UNASSIGNED_STACK" Bundle.steD (fun q => G.1 ≤ q) U H ∧ vx_Zq Bundle.tN "SUPPRESSED_SENTINEL" Bundle.listD (fun q => G.1 ≤ q) U H ∧
  (va_Nc (xn 1) (xn 2) U ∧ va_Nc (xn 3) (xn 2) U ∧ va_Nc (xn 0) (xn 2) U) ∧ (∀ w ∈ Tb, (∃ ty, w = .arrayClass ty) → w.before #[] U = true) ∧ G.1 ≤ H.size
/-- where a walk stands -/
def Cx (l : Launch) (G : Gx) (lev : Nat) (M : Mt) (lv : List (Nat × Value)) (h : Hp) (p : Program) (R : Room) (s : State) (m : MethodId) (args : Array Value) (meth : Method) (c : Code) (H : Heap) (locs : List Loc) (ls : Array Slot) : Prop :=
  p.tables.exec = Jvm.exec ∧ c.code = M.2.1 ∧ meth.sig.returnType = M.2.2.2.1 ∧ c.maxLocals = M.2.2.1 ∧ (∀ w ∈ Tb, w.before args s = true) ∧ s.vm.findClass M.1.cls = some m.cls ∧ meth.locks = false ∧ meth.name = M.1.name ∧ c.exceptionTable.toList = tableOf M.2.2.2.2 ∧
  Kn G s s.heap ∧ Rl G h H ∧ va_S (fun q => G.1 ≤ q) s.heap H locs ∧ lv_has ls M.2.2.1 (lv.map (fun q => (q.1, sh G q.2))) ∧ l.stackTraces = false ∧ lev + 8 ≤ R.frames ∧ 64 * lev + 256 ≤ R.locals
def PqC (G : Gx) (o : Oc × Hp) : Array Value → State → Outcome → State → Prop := fun _ st oc t => ∃ v, o.1 = .inl v ∧ oc = .returned (v.map (sh G)) ∧ Rl G o.2 t.heap ∧ ∀ q : Nat, q < G.1 → t.heap[q]? = st.heap[q]?
def PqX (G : Gx) (o : Oc × Hp) : String → State → State → Prop := fun E st t => ∃ k, o.1 = .inr k ∧ E = xn k ∧ Rl G o.2 t.heap ∧ ∀ q : Nat, q < G.1 → t.heap[q]? = st.heap[q]?
def Sim (l : Launch) (G : Gx) (lev : Nat) (M : Mt) {ρ : Type} (fin : ρ → Oc × Hp) (pc : Nat) (lv : List (Nat × Value)) (st : List Value) (h : Hp) (r : Option ρ) : Prop :=
  ∀ v, r = some v → (h.2.1 ≤ (fin v).2.2.1 ∧ h.2.2 ≤ (fin v).2.2.2) ∧
    ∀ (p : Program) (e : Env) (R : Room) (s : State) (m : MethodId) (args : Array Value) (below : List Frame) (meth : Method) (c : Code) (H : Heap) (locs : List Loc) (cells slots : Nat) (ls : Array Slot),
      Cx l G lev M lv h p R s m args meth c H locs ls → cells + (fin v).2.2.1 ≤ R.cells + h.2.1 → slots + (fin v).2.2.2 ≤ R.slots + h.2.2 →
      W p l e R s m args below meth c H locs cells slots (vx_MQ below (PqC G (fin v)) (PqX G (fin v)) args s R.cells R.slots (fun q => G.1 ≤ q)) (F0 m pc ls (st.map (sh G)))
section BASE
variable {l : Launch} {G : Gx} {lev : Nat} {M : Mt} {ρ : Type} {fin : ρ → Oc × Hp} {pc : Nat} {lv : List (Nat × Value)} {st : List Value} {h : Hp} {r : Option ρ}
theorem Sim.pure {pc' : Nat} {st' : List Value} (k : Sim l G lev M fin pc' lv st' h r)
    (hw : ∀ {p : Program} {e : Env} {R : Room} {s : State} {m : MethodId} {args : Array Value} {below : List Frame} {meth : Method} {c : Code} {H : Heap} {locs : List Loc} {cells slots : Nat} {ls : Array Slot} {Q : State → Prop},
      Cx l G lev M lv h p R s m args meth c H locs ls → W p l e R s m args below meth c H locs cells slots Q (F0 m pc' ls (st'.map (sh G))) → W p l e R s m args below meth c H locs cells slots Q (F0 m pc ls (st.map (sh G)))) :
    Sim l G lev M fin pc lv st h r := fun v hv => ⟨(k v hv).1, fun p e R s m args below meth c H locs cells slots ls C h1 h2 => hw C ((k v hv).2 p e R s m args below meth c H locs cells slots ls C h1 h2)⟩
theorem Sim.loc {pc' : Nat} {st' : List Value} {lv' : List (Nat × Value)} (k : Sim l G lev M fin pc' lv' st' h r)
    (hw : ∀ {p : Program} {e : Env} {R : Room} {s : State} {m : MethodId} {args : Array Value} {below : List Frame} {meth : Method} {c : Code} {H : Heap} {locs : List Loc} {cells slots : Nat} {ls : Array Slot} {Q : State → Prop},
      p.tables.exec = Jvm.exec → c.code = M.2.1 → lv_has ls M.2.2.1 (lv.map (fun q => (q.1, sh G q.2))) → (∀ ls' : Array Slot, lv_has ls' M.2.2.1 (lv'.map (fun q => (q.1, sh G q.2))) → W p l e R s m args below meth c H locs cells slots Q (F0 m pc' ls' (st'.map (sh G)))) → W p l e R s m args below meth c H locs cells slots Q (F0 m pc ls (st.map (sh G)))) :
    Sim l G lev M fin pc lv st h r := fun v hv => ⟨(k v hv).1, fun p e R s m args below meth c H locs cells slots ls C h1 h2 => by
      obtain ⟨a1, a2, a3, a4, a5, a6, a7, a8, a9, a10, a11, a12, a13, a14, a15, a16⟩ := C
      exact hw a1 a2 a13 fun ls' hl' => (k v hv).2 p e R s m args below meth c H locs cells slots ls' ⟨a1, a2, a3, a4, a5, a6, a7, a8, a9, a10, a11, a12, hl', a14, a15, a16⟩ h1 h2⟩
theorem Sim.br {c : Prop} [Decidable c] {r1 r2 : Option ρ} {t f : Nat} {st' : List Value} (kt : c → Sim l G lev M fin t lv st' h r1) (kf : ¬ c → Sim l G lev M fin f lv st' h r2)
    (hw : ∀ {p : Program} {e : Env} {R : Room} {s : State} {m : MethodId} {args : Array Value} {below : List Frame} {meth : Method} {cd : Code} {H : Heap} {locs : List Loc} {cells slots : Nat} {ls : Array Slot} {Q : State → Prop},
      p.tables.exec = Jvm.exec → cd.code = M.2.1 → (c → W p l e R s m args below meth cd H locs cells slots Q (F0 m t ls (st'.map (sh G)))) → (¬ c → W p l e R s m args below meth cd H locs cells slots Q (F0 m f ls (st'.map (sh G)))) → W p l e R s m args below meth cd H locs cells slots Q (F0 m pc ls (st.map (sh G)))) :
    Sim l G lev M fin pc lv st h (if c then r1 else r2) := by
  intro v hv
  by_cases hc : c
  · rw [if_pos hc] at hv
    exact ⟨(kt hc v hv).1, fun p e R s m args below meth cd H locs cells slots ls C h1 h2 => hw C.1 C.2.1 (fun _ => (kt hc v hv).2 p e R s m args below meth cd H locs cells slots ls C h1 h2) (fun q => absurd hc q)⟩
  · rw [if_neg hc] at hv
    exact ⟨(kf hc v hv).1, fun p e R s m args below meth cd H locs cells slots ls C h1 h2 => hw C.1 C.2.1 (fun q => absurd q hc) (fun _ => (kf hc v hv).2 p e R s m args below meth cd H locs cells slots ls C h1 h2)⟩
theorem Sim.sub {lv' : List (Nat × Value)} (ks : List Nat) (hk : lv_pick lv ks = lv') (k : Sim l G lev M fin pc lv' st h r) : Sim l G lev M fin pc lv st h r :=
  Sim.loc k fun _ _ hl w => w _ (by
    refine lv_sub hl ks ?_
    rw [← hk]
    unfold lv_pick
    rw [List.map_filterMap]
    congr 1
    funext i
    rw [List.getElem?_map])
theorem lv_get {ls : Array Slot} {n i : Nat} {v : Value} (hl : lv_has ls n (lv.map (fun q => (q.1, sh G q.2)))) (k : Nat) (hk : lv[k]? = some (i, v)) : ls[i]? = some (.val (sh G v)) :=
  lv_at hl k (by rw [List.getElem?_map, hk]; rfl)
theorem lv_sto1 {i : Nat} {v : Value} {lv' : List (Nat × Value)} (h : (i, v) :: lv.filter (fun q => !(q.1 == i) && !(q.1 + 1 == i && q.2.category == 2)) = lv') :
    (i, sh G v) :: (lv.map (fun q => (q.1, sh G q.2))).filter (fun q => !(q.1 == i) && !(q.1 + 1 == i && q.2.category == 2)) = lv'.map (fun q => (q.1, sh G q.2)) := by
  rw [← h, List.map_cons, List.filter_map]
  refine congrArg (fun F => (i, sh G v) :: (List.filter F lv).map (fun q => (q.1, sh G q.2))) (funext fun q => ?_)
  show (!(q.1 == i) && !(q.1 + 1 == i && (sh G q.2).category == 2)) = _
  rw [sh_cat]
theorem lv_sto2 {i : Nat} {v : Value} {lv' : List (Nat × Value)} (h : (i, v) :: lv.filter (fun q => !(q.1 == i) && (!(q.1 == i + 1) && !(q.1 + 1 == i && q.2.category == 2))) = lv') :
    (i, sh G v) :: (lv.map (fun q => (q.1, sh G q.2))).filter (fun q => !(q.1 == i) && (!(q.1 == i + 1) && !(q.1 + 1 == i && q.2.category == 2))) = lv'.map (fun q => (q.1, sh G q.2)) := by
  rw [← h, List.map_cons, List.filter_map]
  refine congrArg (fun F => (i, sh G v) :: (List.filter F lv).map (fun q => (q.1, sh G q.2))) (funext fun q => ?_)
  show (!(q.1 == i) && (!(q.1 == i + 1) && !(q.1 + 1 == i && (sh G q.2).category == 2))) = _
  rw [sh_cat]
theorem S_iadd {x y : Int32} (hd : decode M.2.1 pc = .ok (.iadd, 1)) (k : Sim l G lev M fin (pc + 1) lv (.int (x + y) :: st) h r) : Sim l G lev M fin pc lv (.int y :: .int x :: st) h r := Sim.pure k fun C w => lv_iadd C.1 C.2.1 hd w
theorem S_isub {x y : Int32} (hd : decode M.2.1 pc = .ok (.isub, 1)) (k : Sim l G lev M fin (pc + 1) lv (.int (x - y) :: st) h r) : Sim l G lev M fin pc lv (.int y :: .int x :: st) h r := Sim.pure k fun C w => lv_isub C.1 C.2.1 hd w
theorem S_imul {x y : Int32} (hd : decode M.2.1 pc = .ok (.imul, 1)) (k : Sim l G lev M fin (pc + 1) lv (.int (x * y) :: st) h r) : Sim l G lev M fin pc lv (.int y :: .int x :: st) h r := Sim.pure k fun C w => lv_imul C.1 C.2.1 hd w
theorem S_iand {x y : Int32} (hd : decode M.2.1 pc = .ok (.iand, 1)) (k : Sim l G lev M fin (pc + 1) lv (.int (x &&& y) :: st) h r) : Sim l G lev M fin pc lv (.int y :: .int x :: st) h r := Sim.pure k fun C w => lv_iand C.1 C.2.1 hd w
theorem S_ior {x y : Int32} (hd : decode M.2.1 pc = .ok (.ior, 1)) (k : Sim l G lev M fin (pc + 1) lv (.int (x ||| y) :: st) h r) : Sim l G lev M fin pc lv (.int y :: .int x :: st) h r := Sim.pure k fun C w => lv_ior C.1 C.2.1 hd w
theorem S_ixor {x y : Int32} (hd : decode M.2.1 pc = .ok (.ixor, 1)) (k : Sim l G lev M fin (pc + 1) lv (.int (x ^^^ y) :: st) h r) : Sim l G lev M fin pc lv (.int y :: .int x :: st) h r := Sim.pure k fun C w => lv_ixor C.1 C.2.1 hd w
theorem S_ladd {x y : Int64} (hd : decode M.2.1 pc = .ok (.ladd, 1)) (k : Sim l G lev M fin (pc + 1) lv (.long (x + y) :: st) h r) : Sim l G lev M fin pc lv (.long y :: .long x :: st) h r := Sim.pure k fun C w => lv_ladd C.1 C.2.1 hd w
theorem S_lsub {x y : Int64} (hd : decode M.2.1 pc = .ok (.lsub, 1)) (k : Sim l G lev M fin (pc + 1) lv (.long (x - y) :: st) h r) : Sim l G lev M fin pc lv (.long y :: .long x :: st) h r := Sim.pure k fun C w => lv_lsub C.1 C.2.1 hd w
theorem S_lmul {x y : Int64} (hd : decode M.2.1 pc = .ok (.lmul, 1)) (k : Sim l G lev M fin (pc + 1) lv (.long (x * y) :: st) h r) : Sim l G lev M fin pc lv (.long y :: .long x :: st) h r := Sim.pure k fun C w => lv_lmul C.1 C.2.1 hd w
theorem S_land {x y : Int64} (hd : decode M.2.1 pc = .ok (.land, 1)) (k : Sim l G lev M fin (pc + 1) lv (.long (x &&& y) :: st) h r) : Sim l G lev M fin pc lv (.long y :: .long x :: st) h r := Sim.pure k fun C w => lv_land C.1 C.2.1 hd w
theorem S_lor {x y : Int64} (hd : decode M.2.1 pc = .ok (.lor, 1)) (k : Sim l G lev M fin (pc + 1) lv (.long (x ||| y) :: st) h r) : Sim l G lev M fin pc lv (.long y :: .long x :: st) h r := Sim.pure k fun C w => lv_lor C.1 C.2.1 hd w
theorem S_lxor {x y : Int64} (hd : decode M.2.1 pc = .ok (.lxor, 1)) (k : Sim l G lev M fin (pc + 1) lv (.long (x ^^^ y) :: st) h r) : Sim l G lev M fin pc lv (.long y :: .long x :: st) h r := Sim.pure k fun C w => lv_lxor C.1 C.2.1 hd w
theorem S_ishl {x y : Int32} (hd : decode M.2.1 pc = .ok (.ishl, 1)) (k : Sim l G lev M fin (pc + 1) lv (.int (x <<< (y &&& 31)) :: st) h r) : Sim l G lev M fin pc lv (.int y :: .int x :: st) h r := Sim.pure k fun C w => lv_ishl C.1 C.2.1 hd w
theorem S_ishr {x y : Int32} (hd : decode M.2.1 pc = .ok (.ishr, 1)) (k : Sim l G lev M fin (pc + 1) lv (.int (x >>> (y &&& 31)) :: st) h r) : Sim l G lev M fin pc lv (.int y :: .int x :: st) h r := Sim.pure k fun C w => lv_ishr C.1 C.2.1 hd w
theorem S_iushr {x y : Int32} (hd : decode M.2.1 pc = .ok (.iushr, 1)) (k : Sim l G lev M fin (pc + 1) lv (.int ((x.toUInt32 >>> (y.toUInt32 &&& Int32.toUInt32 31)).toInt32) :: st) h r) : Sim l G lev M fin pc lv (.int y :: .int x :: st) h r := Sim.pure k fun C w => lv_iushr C.1 C.2.1 hd rfl w
theorem S_lushr {x : Int64} {y : Int32} (hd : decode M.2.1 pc = .ok (.lushr, 1)) (k : Sim l G lev M fin (pc + 1) lv (.long ((x.toUInt64 >>> (y.toInt64.toUInt64 &&& Int64.toUInt64 63)).toInt64) :: st) h r) : Sim l G lev M fin pc lv (.int y :: .long x :: st) h r := Sim.pure k fun C w => lv_lushr C.1 C.2.1 hd rfl w
theorem S_lshl {x : Int64} {y : Int32} (hd : decode M.2.1 pc = .ok (.lshl, 1)) (k : Sim l G lev M fin (pc + 1) lv (.long (x <<< (y.toInt64 &&& 63)) :: st) h r) : Sim l G lev M fin pc lv (.int y :: .long x :: st) h r := Sim.pure k fun C w => lv_lshl C.1 C.2.1 hd rfl w
theorem S_ineg {x : Int32} (hd : decode M.2.1 pc = .ok (.ineg, 1)) (k : Sim l G lev M fin (pc + 1) lv (.int (-x) :: st) h r) : Sim l G lev M fin pc lv (.int x :: st) h r := Sim.pure k fun C w => lv_ineg C.1 C.2.1 hd w
theorem S_i2l {x : Int32} (hd : decode M.2.1 pc = .ok (.i2l, 1)) (k : Sim l G lev M fin (pc + 1) lv (.long x.toInt64 :: st) h r) : Sim l G lev M fin pc lv (.int x :: st) h r := Sim.pure k fun C w => lv_i2l C.1 C.2.1 hd rfl w
theorem S_l2i {x : Int64} (hd : decode M.2.1 pc = .ok (.l2i, 1)) (k : Sim l G lev M fin (pc + 1) lv (.int x.toInt32 :: st) h r) : Sim l G lev M fin pc lv (.long x :: st) h r := Sim.pure k fun C w => lv_l2i C.1 C.2.1 hd rfl w
theorem S_i2b {x : Int32} (hd : decode M.2.1 pc = .ok (.i2b, 1)) (k : Sim l G lev M fin (pc + 1) lv (.int x.toInt8.toInt32 :: st) h r) : Sim l G lev M fin pc lv (.int x :: st) h r := Sim.pure k fun C w => lv_i2b C.1 C.2.1 hd rfl w
theorem S_i2f {x : Int32} (hd : decode M.2.1 pc = .ok (.i2f, 1)) (k : Sim l G lev M fin (pc + 1) lv (.float (FP.i2f x) :: st) h r) : Sim l G lev M fin pc lv (.int x :: st) h r := Sim.pure k fun C w => lv_i2f C.1 C.2.1 hd w
theorem S_lcmp {x y : Int64} (hd : decode M.2.1 pc = .ok (.lcmp, 1)) (k : Sim l G lev M fin (pc + 1) lv (.int (lg_cmp x y) :: st) h r) : Sim l G lev M fin pc lv (.long y :: .long x :: st) h r := Sim.pure k fun C w => W.lcmp C.1 C.2.1 hd w
theorem S_dcmp {x y : UInt64} {op : CmpOp} (hd : decode M.2.1 pc = .ok (.dcmp op, 1)) (k : Sim l G lev M fin (pc + 1) lv (.int (Op.cmpValue (FP.dcmp x y) op) :: st) h r) : Sim l G lev M fin pc lv (.double y :: .double x :: st) h r := Sim.pure k fun C w => lv_dcmp C.1 C.2.1 hd w
theorem S_fconst0  (hd : decode M.2.1 pc = .ok (.fconst 0, 1)) (k : Sim l G lev M fin (pc + 1) lv (.float FP.fconst0 :: st) h r) : Sim l G lev M fin pc lv (st) h r := Sim.pure k fun C w => lv_fconst0 C.1 C.2.1 hd w
theorem S_iconst {n : Int} (v : Int32) (hd : decode M.2.1 pc = .ok (.iconst n, 1)) (hv : Int32.ofInt n = v) (k : Sim l G lev M fin (pc + 1) lv (.int v :: st) h r) : Sim l G lev M fin pc lv (st) h r := Sim.pure k fun C w => lv_iconst C.1 C.2.1 hd hv w
theorem S_bipush {n : Int} (v : Int32) (hd : decode M.2.1 pc = .ok (.bipush n, 2)) (hv : (Int8.ofInt n).toInt32 = v) (k : Sim l G lev M fin (pc + 2) lv (.int v :: st) h r) : Sim l G lev M fin pc lv (st) h r := Sim.pure k fun C w => lv_bipush C.1 C.2.1 hd hv w
theorem S_sipush {n : Int} (v : Int32) (hd : decode M.2.1 pc = .ok (.sipush n, 3)) (hv : (Int16.ofInt n).toInt32 = v) (k : Sim l G lev M fin (pc + 3) lv (.int v :: st) h r) : Sim l G lev M fin pc lv (st) h r := Sim.pure k fun C w => lv_sipush C.1 C.2.1 hd hv w
theorem S_null  (hd : decode M.2.1 pc = .ok (.aconst_null, 1)) (k : Sim l G lev M fin (pc + 1) lv (.null :: st) h r) : Sim l G lev M fin pc lv (st) h r := Sim.pure k fun C w => lv_null C.1 C.2.1 hd w
theorem S_ldc {index : Nat} (v : Int32) (hc : Cond.constant M.1.cls index v ∈ Tb) (hd : decode M.2.1 pc = .ok (.ldc index, 2)) (k : Sim l G lev M fin (pc + 2) lv (.int v :: st) h r) : Sim l G lev M fin pc lv (st) h r := Sim.pure k fun C w => lv_ldc C.1 C.2.1 C.2.2.2.2.2.1 (C.2.2.2.2.1 _ hc) hd w
theorem S_ldcw {index : Nat} (v : Int32) (hc : Cond.constant M.1.cls index v ∈ Tb) (hd : decode M.2.1 pc = .ok (.ldc_w index, 3)) (k : Sim l G lev M fin (pc + 3) lv (.int v :: st) h r) : Sim l G lev M fin pc lv (st) h r := Sim.pure k fun C w => lv_ldcw C.1 C.2.1 C.2.2.2.2.2.1 (C.2.2.2.2.1 _ hc) hd w
theorem S_ldc2 {index : Nat} (v : Int64) (hc : Cond.constantLong M.1.cls index v ∈ Tb) (hd : decode M.2.1 pc = .ok (.ldc2_w index, 3)) (k : Sim l G lev M fin (pc + 3) lv (.long v :: st) h r) : Sim l G lev M fin pc lv (st) h r := Sim.pure k fun C w => lv_ldc2 C.1 C.2.1 C.2.2.2.2.2.1 (C.2.2.2.2.1 _ hc) hd w
theorem S_dup {va : Value} (hd : decode M.2.1 pc = .ok (.dup, 1)) (hc : va.category = 1) (k : Sim l G lev M fin (pc + 1) lv (va :: va :: st) h r) : Sim l G lev M fin pc lv (va :: st) h r := Sim.pure k fun C w => lv_dup C.1 C.2.1 hd ((sh_cat G va).trans hc) w
theorem S_pop {va : Value} (hd : decode M.2.1 pc = .ok (.pop, 1)) (hc : va.category = 1) (k : Sim l G lev M fin (pc + 1) lv (st) h r) : Sim l G lev M fin pc lv (va :: st) h r := Sim.pure k fun C w => lv_pop C.1 C.2.1 hd ((sh_cat G va).trans hc) w
theorem S_dup2 {va vb : Value} (hd : decode M.2.1 pc = .ok (.dup2, 1)) (hc : va.category = 1) (hc2 : vb.category = 1) (k : Sim l G lev M fin (pc + 1) lv (va :: vb :: va :: vb :: st) h r) : Sim l G lev M fin pc lv (va :: vb :: st) h r := Sim.pure k fun C w => lv_dup2_11 C.1 C.2.1 hd ((sh_cat G va).trans hc) ((sh_cat G vb).trans hc2) w
theorem S_goto {off : Int} (tgt : Nat) (hd : decode M.2.1 pc = .ok (.goto off, 3)) (ht : (pc : Int) + off = (tgt : Int)) (k : Sim l G lev M fin tgt lv (st) h r) : Sim l G lev M fin pc lv (st) h r := Sim.pure k fun C w => lv_goto C.1 C.2.1 hd ht w
theorem S_iload_n {n : Fin 4} {i : Nat} {x : Int32} (kk : Nat) (hd : decode M.2.1 pc = .ok (.iload_n n, 1)) (hi : (n : Nat) = i) (hl : lv[kk]? = some (i, .int x)) (k : Sim l G lev M fin (pc + 1) lv (.int x :: st) h r) : Sim l G lev M fin pc lv (st) h r := Sim.pure k fun C w => lv_iload_n C.1 C.2.1 hd hi (lv_get C.2.2.2.2.2.2.2.2.2.2.2.2.1 kk hl) w
theorem S_iload {i : Nat} {x : Int32} (kk : Nat) (hd : decode M.2.1 pc = .ok (.iload i, 2)) (hl : lv[kk]? = some (i, .int x)) (k : Sim l G lev M fin (pc + 2) lv (.int x :: st) h r) : Sim l G lev M fin pc lv (st) h r := Sim.pure k fun C w => lv_iload C.1 C.2.1 hd (lv_get C.2.2.2.2.2.2.2.2.2.2.2.2.1 kk hl) w
theorem S_lload_n {n : Fin 4} {i : Nat} {x : Int64} (kk : Nat) (hd : decode M.2.1 pc = .ok (.lload_n n, 1)) (hi : (n : Nat) = i) (hl : lv[kk]? = some (i, .long x)) (k : Sim l G lev M fin (pc + 1) lv (.long x :: st) h r) : Sim l G lev M fin pc lv (st) h r := Sim.pure k fun C w => lv_lload_n C.1 C.2.1 hd hi (lv_get C.2.2.2.2.2.2.2.2.2.2.2.2.1 kk hl) w
theorem S_lload {i : Nat} {x : Int64} (kk : Nat) (hd : decode M.2.1 pc = .ok (.lload i, 2)) (hl : lv[kk]? = some (i, .long x)) (k : Sim l G lev M fin (pc + 2) lv (.long x :: st) h r) : Sim l G lev M fin pc lv (st) h r := Sim.pure k fun C w => lv_lload C.1 C.2.1 hd (lv_get C.2.2.2.2.2.2.2.2.2.2.2.2.1 kk hl) w
theorem S_dload_n {n : Fin 4} {i : Nat} {x : UInt64} (kk : Nat) (hd : decode M.2.1 pc = .ok (.dload_n n, 1)) (hi : (n : Nat) = i) (hl : lv[kk]? = some (i, .double x)) (k : Sim l G lev M fin (pc + 1) lv (.double x :: st) h r) : Sim l G lev M fin pc lv (st) h r := Sim.pure k fun C w => lv_dload_n C.1 C.2.1 hd hi (lv_get C.2.2.2.2.2.2.2.2.2.2.2.2.1 kk hl) w
theorem S_dload {i : Nat} {x : UInt64} (kk : Nat) (hd : decode M.2.1 pc = .ok (.dload i, 2)) (hl : lv[kk]? = some (i, .double x)) (k : Sim l G lev M fin (pc + 2) lv (.double x :: st) h r) : Sim l G lev M fin pc lv (st) h r := Sim.pure k fun C w => lv_dload C.1 C.2.1 hd (lv_get C.2.2.2.2.2.2.2.2.2.2.2.2.1 kk hl) w
theorem S_aload_n {n : Fin 4} {i a : Nat} (kk : Nat) (hd : decode M.2.1 pc = .ok (.aload_n n, 1)) (hi : (n : Nat) = i) (hl : lv[kk]? = some (i, .ref a)) (k : Sim l G lev M fin (pc + 1) lv (.ref a :: st) h r) : Sim l G lev M fin pc lv (st) h r := Sim.pure k fun C w => lv_aload_n C.1 C.2.1 hd hi (lv_get C.2.2.2.2.2.2.2.2.2.2.2.2.1 kk hl) w
theorem S_aload {i a : Nat} (kk : Nat) (hd : decode M.2.1 pc = .ok (.aload i, 2)) (hl : lv[kk]? = some (i, .ref a)) (k : Sim l G lev M fin (pc + 2) lv (.ref a :: st) h r) : Sim l G lev M fin pc lv (st) h r := Sim.pure k fun C w => lv_aload C.1 C.2.1 hd (lv_get C.2.2.2.2.2.2.2.2.2.2.2.2.1 kk hl) w
theorem S_sload_n {n : Fin 4} {i j : Nat} (kk : Nat) (hd : decode M.2.1 pc = .ok (.aload_n n, 1)) (hi : (n : Nat) = i) (hl : lv[kk]? = some (i, .retAddr j)) (k : Sim l G lev M fin (pc + 1) lv (.retAddr j :: st) h r) : Sim l G lev M fin pc lv (st) h r := Sim.pure k fun C w => lv_aload_n C.1 C.2.1 hd hi (lv_get C.2.2.2.2.2.2.2.2.2.2.2.2.1 kk hl) w
theorem S_qload_n {n : Fin 4} {i : Nat} {q : Option Nat} (kk : Nat) (hd : decode M.2.1 pc = .ok (.aload_n n, 1)) (hi : (n : Nat) = i) (hl : lv[kk]? = some (i, va_rf q)) (k : Sim l G lev M fin (pc + 1) lv (va_rf q :: st) h r) : Sim l G lev M fin pc lv st h r := by
  cases q with
  | none => exact Sim.pure k fun C w => lv_aload_nN C.1 C.2.1 hd hi (lv_get C.2.2.2.2.2.2.2.2.2.2.2.2.1 kk hl) w
  | some a => exact Sim.pure k fun C w => lv_aload_n C.1 C.2.1 hd hi (lv_get C.2.2.2.2.2.2.2.2.2.2.2.2.1 kk hl) w
theorem S_qload {i : Nat} {q : Option Nat} (kk : Nat) (hd : decode M.2.1 pc = .ok (.aload i, 2)) (hl : lv[kk]? = some (i, va_rf q)) (k : Sim l G lev M fin (pc + 2) lv (va_rf q :: st) h r) : Sim l G lev M fin pc lv st h r := by
  cases q with
  | none => exact Sim.pure k fun C w => lv_aloadN C.1 C.2.1 hd (lv_get C.2.2.2.2.2.2.2.2.2.2.2.2.1 kk hl) w
  | some a => exact Sim.pure k fun C w => lv_aload C.1 C.2.1 hd (lv_get C.2.2.2.2.2.2.2.2.2.2.2.2.1 kk hl) w
theorem S_istore_n {n : Fin 4} {i : Nat} {x : Int32} (lv' : List (Nat × Value)) (hd : decode M.2.1 pc = .ok (.istore_n n, 1)) (hi : (n : Nat) = i) (hn : i < M.2.2.1) (hl : (i, Value.int x) :: lv.filter (fun q => !(q.1 == i) && !(q.1 + 1 == i && q.2.category == 2)) = lv') (k : Sim l G lev M fin (pc + 1) lv' st h r) : Sim l G lev M fin pc lv (.int x :: st) h r := Sim.loc k fun a1 a2 hv w => lv_istore_n a1 a2 hd hi hv hn (lv_sto1 hl) w
theorem S_istore {i : Nat} {x : Int32} (lv' : List (Nat × Value)) (hd : decode M.2.1 pc = .ok (.istore i, 2)) (hn : i < M.2.2.1) (hl : (i, Value.int x) :: lv.filter (fun q => !(q.1 == i) && !(q.1 + 1 == i && q.2.category == 2)) = lv') (k : Sim l G lev M fin (pc + 2) lv' st h r) : Sim l G lev M fin pc lv (.int x :: st) h r := Sim.loc k fun a1 a2 hv w => lv_istore a1 a2 hd hv hn (lv_sto1 hl) w
theorem S_lstore_n {n : Fin 4} {i : Nat} {x : Int64} (lv' : List (Nat × Value)) (hd : decode M.2.1 pc = .ok (.lstore_n n, 1)) (hi : (n : Nat) = i) (hn : i + 1 < M.2.2.1) (hl : (i, Value.long x) :: lv.filter (fun q => !(q.1 == i) && (!(q.1 == i + 1) && !(q.1 + 1 == i && q.2.category == 2))) = lv') (k : Sim l G lev M fin (pc + 1) lv' st h r) : Sim l G lev M fin pc lv (.long x :: st) h r := Sim.loc k fun a1 a2 hv w => lv_lstore_n a1 a2 hd hi hv hn (lv_sto2 hl) w
theorem S_lstore {i : Nat} {x : Int64} (lv' : List (Nat × Value)) (hd : decode M.2.1 pc = .ok (.lstore i, 2)) (hn : i + 1 < M.2.2.1) (hl : (i, Value.long x) :: lv.filter (fun q => !(q.1 == i) && (!(q.1 == i + 1) && !(q.1 + 1 == i && q.2.category == 2))) = lv') (k : Sim l G lev M fin (pc + 2) lv' st h r) : Sim l G lev M fin pc lv (.long x :: st) h r := Sim.loc k fun a1 a2 hv w => lv_lstore a1 a2 hd hv hn (lv_sto2 hl) w
theorem S_dstore_n {n : Fin 4} {i : Nat} {x : UInt64} (lv' : List (Nat × Value)) (hd : decode M.2.1 pc = .ok (.dstore_n n, 1)) (hi : (n : Nat) = i) (hn : i + 1 < M.2.2.1) (hl : (i, Value.double x) :: lv.filter (fun q => !(q.1 == i) && (!(q.1 == i + 1) && !(q.1 + 1 == i && q.2.category == 2))) = lv') (k : Sim l G lev M fin (pc + 1) lv' st h r) : Sim l G lev M fin pc lv (.double x :: st) h r := Sim.loc k fun a1 a2 hv w => lv_dstore_n a1 a2 hd hi hv hn (lv_sto2 hl) w
theorem S_dstore {i : Nat} {x : UInt64} (lv' : List (Nat × Value)) (hd : decode M.2.1 pc = .ok (.dstore i, 2)) (hn : i + 1 < M.2.2.1) (hl : (i, Value.double x) :: lv.filter (fun q => !(q.1 == i) && (!(q.1 == i + 1) && !(q.1 + 1 == i && q.2.category == 2))) = lv') (k : Sim l G lev M fin (pc + 2) lv' st h r) : Sim l G lev M fin pc lv (.double x :: st) h r := Sim.loc k fun a1 a2 hv w => lv_dstore a1 a2 hd hv hn (lv_sto2 hl) w
theorem S_astore_n {n : Fin 4} {i a : Nat} (lv' : List (Nat × Value)) (hd : decode M.2.1 pc = .ok (.astore_n n, 1)) (hi : (n : Nat) = i) (hn : i < M.2.2.1) (hl : (i, Value.ref a) :: lv.filter (fun q => !(q.1 == i) && !(q.1 + 1 == i && q.2.category == 2)) = lv') (k : Sim l G lev M fin (pc + 1) lv' st h r) : Sim l G lev M fin pc lv (.ref a :: st) h r := Sim.loc k fun a1 a2 hv w => lv_astore_n a1 a2 hd hi hv hn (lv_sto1 hl) w
theorem S_astore {i a : Nat} (lv' : List (Nat × Value)) (hd : decode M.2.1 pc = .ok (.astore i, 2)) (hn : i < M.2.2.1) (hl : (i, Value.ref a) :: lv.filter (fun q => !(q.1 == i) && !(q.1 + 1 == i && q.2.category == 2)) = lv') (k : Sim l G lev M fin (pc + 2) lv' st h r) : Sim l G lev M fin pc lv (.ref a :: st) h r := Sim.loc k fun a1 a2 hv w => lv_astore a1 a2 hd hv hn (lv_sto1 hl) w
theorem S_qstore_n {n : Fin 4} {i : Nat} {q : Option Nat} (lv' : List (Nat × Value)) (hd : decode M.2.1 pc = .ok (.astore_n n, 1)) (hi : (n : Nat) = i) (hn : i < M.2.2.1) (hl : (i, va_rf q) :: lv.filter (fun q => !(q.1 == i) && !(q.1 + 1 == i && q.2.category == 2)) = lv') (k : Sim l G lev M fin (pc + 1) lv' st h r) : Sim l G lev M fin pc lv (va_rf q :: st) h r := by
  cases q with
  | none => exact Sim.loc k fun a1 a2 hv w => lv_astore_nN a1 a2 hd hi hv hn (lv_sto1 hl) w
  | some a => exact Sim.loc k fun a1 a2 hv w => lv_astore_n a1 a2 hd hi hv hn (lv_sto1 hl) w
theorem S_qstore {i : Nat} {q : Option Nat} (lv' : List (Nat × Value)) (hd : decode M.2.1 pc = .ok (.astore i, 2)) (hn : i < M.2.2.1) (hl : (i, va_rf q) :: lv.filter (fun q => !(q.1 == i) && !(q.1 + 1 == i && q.2.category == 2)) = lv') (k : Sim l G lev M fin (pc + 2) lv' st h r) : Sim l G lev M fin pc lv (va_rf q :: st) h r := by
  cases q with
  | none => exact Sim.loc k fun a1 a2 hv w => lv_astoreN a1 a2 hd hv hn (lv_sto1 hl) w
  | some a => exact Sim.loc k fun a1 a2 hv w => lv_astore a1 a2 hd hv hn (lv_sto1 hl) w
theorem S_iinc {i : Nat} {n : Int} {x : Int32} (kk : Nat) (v : Int32) (lv' : List (Nat × Value)) (hd : decode M.2.1 pc = .ok (.iinc i n, 3)) (hk : lv[kk]? = some (i, .int x)) (hv : x + Int32.ofInt n = v) (hn : i < M.2.2.1) (hl : (i, Value.int v) :: lv.filter (fun q => !(q.1 == i) && !(q.1 + 1 == i && q.2.category == 2)) = lv') (k : Sim l G lev M fin (pc + 3) lv' st h r) : Sim l G lev M fin pc lv st h r := Sim.loc k fun a1 a2 hh w => lv_iinc (k := kk) a1 a2 hd hh (by rw [List.getElem?_map, hk]; rfl) hv hn (lv_sto1 hl) w
theorem S_if_eq {x : Int32} {off : Int} (tgt : Nat) {r1 r2 : Option ρ} (hd : decode M.2.1 pc = .ok (.ifCond .eq off, 3)) (ht : (pc : Int) + off = (tgt : Int)) (kt : x = 0 → Sim l G lev M fin tgt lv st h r1) (kf : ¬ (x = 0) → Sim l G lev M fin (pc + 3) lv st h r2) : Sim l G lev M fin pc lv (.int x :: st) h (if x = 0 then r1 else r2) := Sim.br kt kf fun a1 a2 wt wf => lv_if_eq a1 a2 hd ht wt wf
theorem S_if_ne {x : Int32} {off : Int} (tgt : Nat) {r1 r2 : Option ρ} (hd : decode M.2.1 pc = .ok (.ifCond .ne off, 3)) (ht : (pc : Int) + off = (tgt : Int)) (kt : ¬ x = 0 → Sim l G lev M fin tgt lv st h r1) (kf : x = 0 → Sim l G lev M fin (pc + 3) lv st h r2) : Sim l G lev M fin pc lv (.int x :: st) h (if x = 0 then r2 else r1) := Sim.br kf kt fun a1 a2 wf wt => lv_if_ne a1 a2 hd ht wt wf
theorem S_if_lt {x : Int32} {off : Int} (tgt : Nat) {r1 r2 : Option ρ} (hd : decode M.2.1 pc = .ok (.ifCond .lt off, 3)) (ht : (pc : Int) + off = (tgt : Int)) (kt : x < 0 → Sim l G lev M fin tgt lv st h r1) (kf : ¬ (x < 0) → Sim l G lev M fin (pc + 3) lv st h r2) : Sim l G lev M fin pc lv (.int x :: st) h (if x < 0 then r1 else r2) := Sim.br kt kf fun a1 a2 wt wf => lv_if_lt a1 a2 hd ht wt wf
theorem S_if_ge {x : Int32} {off : Int} (tgt : Nat) {r1 r2 : Option ρ} (hd : decode M.2.1 pc = .ok (.ifCond .ge off, 3)) (ht : (pc : Int) + off = (tgt : Int)) (kt : 0 ≤ x → Sim l G lev M fin tgt lv st h r1) (kf : ¬ (0 ≤ x) → Sim l G lev M fin (pc + 3) lv st h r2) : Sim l G lev M fin pc lv (.int x :: st) h (if 0 ≤ x then r1 else r2) := Sim.br kt kf fun a1 a2 wt wf => lv_if_ge a1 a2 hd ht wt wf
theorem S_if_gt {x : Int32} {off : Int} (tgt : Nat) {r1 r2 : Option ρ} (hd : decode M.2.1 pc = .ok (.ifCond .gt off, 3)) (ht : (pc : Int) + off = (tgt : Int)) (kt : 0 < x → Sim l G lev M fin tgt lv st h r1) (kf : ¬ (0 < x) → Sim l G lev M fin (pc + 3) lv st h r2) : Sim l G lev M fin pc lv (.int x :: st) h (if 0 < x then r1 else r2) := Sim.br kt kf fun a1 a2 wt wf => lv_if_gt a1 a2 hd ht wt wf
theorem S_if_le {x : Int32} {off : Int} (tgt : Nat) {r1 r2 : Option ρ} (hd : decode M.2.1 pc = .ok (.ifCond .le off, 3)) (ht : (pc : Int) + off = (tgt : Int)) (kt : x ≤ 0 → Sim l G lev M fin tgt lv st h r1) (kf : ¬ (x ≤ 0) → Sim l G lev M fin (pc + 3) lv st h r2) : Sim l G lev M fin pc lv (.int x :: st) h (if x ≤ 0 then r1 else r2) := Sim.br kt kf fun a1 a2 wt wf => lv_if_le a1 a2 hd ht wt wf
theorem S_icmp_eq {x y : Int32} {off : Int} (tgt : Nat) {r1 r2 : Option ρ} (hd : decode M.2.1 pc = .ok (.if_icmp .eq off, 3)) (ht : (pc : Int) + off = (tgt : Int)) (kt : x = y → Sim l G lev M fin tgt lv st h r1) (kf : ¬ (x = y) → Sim l G lev M fin (pc + 3) lv st h r2) : Sim l G lev M fin pc lv (.int y :: .int x :: st) h (if x = y then r1 else r2) := Sim.br kt kf fun a1 a2 wt wf => lv_icmp_eq a1 a2 hd ht wt wf
theorem S_icmp_ne {x y : Int32} {off : Int} (tgt : Nat) {r1 r2 : Option ρ} (hd : decode M.2.1 pc = .ok (.if_icmp .ne off, 3)) (ht : (pc : Int) + off = (tgt : Int)) (kt : ¬ x = y → Sim l G lev M fin tgt lv st h r1) (kf : x = y → Sim l G lev M fin (pc + 3) lv st h r2) : Sim l G lev M fin pc lv (.int y :: .int x :: st) h (if x = y then r2 else r1) := Sim.br kf kt fun a1 a2 wf wt => lv_icmp_ne a1 a2 hd ht wt wf
theorem S_icmp_lt {x y : Int32} {off : Int} (tgt : Nat) {r1 r2 : Option ρ} (hd : decode M.2.1 pc = .ok (.if_icmp .lt off, 3)) (ht : (pc : Int) + off = (tgt : Int)) (kt : x < y → Sim l G lev M fin tgt lv st h r1) (kf : ¬ (x < y) → Sim l G lev M fin (pc + 3) lv st h r2) : Sim l G lev M fin pc lv (.int y :: .int x :: st) h (if x < y then r1 else r2) := Sim.br kt kf fun a1 a2 wt wf => lv_icmp_lt a1 a2 hd ht wt wf
theorem S_icmp_ge {x y : Int32} {off : Int} (tgt : Nat) {r1 r2 : Option ρ} (hd : decode M.2.1 pc = .ok (.if_icmp .ge off, 3)) (ht : (pc : Int) + off = (tgt : Int)) (kt : y ≤ x → Sim l G lev M fin tgt lv st h r1) (kf : ¬ (y ≤ x) → Sim l G lev M fin (pc + 3) lv st h r2) : Sim l G lev M fin pc lv (.int y :: .int x :: st) h (if y ≤ x then r1 else r2) := Sim.br kt kf fun a1 a2 wt wf => lv_icmp_ge a1 a2 hd ht wt wf
theorem S_icmp_gt {x y : Int32} {off : Int} (tgt : Nat) {r1 r2 : Option ρ} (hd : decode M.2.1 pc = .ok (.if_icmp .gt off, 3)) (ht : (pc : Int) + off = (tgt : Int)) (kt : y < x → Sim l G lev M fin tgt lv st h r1) (kf : ¬ (y < x) → Sim l G lev M fin (pc + 3) lv st h r2) : Sim l G lev M fin pc lv (.int y :: .int x :: st) h (if y < x then r1 else r2) := Sim.br kt kf fun a1 a2 wt wf => lv_icmp_gt a1 a2 hd ht wt wf
theorem S_icmp_le {x y : Int32} {off : Int} (tgt : Nat) {r1 r2 : Option ρ} (hd : decode M.2.1 pc = .ok (.if_icmp .le off, 3)) (ht : (pc : Int) + off = (tgt : Int)) (kt : x ≤ y → Sim l G lev M fin tgt lv st h r1) (kf : ¬ (x ≤ y) → Sim l G lev M fin (pc + 3) lv st h r2) : Sim l G lev M fin pc lv (.int y :: .int x :: st) h (if x ≤ y then r1 else r2) := Sim.br kt kf fun a1 a2 wt wf => lv_icmp_le a1 a2 hd ht wt wf
end BASE
