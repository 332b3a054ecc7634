/-! String.length and String.charAt of the string constants -/
abbrev M_J0_length : Mt := (yJ0_length_8abf5, cJ0_length_8abf5, 1, (some .int), [])
theorem K_J0_length : KM M_J0_length 0 := ⟨tb_of (i := 587) (by decide +kernel) rfl, tb_of (i := 94) (by decide +kernel) rfl, ⟨by decide, by decide, by decide +kernel⟩, by decide, by decide, rfl⟩
abbrev M_J0_coder : Mt := (yJ0_coder_7d493, cJ0_coder_7d493, 1, (some .byte), [])
theorem K_J0_coder : KM M_J0_coder 0 := ⟨tb_of (i := 591) (by decide +kernel) rfl, tb_of (i := 94) (by decide +kernel) rfl, ⟨by decide, by decide, by decide +kernel⟩, by decide, by decide, rfl⟩
abbrev M_J0_charAt : Mt := (yJ0_charAt_5068e, cJ0_charAt_5068e, 2, (some .char), [])
theorem K_J0_charAt : KM M_J0_charAt 1 := ⟨tb_of (i := 597) (by decide +kernel) rfl, tb_of (i := 94) (by decide +kernel) rfl, ⟨by decide, by decide, by decide +kernel⟩, by decide, by decide, rfl⟩
abbrev M_J0_isLatin1 : Mt := (yJ0_isLatin1_aae02, cJ0_isLatin1_aae02, 1, (some .boolean), [])
theorem K_J0_isLatin1 : KM M_J0_isLatin1 0 := ⟨tb_of (i := 601) (by decide +kernel) rfl, tb_of (i := 94) (by decide +kernel) rfl, ⟨by decide, by decide, by decide +kernel⟩, by decide, by decide, rfl⟩
abbrev M_J0_checkIndex : Mt := (yJ0_checkIndex_df160, cJ0_checkIndex_df160, 2, none, [])
theorem K_J0_checkIndex : KM M_J0_checkIndex 2 := ⟨tb_of (i := 607) (by decide +kernel) rfl, tb_of (i := 94) (by decide +kernel) rfl, ⟨by decide, by decide, by decide +kernel⟩, by decide, by decide, rfl⟩
abbrev M_J1_charAt : Mt := (yJ1_charAt_3b067, cJ1_charAt_3b067, 2, (some .char), [])
theorem K_J1_charAt : KM M_J1_charAt 2 := ⟨tb_of (i := 604) (by decide +kernel) rfl, tb_of (i := 95) (by decide +kernel) rfl, ⟨by decide, by decide, by decide +kernel⟩, by decide, by decide, rfl⟩
abbrev M_J3_checkIndex : Mt := (yJ3_checkIndex_8e157, cJ3_checkIndex_8e157, 3, (some .int), [])
theorem K_J3_checkIndex : KM M_J3_checkIndex 3 := ⟨tb_of (i := 612) (by decide +kernel) rfl, tb_of (i := 96) (by decide +kernel) rfl, ⟨by decide, by decide, by decide +kernel⟩, by decide, by decide, rfl⟩
theorem ks_len_val : Cond.fieldLink "java/lang/String" 9 "java/lang/String" "value" "[B" ∈ Tb := tb_of (i := 1470) (by decide +kernel) rfl
theorem ks_coder_f : Cond.fieldLink "java/lang/String" 15 "java/lang/String" "coder" "B" ∈ Tb := tb_of (i := 1471) (by decide +kernel) rfl
theorem ks_compact : Cond.fieldLink "java/lang/String" 38 "java/lang/String" "COMPACT_STRINGS" "Z" ∈ Tb := tb_of (i := 592) (by decide +kernel) rfl
theorem ks_fmt : Cond.fieldLink "java/lang/String" 1053 "jdk/internal/util/Preconditions" "SIOOBE_FORMATTER" "Ljava/util/function/BiFunction;" ∈ Tb := tb_of (i := 608) (by decide +kernel) rfl
theorem ks_coder_l : Cond.methodLink "java/lang/String" 335 ⟨"java/lang/String", "coder", "()B"⟩ ∈ Tb := tb_of (i := 588) (by decide +kernel) rfl
theorem ks_lat_l : Cond.methodLink "java/lang/String" 492 ⟨"java/lang/String", "isLatin1", "()Z"⟩ ∈ Tb := tb_of (i := 598) (by decide +kernel) rfl
theorem ks_lat1_l : Cond.methodLink "java/lang/String" 495 ⟨"java/lang/StringLatin1", "charAt", "([BI)C"⟩ ∈ Tb := tb_of (i := 602) (by decide +kernel) rfl
theorem ks_ck_l : Cond.methodLink "java/lang/StringLatin1" 9 ⟨"java/lang/String", "checkIndex", "(II)V"⟩ ∈ Tb := tb_of (i := 605) (by decide +kernel) rfl
theorem ks_pre_l : Cond.methodLink "java/lang/String" 1059 ⟨"jdk/internal/util/Preconditions", "checkIndex", "(IILjava/util/function/BiFunction;)I"⟩ ∈ Tb := tb_of (i := 610) (by decide +kernel) rfl
theorem ks_coder_i : Cond.instanceMethod ⟨"java/lang/String", "coder", "()B"⟩ ∈ Tb := tb_of (i := 589) (by decide +kernel) rfl
theorem ks_coder_s : Cond.selects "java/lang/String" ⟨"java/lang/String", "coder", "()B"⟩ ⟨"java/lang/String", "coder", "()B"⟩ ∈ Tb := tb_of (i := 590) (by decide +kernel) rfl
theorem ks_lat_i : Cond.instanceMethod ⟨"java/lang/String", "isLatin1", "()Z"⟩ ∈ Tb := tb_of (i := 599) (by decide +kernel) rfl
theorem ks_lat_s : Cond.selects "java/lang/String" ⟨"java/lang/String", "isLatin1", "()Z"⟩ ⟨"java/lang/String", "isLatin1", "()Z"⟩ ∈ Tb := tb_of (i := 600) (by decide +kernel) rfl
theorem ks_len_i : Cond.instanceMethod ⟨"java/lang/String", "length", "()I"⟩ ∈ Tb := tb_of (i := 585) (by decide +kernel) rfl
theorem ks_len_s : Cond.selects "java/lang/String" ⟨"java/lang/String", "length", "()I"⟩ ⟨"java/lang/String", "length", "()I"⟩ ∈ Tb := tb_of (i := 586) (by decide +kernel) rfl
theorem ks_chr_i : Cond.instanceMethod ⟨"java/lang/String", "charAt", "(I)C"⟩ ∈ Tb := tb_of (i := 595) (by decide +kernel) rfl
theorem ks_chr_s : Cond.selects "java/lang/String" ⟨"java/lang/String", "charAt", "(I)C"⟩ ⟨"java/lang/String", "charAt", "(I)C"⟩ ∈ Tb := tb_of (i := 596) (by decide +kernel) rfl
theorem ks_ck_st : Cond.static ⟨"java/lang/String", "checkIndex", "(II)V"⟩ ∈ Tb := tb_of (i := 606) (by decide +kernel) rfl
theorem ks_pre_st : Cond.static ⟨"jdk/internal/util/Preconditions", "checkIndex", "(IILjava/util/function/BiFunction;)I"⟩ ∈ Tb := tb_of (i := 611) (by decide +kernel) rfl
theorem ks_lat1_st : Cond.static ⟨"java/lang/StringLatin1", "charAt", "([BI)C"⟩ ∈ Tb := tb_of (i := 603) (by decide +kernel) rfl
theorem sb_len : ∀ j, j < 6 → ((List.range 6).map (fun j => (strB j).length)).getD j 0 = (strB j).length := by decide +kernel
theorem sb_byt : ∀ j, j < 6 → ((List.range 6).map strB).getD j [] = strB j := by decide +kernel
theorem sb_ok : ∀ j, j < 6 → ∀ k, k < (strB j).length → ((((strB j).getD k 0) &&& 255).toUInt32 % 65536).toInt32 = (strB j).getD k 0 ∧ narrow .char (.int ((strB j).getD k 0)) = .int ((strB j).getD k 0) := by decide +kernel
theorem sb_small : ∀ j, j < 6 → (strB j).length < 2 ^ 31 := by decide +kernel
section STRS
variable {l : Launch} {G : Gx} {lev : Nat} {M : Mt} {ρ : Type} {fin : ρ → Oc × Hp} {pc : Nat} {lv : List (Nat × Value)} {st : List Value} {h : Hp} {r : Option ρ} {j : Nat}
theorem S_strVal (hj : j < 6) (hl : Cond.fieldLink M.1.cls 9 "java/lang/String" "value" "[B" ∈ Tb) (hd : decode M.2.1 pc = .ok (.getfield 9, 3)) (k : Sim l G lev M fin (pc + 3) lv (.retAddr (1000 + j) :: st) h r) : Sim l G lev M fin pc lv (.retAddr j :: st) h r := by
  refine Sim.pure k fun {p e R s m args below meth c H locs cells slots ls Q} C w => ?_
  obtain ⟨a1, a2, a3, a4, a5, a6, a7, a8, a9, a10, a11, a12, a13, a14, a15, a16⟩ := C
  exact vk_getf a1 a2 (a10.2.1.1.1 j hj).2.2.1 a12 a6 (a5 _ hl) (fun _ h9 => h9) hd w
theorem S_strCod (hj : j < 6) (hl : Cond.fieldLink M.1.cls 15 "java/lang/String" "coder" "B" ∈ Tb) (hd : decode M.2.1 pc = .ok (.getfield 15, 3)) (k : Sim l G lev M fin (pc + 3) lv (.int 0 :: st) h r) : Sim l G lev M fin pc lv (.retAddr j :: st) h r := by
  refine Sim.pure k fun {p e R s m args below meth c H locs cells slots ls Q} C w => ?_
  obtain ⟨a1, a2, a3, a4, a5, a6, a7, a8, a9, a10, a11, a12, a13, a14, a15, a16⟩ := C
  exact vk_getf a1 a2 (a10.2.1.1.1 j hj).2.1 a12 a6 (a5 _ hl) (fun _ h9 => h9) hd w
theorem S_strLn (hj : j < 6) (hd : decode M.2.1 pc = .ok (.arraylength, 1)) (k : Sim l G lev M fin (pc + 1) lv (.int (Int32.ofNat (strB j).length) :: st) h r) : Sim l G lev M fin pc lv (.retAddr (1000 + j) :: st) h r := by
  refine Sim.pure k fun {p e R s m args below meth c H locs cells slots ls Q} C w => ?_
  obtain ⟨a1, a2, a3, a4, a5, a6, a7, a8, a9, a10, a11, a12, a13, a14, a15, a16⟩ := C
  exact va_tlen a1 a2 (a10.2.1.1.1 j hj).2.2.2 a12 (by rw [sb_len j hj]) hd w
theorem S_strBt {i : Int32} (hj : j < 6) (hi : vp_in i (strB j).length) (hd : decode M.2.1 pc = .ok (.baload, 1)) (k : Sim l G lev M fin (pc + 1) lv (.int ((strB j).getD i.toNatClampNeg 0) :: st) h r) : Sim l G lev M fin pc lv (.int i :: .retAddr (1000 + j) :: st) h r := by
  refine Sim.pure k fun {p e R s m args below meth c H locs cells slots ls Q} C w => ?_
  obtain ⟨a1, a2, a3, a4, a5, a6, a7, a8, a9, a10, a11, a12, a13, a14, a15, a16⟩ := C
  exact va_tb a1 a2 (a10.2.1.1.1 j hj).2.2.2 a12 (by rw [sb_len j hj]; exact hi) (by rw [sb_byt j hj]; rfl) hd w
theorem S_compact (hl : Cond.fieldLink M.1.cls 38 "java/lang/String" "COMPACT_STRINGS" "Z" ∈ Tb) (hd : decode M.2.1 pc = .ok (.getstatic 38, 3)) (k : Sim l G lev M fin (pc + 3) lv (.int 1 :: st) h r) : Sim l G lev M fin pc lv st h r := by
  refine Sim.pure k fun {p e R s m args below meth c H locs cells slots ls Q} C w => ?_
  obtain ⟨a1, a2, a3, a4, a5, a6, a7, a8, a9, a10, a11, a12, a13, a14, a15, a16⟩ := C
  exact va_gets a1 a2 a10.2.1.2.1 a12 a6 (a5 _ hl) (fun _ h9 => h9) hd w
theorem S_fmt (hl : Cond.fieldLink M.1.cls 1053 "jdk/internal/util/Preconditions" "SIOOBE_FORMATTER" "Ljava/util/function/BiFunction;" ∈ Tb) (hd : decode M.2.1 pc = .ok (.getstatic 1053, 3)) (k1 : Sim l G lev M fin (pc + 3) lv (.null :: st) h r) (k2 : Sim l G lev M fin (pc + 3) lv (.retAddr 6000 :: st) h r) : Sim l G lev M fin pc lv st h r := by
  intro v hv
  refine ⟨(k1 v hv).1, fun p e R s m args below meth c H locs cells slots ls C h1 h2 => ?_⟩
  have w1 := (k1 v hv).2 p e R s m args below meth c H locs cells slots ls C h1 h2
  have w2 := (k2 v hv).2 p e R s m args below meth c H locs cells slots ls C h1 h2
  obtain ⟨a1, a2, a3, a4, a5, a6, a7, a8, a9, a10, a11, a12, a13, a14, a15, a16⟩ := C
  rcases a10.2.1.2.2.1 with z | z
  · exact va_gets a1 a2 z a12 a6 (a5 _ hl) (fun _ h9 => h9) hd w1
  · exact va_gets a1 a2 z a12 a6 (a5 _ hl) (fun _ h9 => h9) hd w2
theorem S_i2c {x : Int32} (hd : decode M.2.1 pc = .ok (.i2c, 1)) (k : Sim l G lev M fin (pc + 1) lv (.int (x.toUInt32 % 65536).toInt32 :: st) h r) : Sim l G lev M fin pc lv (.int x :: st) h r := Sim.pure k fun C w => lv_i2c C.1 C.2.1 hd rfl w
theorem S_treturn {v : ρ} {x : Int32} {ty : FieldType} (hf : fin v = (.inl (some (.int x)), h)) (hr : M.2.2.2.1 = some ty) (hn : narrow ty (.int x) = .int x) (hd : decode M.2.1 pc = .ok (.ireturn, 1)) : Sim l G lev M fin pc lv [.int x] h (some v) :=
  Sim.end hf fun C q1 q2 => W.zret C.1 C.2.1 (C.2.2.1.trans hr) hn q1 q2 hd C.2.2.2.2.2.2.1
theorem S_callVS {lev' n index : Nat} {My : Mt} (avs st : List Value) {x : Value} (hj : j < 6) (hcls : My.1.cls = "java/lang/String") (hK : KM My n) (hl : Cond.methodLink M.1.cls index My.1 ∈ Tb) (hin : Cond.instanceMethod My.1 ∈ Tb) (hse : Cond.selects My.1.cls My.1 My.1 ∈ Tb) (hd : decode M.2.1 pc = .ok (.invokevirtual index, 3)) (hlev : lev' + 1 ≤ lev) (hn : avs.length = n) (hroom : (st.map fun v => v.category).sum ≤ 8)
    (hm : SR l G lev' My (.retAddr j :: avs) h (some x) h) (kk : Sim l G lev M fin (pc + 3) lv (x :: st) h r) : Sim l G lev M fin pc lv (avs.reverse ++ .retAddr j :: st) h r := by
  have key := Sim.call (l := l) (G := G) (lev := lev) (M := M) (fin := fin) (pc := pc) (lv := lv) (st := st) (h := h) (call := some ()) (f := fun _ => r) (fv := fun _ => (some x, h)) (st0 := avs.reverse ++ .retAddr j :: st) (fun _ _ => ⟨Nat.le_refl _, Nat.le_refl _⟩) (fun _ _ => kk) (fun {p e R s m args below meth c H locs cells slots ls} x9 hx C h1 h2 => ⟨((.retAddr j :: avs).map (sh G)).toArray, by
    have C' := C
    obtain ⟨a1, a2, a3, a4, a5, a6, a7, a8, a9, a10, a11, a12, a13, a14, a15, a16⟩ := C
    have hR := rm_ok (c := h.2.1 - h.2.1) (s := h.2.2 - h.2.2) a15 a16 hlev hK.2.2.2.1
    exact va_runV (own := M.1.cls) (C := My.1.cls) (b := G.2.2.2.1 j) (As := avs.map (sh G)) (rest := st.map (sh G)) ⟨a1, a2, a4, a6, a5⟩ hm.2 ⟨callB_of n a5 (gTb hK.1) rfl rfl rfl (a5 _ hK.2.1) (a5 _ hl) hK.2.2.1 hR, a5 _ hin, a5 _ hse⟩ ⟨PcM.blind, by rw [hcls]; exact vk_recv a10.2.1.1 hj a12, PcM.at (avs := .retAddr j :: avs) C'⟩ rfl (by rw [List.length_map]; exact hn) a13.1 (by show List.map _ _ = _; rw [List.map_append, List.map_reverse]; rfl) (lv_room (by rw [catsum]; exact hroom)) hd ⟨h1, h2⟩⟩)
  exact key
theorem sr_coder (hs : l.stackTraces = false) (hj : j < 6) (h : Hp) : SR l G 0 M_J0_coder [.retAddr j] h (some (.int 0)) h := by
  refine SR.of (fin := fun (_ : Unit) => ((.inl (some (.int 0)) : Oc), h)) (lv0 := [(0, .retAddr j)]) (r := some ()) K_J0_coder hs rfl (Nat.le_of_ble_eq_true rfl) ?_ rfl rfl
  refine S_compact ks_compact dJ0_coder_7d493_0 ?_
  refine Sim.pure (pc' := 6) (st' := []) ?_ fun C w => lv_if_eq (tgt := 13) C.1 C.2.1 dJ0_coder_7d493_3 (by decide) (fun q => absurd q (by decide)) (fun _ => w)
  refine S_sload_n 0 dJ0_coder_7d493_6 rfl rfl ?_
  refine S_strCod hj ks_coder_f dJ0_coder_7d493_7 ?_
  refine S_goto 14 dJ0_coder_7d493_10 (by decide) ?_
  exact S_treturn rfl rfl rfl dJ0_coder_7d493_14
theorem sr_latin (hs : l.stackTraces = false) (hj : j < 6) (h : Hp) : SR l G 0 M_J0_isLatin1 [.retAddr j] h (some (.int 1)) h := by
  refine SR.of (fin := fun (_ : Unit) => ((.inl (some (.int 1)) : Oc), h)) (lv0 := [(0, .retAddr j)]) (r := some ()) K_J0_isLatin1 hs rfl (Nat.le_of_ble_eq_true rfl) ?_ rfl rfl
  refine S_compact ks_compact dJ0_isLatin1_aae02_0 ?_
  refine Sim.pure (pc' := 6) (st' := []) ?_ fun C w => lv_if_eq (tgt := 17) C.1 C.2.1 dJ0_isLatin1_aae02_3 (by decide) (fun q => absurd q (by decide)) (fun _ => w)
  refine S_sload_n 0 dJ0_isLatin1_aae02_6 rfl rfl ?_
  refine S_strCod hj ks_coder_f dJ0_isLatin1_aae02_7 ?_
  refine Sim.pure (pc' := 13) (st' := []) ?_ fun C w => lv_if_ne (tgt := 17) C.1 C.2.1 dJ0_isLatin1_aae02_10 (by decide) (fun q => absurd rfl q) (fun _ => w)
  refine S_iconst 1 dJ0_isLatin1_aae02_13 (by decide) ?_
  refine S_goto 18 dJ0_isLatin1_aae02_14 (by decide) ?_
  exact S_treturn rfl rfl rfl dJ0_isLatin1_aae02_18
theorem sr_len (hs : l.stackTraces = false) (hj : j < 6) (h : Hp) : SR l G 1 M_J0_length [.retAddr j] h (some (.int (Int32.ofNat (strB j).length))) h := by
  refine SR.of (fin := fun (_ : Unit) => ((.inl (some (.int (Int32.ofNat (strB j).length))) : Oc), h)) (lv0 := [(0, .retAddr j)]) (r := some ()) K_J0_length hs rfl (Nat.le_of_ble_eq_true rfl) ?_ rfl rfl
  refine S_sload_n 0 dJ0_length_8abf5_0 rfl rfl ?_
  refine S_strVal hj ks_len_val dJ0_length_8abf5_1 ?_
  refine S_strLn hj dJ0_length_8abf5_4 ?_
  refine S_sload_n 0 dJ0_length_8abf5_5 rfl rfl ?_
  refine S_callVS (lev' := 0) (My := M_J0_coder) [] [.int (Int32.ofNat (strB j).length)] hj rfl K_J0_coder ks_coder_l ks_coder_i ks_coder_s dJ0_length_8abf5_6 (by decide) rfl (Nat.le_of_ble_eq_true rfl) (sr_coder hs hj h) ?_
  refine S_ishr dJ0_length_8abf5_9 ?_
  rw [show (Int32.ofNat (strB j).length) >>> ((0 : Int32) &&& 31) = Int32.ofNat (strB j).length from sc_shr0 (sb_small j hj)]
  exact S_ireturn rfl rfl dJ0_length_8abf5_10
def m_pre (i n : Int32) : Option Int32 := if i < 0 then none else if i < n then some i else none
theorem m_pre_some {i n x : Int32} (e : m_pre i n = some x) : ¬ i < 0 ∧ i < n ∧ x = i := by
  unfold m_pre at e
  split at e
  next => cases e
  next h1 =>
    split at e
    next h2 => cases e; exact ⟨h1, h2, rfl⟩
    next => cases e
theorem ss_pre1 (hs : l.stackTraces = false) (i n : Int32) (h : Hp) : Sim l G 0 M_J3_checkIndex (fun v : Int32 => ((.inl (some (.int v)) : Oc), h)) 0 [(0, .int i), (1, .int n)] [] h (m_pre i n) := by
  unfold m_pre
  refine S_iload_n 0 dJ3_checkIndex_8e157_0 rfl rfl ?_
  refine S_if_lt 9 dJ3_checkIndex_8e157_1 (by decide) (fun _ => S_none rfl) (fun _ => ?_)
  refine S_iload_n 0 dJ3_checkIndex_8e157_4 rfl rfl ?_
  refine S_iload_n 1 dJ3_checkIndex_8e157_5 rfl rfl ?_
  refine S_icmp_lt 16 dJ3_checkIndex_8e157_6 (by decide) (fun _ => ?_) (fun _ => S_none rfl)
  refine S_iload_n 0 dJ3_checkIndex_8e157_16 rfl rfl ?_
  exact S_ireturn rfl rfl dJ3_checkIndex_8e157_17
theorem sr_preN (hs : l.stackTraces = false) (i n : Int32) (h : Hp) : ∀ x, m_pre i n = some x → SR l G 0 M_J3_checkIndex [.int i, .int n, .null] h (some (.int x)) h := fun x e => SR.of (lv0 := [(0, .int i), (1, .int n), (2, .null)]) K_J3_checkIndex hs rfl (Nat.le_of_ble_eq_true rfl) (Sim.sub [0, 1] rfl (ss_pre1 hs i n h)) e rfl
theorem sr_preR (hs : l.stackTraces = false) (i n : Int32) (h : Hp) : ∀ x, m_pre i n = some x → SR l G 0 M_J3_checkIndex [.int i, .int n, .retAddr 6000] h (some (.int x)) h := fun x e => SR.of (lv0 := [(0, .int i), (1, .int n), (2, .retAddr 6000)]) K_J3_checkIndex hs rfl (Nat.le_of_ble_eq_true rfl) (Sim.sub [0, 1] rfl (ss_pre1 hs i n h)) e rfl
def m_ckI (i n : Int32) (h : Hp) : Option Hp := (m_pre i n).bind fun _ => some h
theorem sr_ck (hs : l.stackTraces = false) (i n : Int32) (h : Hp) : ∀ h1, m_ckI i n h = some h1 → SR l G 1 M_J0_checkIndex [.int i, .int n] h none h1 := fun h1 e => by
  refine SR.of (fin := fun v : Hp => ((.inl none : Oc), v)) (lv0 := [(0, .int i), (1, .int n)]) K_J0_checkIndex hs rfl (Nat.le_of_ble_eq_true rfl) ?_ e rfl
  unfold m_ckI
  refine S_iload_n 0 dJ0_checkIndex_df160_0 rfl rfl ?_
  refine S_iload_n 1 dJ0_checkIndex_df160_1 rfl rfl ?_
  refine S_fmt ks_fmt dJ0_checkIndex_df160_2 ?_ ?_
  · refine S_callS_IR (lev' := 0) (My := M_J3_checkIndex) [.int i, .int n, .null] [] K_J3_checkIndex ks_pre_l ks_pre_st dJ0_checkIndex_df160_5 (by decide) rfl (Nat.le_of_ble_eq_true rfl) (fun x e => sr_preN hs i n h x e) (fun x _ => ?_)
    refine S_pop dJ0_checkIndex_df160_8 rfl ?_
    exact S_return rfl rfl dJ0_checkIndex_df160_9
  · refine S_callS_IR (lev' := 0) (My := M_J3_checkIndex) [.int i, .int n, .retAddr 6000] [] K_J3_checkIndex ks_pre_l ks_pre_st dJ0_checkIndex_df160_5 (by decide) rfl (Nat.le_of_ble_eq_true rfl) (fun x e => sr_preR hs i n h x e) (fun x _ => ?_)
    refine S_pop dJ0_checkIndex_df160_8 rfl ?_
    exact S_return rfl rfl dJ0_checkIndex_df160_9
theorem sChr_in {i x : Int32} (e : sChr j i = some x) : j < 6 ∧ vp_in i (strB j).length ∧ x = (strB j).getD i.toNatClampNeg 0 ∧ m_pre i (Int32.ofNat (strB j).length) = some i := by
  unfold sChr at e
  split at e
  next hh =>
    cases e
    refine ⟨hh.1, hh.2, rfl, ?_⟩
    have h1 : ¬ i < 0 := fun q => hh.2 (Or.inl q)
    have h2 : i.toNatClampNeg < (strB j).length := Nat.not_le.mp fun q => hh.2 (Or.inr q)
    obtain ⟨k, hk, rfl⟩ := nI_of h1
    rw [nI_clamp hk] at h2
    unfold m_pre
    rw [if_neg h1, if_pos (show nI k < Int32.ofNat (strB j).length from nI_lt h2 (sb_small j hh.1))]
  next => cases e
theorem sr_chr1 (hs : l.stackTraces = false) (i : Int32) (h : Hp) : ∀ x, sChr j i = some x → SR l G 2 M_J1_charAt [.retAddr (1000 + j), .int i] h (some (.int x)) h := fun x e => by
  obtain ⟨hj, hin, rfl, hp⟩ := sChr_in e
  have hk : i.toNatClampNeg < (strB j).length := Nat.not_le.mp fun q => hin (Or.inr q)
  obtain ⟨e1, e2⟩ := sb_ok j hj _ hk
  refine SR.of (fin := fun v : Int32 => ((.inl (some (.int v)) : Oc), h)) (lv0 := [(0, .retAddr (1000 + j)), (1, .int i)]) (r := (m_ckI i (Int32.ofNat (strB j).length) h).bind fun _ => some ((strB j).getD i.toNatClampNeg 0)) K_J1_charAt hs rfl (Nat.le_of_ble_eq_true rfl) ?_ (by unfold m_ckI; rw [hp]; rfl) rfl
  refine S_iload_n 1 dJ1_charAt_3b067_0 rfl rfl ?_
  refine S_sload_n 0 dJ1_charAt_3b067_1 rfl rfl ?_
  refine S_strLn hj dJ1_charAt_3b067_2 ?_
  refine S_callS_VW (lev' := 1) (My := M_J0_checkIndex) [.int i, .int (Int32.ofNat (strB j).length)] [] K_J0_checkIndex ks_ck_l ks_ck_st dJ1_charAt_3b067_3 (by decide) rfl (Nat.le_of_ble_eq_true rfl) (fun h1 e => sr_ck hs _ _ h h1 e) (fun h1 eh => ?_)
  have eh' : h1 = h := by
    unfold m_ckI at eh
    rw [hp] at eh
    exact (Option.some.inj eh).symm
  subst eh'
  refine S_sload_n 0 dJ1_charAt_3b067_6 rfl rfl ?_
  refine S_iload_n 1 dJ1_charAt_3b067_7 rfl rfl ?_
  refine S_strBt hj hin dJ1_charAt_3b067_8 ?_
  refine S_sipush 255 dJ1_charAt_3b067_9 (by decide) ?_
  refine S_iand dJ1_charAt_3b067_12 ?_
  refine S_i2c dJ1_charAt_3b067_13 ?_
  rw [e1]
  exact S_treturn rfl rfl e2 dJ1_charAt_3b067_14
theorem sr_chr (hs : l.stackTraces = false) (i : Int32) (h : Hp) : ∀ x, sChr j i = some x → SR l G 3 M_J0_charAt [.retAddr j, .int i] h (some (.int x)) h := fun x e => by
  obtain ⟨hj, hin, hx, hp⟩ := sChr_in e
  have hk : i.toNatClampNeg < (strB j).length := Nat.not_le.mp fun q => hin (Or.inr q)
  obtain ⟨e1, e2⟩ := sb_ok j hj _ hk
  refine SR.of (fin := fun v : Int32 => ((.inl (some (.int v)) : Oc), h)) (lv0 := [(0, .retAddr j), (1, .int i)]) (r := (sChr j i).bind fun v => some v) K_J0_charAt hs rfl (Nat.le_of_ble_eq_true rfl) ?_ (by rw [e]; rfl) rfl
  refine S_sload_n 0 dJ0_charAt_5068e_0 rfl rfl ?_
  refine S_callVS (lev' := 0) (My := M_J0_isLatin1) [] [] hj rfl K_J0_isLatin1 ks_lat_l ks_lat_i ks_lat_s dJ0_charAt_5068e_1 (by decide) rfl (Nat.le_of_ble_eq_true rfl) (sr_latin hs hj h) ?_
  refine Sim.pure (pc' := 7) (st' := []) ?_ fun C w => lv_if_eq (tgt := 16) C.1 C.2.1 dJ0_charAt_5068e_4 (by decide) (fun q => absurd q (by decide)) (fun _ => w)
  refine S_sload_n 0 dJ0_charAt_5068e_7 rfl rfl ?_
  refine S_strVal hj ks_len_val dJ0_charAt_5068e_8 ?_
  refine S_iload_n 1 dJ0_charAt_5068e_11 rfl rfl ?_
  refine S_callS_IR (lev' := 2) (My := M_J1_charAt) [.retAddr (1000 + j), .int i] [] K_J1_charAt ks_lat1_l ks_lat1_st dJ0_charAt_5068e_12 (by decide) rfl (Nat.le_of_ble_eq_true rfl) (fun x e => sr_chr1 hs i h x e) (fun x ex => ?_)
  have ex' : x = (strB j).getD i.toNatClampNeg 0 := (sChr_in ex).2.2.1
  rw [ex']
  exact S_treturn rfl rfl e2 dJ0_charAt_5068e_15
theorem S_sLen {index : Nat} (st : List Value) {f : Int32 → Option ρ} (hl : Cond.methodLink M.1.cls index ⟨"java/lang/String", "length", "()I"⟩ ∈ Tb) (hs : l.stackTraces = false) (hroom : (st.map fun v => v.category).sum ≤ 8) (hlev : 8 ≤ lev) (hd : decode M.2.1 pc = .ok (.invokevirtual index, 3)) (kk : ∀ x, sLen j = some x → Sim l G lev M fin (pc + 3) lv (.int x :: st) h (f x)) : Sim l G lev M fin pc lv (.retAddr j :: st) h ((sLen j).bind f) := by
  by_cases hj : j < 6
  · have e : sLen j = some (Int32.ofNat (strB j).length) := by unfold sLen; rw [if_pos hj]
    rw [e]
    exact S_callVS (lev' := 1) (My := M_J0_length) [] st hj rfl K_J0_length hl ks_len_i ks_len_s hd (by omega) rfl hroom (sr_len hs hj h) (kk _ e)
  · have e : sLen j = none := by unfold sLen; rw [if_neg hj]
    rw [e]
    exact S_none rfl
theorem S_sChr {index : Nat} {i : Int32} (st : List Value) {f : Int32 → Option ρ} (hl : Cond.methodLink M.1.cls index ⟨"java/lang/String", "charAt", "(I)C"⟩ ∈ Tb) (hs : l.stackTraces = false) (hroom : (st.map fun v => v.category).sum ≤ 8) (hlev : 8 ≤ lev) (hd : decode M.2.1 pc = .ok (.invokevirtual index, 3)) (kk : ∀ x, sChr j i = some x → Sim l G lev M fin (pc + 3) lv (.int x :: st) h (f x)) : Sim l G lev M fin pc lv (.int i :: .retAddr j :: st) h ((sChr j i).bind f) := by
  cases e : sChr j i with
  | none => exact S_none rfl
  | some x => exact S_callVS (lev' := 3) (My := M_J0_charAt) [.int i] st (sChr_in e).1 rfl K_J0_charAt hl ks_chr_i ks_chr_s hd (by omega) rfl hroom (sr_chr hs i h x e) (kk x e)
end STRS
