/-! what the reference knows of parts: its places and answers -/
def opf (al : Nat → Nat) (p c : Nat) : Nat := mks 9 (fun v => p.testBit v && ((al (4 + v)).testBit c && !(arn al v).testBit c))
theorem opf_tb {al : Nat → Nat} {p c i : Nat} (hp : p < 512) : (opf al p c).testBit i = true ↔ p.testBit i = true ∧ (al (4 + i)).testBit c = true ∧ (arn al i).testBit c = false := by
  unfold opf
  rw [tb_mks, Bool.and_eq_true, Bool.and_eq_true, Bool.and_eq_true, decide_eq_true_eq, Bool.not_eq_true']
  exact ⟨fun ⟨_, a, b, d⟩ => ⟨a, b, d⟩, fun ⟨a, b, d⟩ => ⟨bit_lt hp a, a, b, d⟩⟩
theorem Op_opf {al : Nat → Nat} {p : Nat} (hp : p < 512) : Op p (opf al p) := ⟨hp, fun c i _ h => ((opf_tb hp).mp h).1⟩
/-- the same graph, lists and numbers of vertices and colours -/
def Sg (al al' : Nat → Nat) : Prop := ∀ k, k < 22 → k ≠ 2 → k ≠ 3 → al' k = al k
theorem Sg_nr {al al' : Nat → Nat} (h : Sg al al') : nrf al' = nrf al := funext fun v => by
  unfold nrf
  by_cases hv : v < 9
  · rw [if_pos hv, if_pos hv, h (13 + v) (by omega) (by omega) (by omega)]
  · rw [if_neg hv, if_neg hv]
theorem Sg_ls {al al' : Nat → Nat} (h : Sg al al') {v : Nat} (hv : v < 9) : al' (4 + v) = al (4 + v) := h (4 + v) (by omega) (by omega) (by omega)
theorem Sg_symm {al al' : Nat → Nat} (h : Sg al al') : Sg al' al := fun k a b c => (h k a b c).symm
theorem Sg_trans {al al' al2 : Nat → Nat} (h : Sg al al') (h2 : Sg al' al2) : Sg al al2 := fun k a b c => (h2 k a b c).trans (h k a b c)
/-- a part of free vertices that has only coloured neighbours, and a ban -/
def Cfg (al : Nat → Nat) (p bb : Nat) : Prop := Rg al ∧ Fw al ∧ p < 512 ∧ (∀ i, p.testBit i = true → i < al 0 ∧ al (22 + i) = 0) ∧ (∀ u w, p.testBit u = true → (nrf al u).testBit w = true → p.testBit w = false → al (22 + w) ≠ 0) ∧ bb ≤ al 1
def gA (al : Nat → Nat) (p bb : Nat) : An := gr (nrf al) 10 p (opf al p) bb
theorem dgt_0 {al : Nat → Nat} {p v : Nat} : dgt al p v = 0 ↔ p.testBit v = true := by
  unfold dgt
  by_cases h : p.testBit v = true
  · rw [if_pos h]
    exact ⟨fun _ => h, fun _ => rfl⟩
  · rw [if_neg h]
    refine ⟨fun e => ?_, fun e => absurd e h⟩
    by_cases h2 : al (22 + v) ≠ 0 ∧ nrf al v &&& p ≠ 0
    · rw [if_pos h2] at e
      exact absurd e h2.1
    · rw [if_neg h2] at e
      cases e
theorem dgt_on {al : Nat → Nat} {p u k : Nat} (R : Rg al) (hp : p < 512) (hu : p.testBit u = true) (hk : (nrf al u).testBit k = true) (hkp : p.testBit k = false) (h0 : al (22 + k) ≠ 0) : dgt al p k = al (22 + k) := by
  unfold dgt
  have h2 : nrf al k &&& p ≠ 0 := ne_0.mpr ⟨u, by simp only [Nat.testBit_and, sy_Rg R u k hk, hu, Bool.and_self]⟩
  rw [if_neg (by rw [hkp]; decide), if_pos ⟨h0, h2⟩]
theorem code_same {al al' : Nat → Nat} {p p' bb bb' : Nat} (c : Cfg al p bb) (c' : Cfg al' p' bb') (hs : Sg al al') (e : cod al p bb = cod al' p' bb') : p' = p ∧ bb' = bb ∧ opf al' p' = opf al p := by
  obtain ⟨R, F, hp, c1, c2, c3⟩ := c
  obtain ⟨R', F', hp', d1, d2, d3⟩ := c'
  have h0 : al' 0 = al 0 := hs 0 (by decide) (by decide) (by decide)
  have h1 : al' 1 = al 1 := hs 1 (by decide) (by decide) (by decide)
  obtain ⟨eb, ed⟩ := cod_inj F F' h0 h1 R.1 c3 (by rw [← h1]; exact d3) e
  have ep : p' = p := bit_eq fun i => by
    constructor
    · intro hi
      have hN := (d1 i hi).1
      rw [h0] at hN
      exact dgt_0.mp ((ed i hN).trans (dgt_0.mpr hi))
    · intro hi
      exact dgt_0.mp ((ed i (c1 i hi).1).symm.trans (dgt_0.mpr hi))
  subst ep
  refine ⟨rfl, eb.symm, funext fun w => bit_eq fun i => ?_⟩
  rw [opf_tb hp, opf_tb hp]
  refine and_congr_right fun hi => ?_
  have hi9 := bit_lt hp hi
  rw [Sg_ls hs hi9]
  refine and_congr_right fun _ => ?_
  have ea : (arn al' i).testBit w = true ↔ (arn al i).testBit w = true := by
    rw [arn_tb R' hi9, arn_tb R hi9, Sg_nr hs, h0]
    refine exists_congr fun k => and_congr_right fun hk => and_congr_right fun hn => ?_
    constructor
    · intro e2
      have kp : p'.testBit k = false := by
        cases hb : p'.testBit k
        · rfl
        · have := (d1 k hb).2
          omega
      have g1 := dgt_on R' hp' hi (by rw [Sg_nr hs]; exact hn) kp (by omega)
      have g2 := dgt_on R hp hi hn kp (c2 i k hi hn kp)
      have := ed k hk
      omega
    · intro e2
      have kp : p'.testBit k = false := by
        cases hb : p'.testBit k
        · rfl
        · have := (c1 k hb).2
          omega
      have g2 := dgt_on R hp hi hn kp (by omega)
      have g1 := dgt_on R' hp' hi (by rw [Sg_nr hs]; exact hn) kp (d2 i k hi (by rw [Sg_nr hs]; exact hn) kp)
      have := ed k hk
      omega
  cases hx : (arn al' i).testBit w <;> cases hy : (arn al i).testBit w
  · exact Iff.rfl
  · rw [hx, hy] at ea; exact absurd (ea.mpr rfl) (by decide)
  · rw [hx, hy] at ea; exact absurd (ea.mp rfl) (by decide)
  · exact Iff.rfl
/-- every entry of the table is open or right -/
def MK (al : Nat → Nat) (M : Nat → Int32) : Prop := ∀ al' p bb, Sg al al' → Cfg al' p bb → M (cod al' p bb) = (-1 : Int32) ∨ M (cod al' p bb) = nI (pr (gA al' p bb))
theorem MK_sg {al al' : Nat → Nat} {M : Nat → Int32} (h : MK al M) (hs : Sg al al') : MK al' M := fun al2 p bb h2 c => h al2 p bb (Sg_trans hs h2) c
theorem MK_set {al al1 : Nat → Nat} {M : Nat → Int32} {p bb : Nat} (h : MK al M) (hs : Sg al al1) (c : Cfg al1 p bb) : MK al (upd M (cod al1 p bb) (nI (pr (gA al1 p bb)))) := by
  intro al' p' bb' hs' c'
  unfold upd
  by_cases e : cod al' p' bb' = cod al1 p bb
  · rw [if_pos e]
    obtain ⟨e1, e2, e3⟩ := code_same c c' (Sg_trans (Sg_symm hs) hs') e.symm
    refine Or.inr ?_
    unfold gA
    rw [e3, e1, e2, Sg_nr (Sg_trans (Sg_symm hs) hs')]
  · rw [if_neg e]
    exact h al' p' bb' hs' c'
/-! a colour laid in thought -/
def onv (al : Nat → Nat) (v c : Nat) : Nat → Nat := fun k => if k = 22 + v then c + 1 else al k
theorem Sg_onv {al : Nat → Nat} {v c : Nat} : Sg al (onv al v c) := fun k h _ _ => if_neg (by omega)
theorem onv_on {al : Nat → Nat} {v c w : Nat} : onv al v c (22 + w) = if w = v then c + 1 else al (22 + w) := by
  unfold onv
  by_cases h : w = v
  · rw [if_pos (by omega), if_pos h]
  · rw [if_neg (by omega), if_neg h]
theorem Rg_onv {al : Nat → Nat} {v c : Nat} (R : Rg al) (hv : v < al 0) (hc : c < 3) : Rg (onv al v c) := by
  obtain ⟨r0, r1, r2, r3, r4, r5, r6, r7⟩ := R
  have k : ∀ j, j < 22 → onv al v c j = al j := fun j hj => if_neg (by omega)
  have k2 : ∀ j, 31 ≤ j → onv al v c j = al j := fun j hj => if_neg (by omega)
  refine ⟨by rw [k 0 (by omega)]; exact r0, by rw [k 1 (by omega)]; exact r1, by rw [k 2 (by omega)]; exact r2, by rw [k 3 (by omega)]; exact r3, fun u hu => ?_, fun u w hu => ?_, fun u hu => ?_, fun u hu => ?_⟩
  · rw [k (4 + u) (by omega), k (13 + u) (by omega), k2 (31 + u) (by omega), onv_on]
    refine ⟨(r4 u hu).1, (r4 u hu).2.1, ?_, (r4 u hu).2.2.2⟩
    split
    · omega
    · exact (r4 u hu).2.2.1
  · rw [k (13 + u) (by omega), k 0 (by omega)]
    intro hw
    have := r5 u w hu hw
    rw [k (13 + w) (by omega)]
    exact this
  · rw [k 0 (by omega), k (4 + u) (by omega), onv_on]
    intro h0
    rw [if_neg (by omega)]
    exact r6 u hu h0
  · rw [k (4 + u) (by omega), k 1 (by omega)]
    exact r7 u hu
theorem Fw_onv {al : Nat → Nat} {v c : Nat} (F : Fw al) (hv : v < 9) (hc : c < al 1) : Fw (onv al v c) := by
  obtain ⟨f1, f2, f3⟩ := F
  have k : ∀ j, j < 22 → onv al v c j = al j := fun j hj => if_neg (by omega)
  have k2 : ∀ j, 31 ≤ j → onv al v c j = al j := fun j hj => if_neg (by omega)
  refine ⟨by rw [k 0 (by omega), k 1 (by omega)]; exact f1, by rw [k 1 (by omega)]; exact f2, fun u hu => ?_⟩
  rw [k 1 (by omega), k2 (31 + u) (by omega), onv_on]
  refine ⟨?_, (f3 u hu).2⟩
  split
  · omega
  · exact (f3 u hu).1
theorem arn_onv {al : Nat → Nat} {v c i w : Nat} (R : Rg al) (hv : v < al 0) (h0 : al (22 + v) = 0) (hc : c < 3) (hi : i < 9) : (arn (onv al v c) i).testBit w = true ↔ (arn al i).testBit w = true ∨ (w = c ∧ (nrf al i).testBit v = true) := by
  rw [arn_tb (Rg_onv R hv hc) hi, arn_tb R hi, Sg_nr Sg_onv, show onv al v c 0 = al 0 from if_neg (by omega)]
  constructor
  · rintro ⟨k, hk, hn, e⟩
    rw [onv_on] at e
    by_cases h : k = v
    · subst h
      rw [if_pos rfl] at e
      exact Or.inr ⟨by omega, hn⟩
    · rw [if_neg h] at e
      exact Or.inl ⟨k, hk, hn, e⟩
  · rintro (⟨k, hk, hn, e⟩ | ⟨rfl, hn⟩)
    · refine ⟨k, hk, hn, ?_⟩
      rw [onv_on, if_neg (fun h => by subst h; omega)]
      exact e
    · exact ⟨v, hv, hn, by rw [onv_on, if_pos rfl]⟩
theorem opf_onv {al : Nat → Nat} {p q v c bb : Nat} (C : Cfg al p bb) (hv : p.testBit v = true) (hc : c < 3) (hq : q < 512) (hqp : ∀ i, q.testBit i = true → p.testBit i = true ∧ i ≠ v) : opf (onv al v c) q = fun w => mvO (nrf al) (opf al p) v c w &&& q := by
  obtain ⟨R, F, hp, c1, c2, c3⟩ := C
  have hv1 := c1 v hv
  have hv9 := bit_lt hp hv
  refine funext fun w => bit_eq fun i => ?_
  rw [opf_tb hq, Nat.testBit_and, Bool.and_eq_true]
  unfold mvO
  rw [tb_dif, tb_dif, tb_pow, Bool.and_eq_true, Bool.and_eq_true, opf_tb hp, Bool.not_eq_true', Bool.not_eq_true', decide_eq_false_iff_not]
  constructor
  · rintro ⟨h1, h2, h3⟩
    have hi9 := bit_lt hq h1
    obtain ⟨g1, g2⟩ := hqp i h1
    rw [Sg_ls Sg_onv hi9] at h2
    have ha := Bool.eq_false_iff.mp h3
    rw [Ne, arn_onv R hv1.1 hv1.2 hc hi9, not_or] at ha
    refine ⟨⟨⟨⟨g1, h2, Bool.eq_false_iff.mpr ha.1⟩, fun e => g2 e.symm⟩, ?_⟩, h1⟩
    by_cases e : w = c
    · rw [if_pos e]
      cases hb : (nrf al v).testBit i
      · rfl
      · exact absurd ⟨e, sy_Rg R v i hb⟩ ha.2
    · rw [if_neg e, Nat.zero_testBit]
  · rintro ⟨⟨⟨⟨g1, h2, h3⟩, g2⟩, h4⟩, h1⟩
    have hi9 := bit_lt hq h1
    refine ⟨h1, by rw [Sg_ls Sg_onv hi9]; exact h2, Bool.eq_false_iff.mpr ?_⟩
    rw [Ne, arn_onv R hv1.1 hv1.2 hc hi9, not_or]
    refine ⟨Bool.eq_false_iff.mp h3, fun ⟨e, hn⟩ => ?_⟩
    rw [if_pos e, sy_Rg R i v hn] at h4
    cases h4
theorem Cfg_onv {al : Nat → Nat} {p v c bb j : Nat} (C : Cfg al p bb) (hv : p.testBit v = true) (hc : c < al 1) (hj : rst (nrf al) (dif p (2 ^ v)) j ≠ 0) : Cfg (onv al v c) (prt (nrf al) (dif p (2 ^ v)) j) (c + 1) := by
  obtain ⟨R, F, hp, c1, c2, c3⟩ := C
  have hd : dif p (2 ^ v) < 512 := dif_lt (n := 9) hp
  have hv1 := c1 v hv
  have hC := R.2.1
  have cl := rch_cl (nr := nrf al) (set := dif p (2 ^ v)) (s := 2 ^ lo (rst (nrf al) (dif p (2 ^ v)) j)) hd
  have inp : ∀ i, (dif p (2 ^ v)).testBit i = true ↔ p.testBit i = true ∧ i ≠ v := fun i => by
    rw [tb_dif, tb_pow, Bool.and_eq_true, Bool.not_eq_true', decide_eq_false_iff_not]
    exact and_congr_right fun _ => ⟨fun e g => e g.symm, fun e g => e g.symm⟩
  refine ⟨Rg_onv R hv1.1 (by omega), Fw_onv F (bit_lt hp hv) hc, rch_lt hd, fun i hi => ?_, fun u w hu hn hw => ?_, by rw [show onv al v c 1 = al 1 from if_neg (by omega)]; omega⟩
  · obtain ⟨g1, g2⟩ := (inp i).mp (cl.2.1 i hi)
    rw [show onv al v c 0 = al 0 from if_neg (by omega), onv_on, if_neg g2]
    exact c1 i g1
  · rw [Sg_nr Sg_onv] at hn
    rw [onv_on]
    by_cases e : w = v
    · rw [if_pos e]
      omega
    · rw [if_neg e]
      refine c2 u w ((inp u).mp (cl.2.1 u hu)).1 hn ?_
      cases hb : p.testBit w
      · rfl
      · have := cl.2.2.1 u w hu hn ((inp w).mpr ⟨hb, e⟩)
        have e2 : (prt (nrf al) (dif p (2 ^ v)) j).testBit w = true := this
        rw [e2] at hw
        cases hw
/-- the reference's way through the moves of a part gives the same -/
theorem gA_eq {al : Nat → Nat} {p bb : Nat} (C : Cfg al p bb) : gA al p bb = fin3 (gat (al 0) (al 1) (fun v c => p.testBit v && (cly al v p bb).testBit c) (fun v c => pcs (nrf al) (dif p (2 ^ v)) (fun q => gA (onv al v c) q (c + 1))) (0, 0, 10)) := by
  have C' := C
  obtain ⟨R, F, hp, c1, c2, c3⟩ := C
  have hC := R.2.1
  have hb : bb ≤ 3 := by omega
  have hd : ∀ v, dif p (2 ^ v) < 512 := fun v => dif_lt (n := 9) hp
  unfold gA
  rw [gr]
  show fin3 (gat 3 9 (fun c v => lgl p (opf al p) bb v c) (fun c v => pcs (nrf al) (dif p (2 ^ v)) (fun q => gr (nrf al) 9 q (fun w => mvO (nrf al) (opf al p) v c w &&& q) (c + 1))) (0, 0, 10)) = _
  have leg : ∀ v c, v < 9 → (lgl p (opf al p) bb v c = true ↔ p.testBit v = true ∧ (cly al v p bb).testBit c = true) := fun v c hv => by
    unfold lgl
    rw [Bool.and_eq_true, opf_tb hp, cly_tb hb, Bool.not_eq_true', Bool.and_eq_false_iff, Bool.not_eq_false', beq_eq_false_iff_ne, beq_iff_eq]
    constructor
    · rintro ⟨⟨a, b1, b2⟩, d⟩
      exact ⟨a, b1, b2, d.elim (fun e => Or.inr (Or.inr e)) (fun e => Or.inr (Or.inl e))⟩
    · rintro ⟨a, b1, b2, d⟩
      refine ⟨⟨a, b1, b2⟩, ?_⟩
      rcases d with d | d | d
      · exact Or.inl (by omega)
      · exact Or.inr d
      · exact Or.inl d
  have val : ∀ v c, p.testBit v = true → c < al 1 → pcs (nrf al) (dif p (2 ^ v)) (fun q => gr (nrf al) 9 q (fun w => mvO (nrf al) (opf al p) v c w &&& q) (c + 1)) = pcs (nrf al) (dif p (2 ^ v)) (fun q => gr (nrf (onv al v c)) 10 q (opf (onv al v c) q) (c + 1)) := fun v c hv hc => pcs_congr fun j hj => by
    have hq : prt (nrf al) (dif p (2 ^ v)) j < 512 := rch_lt (hd v)
    have hqp : ∀ i, (prt (nrf al) (dif p (2 ^ v)) j).testBit i = true → p.testBit i = true ∧ i ≠ v := fun i hi => by
      have := (rch_cl (nr := nrf al) (set := dif p (2 ^ v)) (s := 2 ^ lo (rst (nrf al) (dif p (2 ^ v)) j)) (hd v)).2.1 i hi
      rw [tb_dif, tb_pow, Bool.and_eq_true, Bool.not_eq_true', decide_eq_false_iff_not] at this
      exact ⟨this.1, fun e => this.2 e.symm⟩
    show gr (nrf al) 9 _ _ _ = gr (nrf (onv al v c)) 10 _ _ _
    rw [Sg_nr Sg_onv, opf_onv C' hv (by omega) hq hqp]
    have h3 := pop_v hv hp
    have h4 : pop (prt (nrf al) (dif p (2 ^ v)) j) ≤ pop (dif p (2 ^ v)) := pop_sub fun i _ hi => (rch_cl (hd v)).2.1 i hi
    have h5 := pop_le (s := p)
    refine gr_fuel 9 10 _ _ _ ⟨hq, fun c i _ hi => ?_⟩ (by omega) (by omega)
    rw [Nat.testBit_and, Bool.and_eq_true] at hi
    exact hi.2
  congr 1
  refine gat_same (fun c hc v hv l => ?_) (fun v hv c hc l => ?_)
  · obtain ⟨l1, l2⟩ := (leg v c hv).mp l
    have hcC : c < al 1 := R.2.2.2.2.2.2.2 v hv c ((cly_tb hb).mp l2).1
    exact ⟨v, (c1 v l1).1, c, hcC, by rw [Bool.and_eq_true]; exact ⟨l1, l2⟩, (val v c l1 hcC).symm⟩
  · rw [Bool.and_eq_true] at l
    exact ⟨c, by omega, v, bit_lt hp l.1, (leg v c (bit_lt hp l.1)).mpr l, val v c l.1 hc⟩
