/-! printed by wip/whole/emit.py: the models -/
def m_J6_bitCount (p0 : Int32) : Option Int32 :=
  nm (p0 - ((jushr p0 (1 : Int32)) &&& (1431655765 : Int32))) fun x1 =>
  nm ((x1 &&& (858993459 : Int32)) + ((jushr x1 (2 : Int32)) &&& (858993459 : Int32))) fun x2 =>
  nm ((x2 + (jushr x2 (4 : Int32))) &&& (252645135 : Int32)) fun x3 =>
  nm (x3 + (jushr x3 (8 : Int32))) fun x4 =>
  nm (x4 + (jushr x4 (16 : Int32))) fun x5 =>
  some (x5 &&& (63 : Int32))
def m_X5_errorPosition (o : Nat) (h : Hp) : Option Int32 :=
  (gR h 5 o 2).bind fun a1 =>
  (gI h 3 a1 2).bind fun x2 =>
  some x2
def m_X5_writtenByte (o : Nat) (p1 : Int32) (h : Hp) : Option ((Int32 ⊕ Nat) × Hp) :=
  if p1 < 0 then
    some (.inr 2, hpush h (.inr (9, [])) 6)
  else
    (gI h 5 o 6).bind fun x1 =>
    if x1 ≤ p1 then
      some (.inr 2, hpush h (.inr (9, [])) 6)
    else
      (gR h 5 o 5).bind fun a2 =>
      (aN h 2 a2).bind fun x3 =>
      if p1 < x3 then
        (gR h 5 o 5).bind fun a4 =>
        (aI h 2 a4 p1).bind fun x5 =>
        some (.inl x5, h)
      else
        some (.inr 2, hpush h (.inr (9, [])) 6)
def m_X5_write (o : Nat) (p1 : Int32) (h : Hp) : Option Hp :=
  (gI h 5 o 6).bind fun x1 =>
  if x1 < 0 then
    some h
  else
    (gI h 5 o 6).bind fun x2 =>
    (gR h 5 o 5).bind fun a3 =>
    (aN h 2 a3).bind fun x4 =>
    if x4 ≤ x2 then
      some h
    else
      (gR h 5 o 5).bind fun a5 =>
      (gI h 5 o 6).bind fun x6 =>
      (sI h 2 a5 x6 (ji2b p1)).bind fun h7 =>
      (gI h7 5 o 6).bind fun x8 =>
      (pV h7 5 o 6 (.int (x8 + (1 : Int32)))).bind fun h9 =>
      some h9
def m_X5_has (p0 : Int32) (p1 : Int32) : Option Bool :=
  if p1 < 0 then
    some false
  else
    if (32 : Int32) ≤ p1 then
      some false
    else
      if (p0 &&& ((1 : Int32) <<< (p1 &&& 31))) = 0 then
        some false
      else
        some true
def m_X5_at (p0 : Nat) (p1 : Int32) (h : Hp) : Option Int32 :=
  if p1 < 0 then
    some (0 : Int32)
  else
    (aN h 0 p0).bind fun x1 =>
    if x1 ≤ p1 then
      some (0 : Int32)
    else
      (aI h 0 p0 p1).bind fun x2 =>
      some x2
def m_X5_add (p0 : Nat) (p1 : Int32) (p2 : Int32) (h : Hp) : Option Hp :=
  if p1 < 0 then
    some h
  else
    (aN h 0 p0).bind fun x1 =>
    if x1 ≤ p1 then
      some h
    else
      (aI h 0 p0 p1).bind fun x2 =>
      (sI h 0 p0 p1 (x2 ||| p2)).bind fun h3 =>
      some h3
def m_X5_copyRow_L2 (u1 : Nat) (u2 : Nat) (k2_26 : Hp → Option Hp) : Nat → Int32 → Hp → Option Hp
  | 0, _, _ => none
  | f + 1, w3, h =>
    (aN h 0 u2).bind fun x5 =>
    if x5 ≤ w3 then
      k2_26 h
    else
      (aN h 0 u1).bind fun x6 =>
      if x6 ≤ w3 then
        k2_26 h
      else
        (aI h 0 u1 w3).bind fun x7 =>
        (sI h 0 u2 w3 x7).bind fun h8 =>
        nm (w3 + 1) fun x9 =>
        m_X5_copyRow_L2 u1 u2 k2_26 f x9 h8
def m_X5_copyRow (p0 : Nat) (p1 : Nat) (h : Hp) : Option Hp :=
  m_X5_copyRow_L2  p0 p1
    (fun h4 => (
      some h4
    ))
    LF (0 : Int32) h
def m_X5_clearRow_L2 (u1 : Nat) (k2_18 : Hp → Option Hp) : Nat → Int32 → Hp → Option Hp
  | 0, _, _ => none
  | f + 1, w2, h =>
    (aN h 0 u1).bind fun x4 =>
    if x4 ≤ w2 then
      k2_18 h
    else
      (sI h 0 u1 w2 (0 : Int32)).bind fun h5 =>
      nm (w2 + 1) fun x6 =>
      m_X5_clearRow_L2 u1 k2_18 f x6 h5
def m_X5_clearRow (p0 : Nat) (h : Hp) : Option Hp :=
  m_X5_clearRow_L2  p0
    (fun h3 => (
      some h3
    ))
    LF (0 : Int32) h
def m_X5_answerOf (p0 : Int32) (p1 : Int32) (p2 : Int32) : Option Int32 :=
  some ((p0 ||| (p1 <<< ((8 : Int32) &&& 31))) ||| (p2 <<< ((16 : Int32) &&& 31)))
def m_X5_valueIn (p0 : Int32) : Option Int32 :=
  some (p0 &&& (255 : Int32))
def m_X5_longestIn (p0 : Int32) : Option Int32 :=
  some ((p0 >>> ((8 : Int32) &&& 31)) &&& (255 : Int32))
def m_X5_shortestIn (p0 : Int32) : Option Int32 :=
  some ((p0 >>> ((16 : Int32) &&& 31)) &&& (255 : Int32))
def m_X5_together (p0 : Int32) (p1 : Int32) : Option Int32 :=
  nm ((p0 &&& (-256 : Int32)) + (p1 &&& (-256 : Int32))) fun x1 =>
  some (((p0 ^^^ p1) &&& (255 : Int32)) ||| x1)
def m_X6_init (o : Nat) (h : Hp) : Option Hp :=
  nw h (.inl (0, 4136, .inl fun _ => 0)) 4136 fun a1 h2 =>
  (pV h2 6 o 0 (.ref a1)).bind fun h3 =>
  nw h3 (.inl (0, 4136, .inl fun _ => 0)) 4136 fun a4 h5 =>
  (pV h5 6 o 1 (.ref a4)).bind fun h6 =>
  nw h6 (.inl (0, 4136, .inl fun _ => 0)) 4136 fun a7 h8 =>
  (pV h8 6 o 2 (.ref a7)).bind fun h9 =>
  nw h9 (.inl (0, 33088, .inl fun _ => 0)) 33088 fun a10 h11 =>
  (pV h11 6 o 3 (.ref a10)).bind fun h12 =>
  nw h12 (.inl (0, 8272, .inl fun _ => 0)) 8272 fun a13 h14 =>
  (pV h14 6 o 4 (.ref a13)).bind fun h15 =>
  nw h15 (.inl (3, 2, .inl fun _ => 0)) 2 fun a16 h17 =>
  (pV h17 6 o 5 (.ref a16)).bind fun h18 =>
  nw h18 (.inl (0, 500, .inl fun _ => 0)) 500 fun a19 h20 =>
  (pV h20 6 o 8 (.ref a19)).bind fun h21 =>
  (pV h21 6 o 17 (.int (-1))).bind fun h22 =>
  nw h22 (.inl (0, 80000, .inl fun _ => 0)) 80000 fun a23 h24 =>
  (pV h24 6 o 18 (.ref a23)).bind fun h25 =>
  nw h25 (.inl (0, 9, .inl fun _ => 0)) 9 fun a26 h27 =>
  (pV h27 6 o 19 (.ref a26)).bind fun h28 =>
  nw h28 (.inl (0, 14, .inl fun _ => 0)) 14 fun a29 h30 =>
  (pV h30 6 o 20 (.ref a29)).bind fun h31 =>
  (gR h31 6 o 0).bind fun a32 =>
  (sI h31 0 a32 (0 : Int32) (1 : Int32)).bind fun h33 =>
  (gR h33 6 o 0).bind fun a34 =>
  (sI h33 0 a34 (1 : Int32) (1 : Int32)).bind fun h35 =>
  (gR h35 6 o 0).bind fun a36 =>
  (sI h35 0 a36 (4 : Int32) (1 : Int32)).bind fun h37 =>
  some h37
def m_X6_thrown (o : Nat) (h : Hp) : Option Int32 :=
  (gI h 6 o 7).bind fun x1 =>
  some x1
def m_X6_isIn (p0 : Int32) (p1 : Int32) (p2 : Int32) : Option Bool :=
  if p0 < p1 then
    some false
  else
    if p2 < p0 then
      some false
    else
      some true
def m_X6_sets_L3 (u1 : Nat) (u2 : Int32) (u3 : Nat) (u4 : Int32) (k3_29 : Hp → Option Hp) : Nat → Int32 → Hp → Option Hp
  | 0, _, _ => none
  | f + 1, w5, h =>
    if (4136 : Int32) ≤ w5 then
      k3_29 h
    else
      (aI h 0 u3 (u4 + w5)).bind fun x7 =>
      (sI h 0 u1 (u2 + w5) x7).bind fun h8 =>
      nm (w5 + 1) fun x9 =>
      m_X6_sets_L3 u1 u2 u3 u4 k3_29 f x9 h8
def m_X6_sets (p0 : Nat) (p1 : Int32) (p2 : Nat) (p3 : Int32) (h : Hp) : Option Hp :=
  m_X6_sets_L3  p0 p1 p2 p3
    (fun h6 => (
      some h6
    ))
    LF (0 : Int32) h
def m_X6_append_L34 (u6 : Nat) (u7 : Int32) (u8 : Int32) (u9 : Int32) (u10 : Int32) (u11 : Int32) (k34_131 : Hp → Option (Int32 × Hp)) : Nat → Int32 → Hp → Option (Int32 × Hp)
  | 0, _, _ => none
  | f + 1, w12, h =>
    if (20 : Int32) ≤ w12 then
      k34_131 h
    else
      jK (κ := Int32 → Option (Int32 × Hp)) (fun v14 => (
        (gR h 6 u6 8).bind fun a16 =>
        (gI h 6 u6 9).bind fun x17 =>
        (sI h 0 a16 x17 ((v14 >>> (((24 : Int32) - ((8 : Int32) * (jrem w12 (4 : Int32)))) &&& 31)) &&& (255 : Int32))).bind fun h18 =>
        (gI h18 6 u6 9).bind fun x19 =>
        (pV h18 6 u6 9 (.int (x19 + (1 : Int32)))).bind fun h20 =>
        nm (w12 + 1) fun x21 =>
        m_X6_append_L34 u6 u7 u8 u9 u10 u11 k34_131 f x21 h20
      )) fun k15 =>
      if (4 : Int32) ≤ w12 then
        if (8 : Int32) ≤ w12 then
          if (12 : Int32) ≤ w12 then
            if (16 : Int32) ≤ w12 then
              k15 u11
            else
              k15 u10
          else
            k15 u9
        else
          k15 u8
      else
        k15 u7
def m_X6_append (o : Nat) (p1 : Int32) (p2 : Int32) (p3 : Int32) (p4 : Int32) (p5 : Int32) (h : Hp) : Option (Int32 × Hp) :=
  (gI h 6 o 9).bind fun x1 =>
  jK (κ := Bool → Option (Int32 × Hp)) (fun v2 => (
    (pV h 6 o 7 (.int (bI v2))).bind fun h4 =>
    (gI h4 6 o 7).bind fun x5 =>
    if x5 ≤ 0 then
      m_X6_append_L34  o p1 p2 p3 p4 p5
        (fun h13 => (
          (gI h13 6 o 9).bind fun x27 =>
          some (x27, h13)
        ))
        LF (0 : Int32) h4
    else
      some ((0 : Int32), h4)
  )) fun k3 =>
  if (x1 + (20 : Int32)) ≤ (500 : Int32) then
    k3 false
  else
    k3 true
def m_X6_see (o : Nat) (p1 : Int32) (h : Hp) : Option Int32 :=
  (gI h 6 o 10).bind fun x1 =>
  if x1 ≤ p1 then
    some (-1 : Int32)
  else
    (gR h 6 o 8).bind fun a2 =>
    (aI h 0 a2 p1).bind fun x3 =>
    some x3
def m_X6_fails (o : Nat) (p1 : Int32) (h : Hp) : Option Hp :=
  (gI h 6 o 15).bind fun x1 =>
  if x1 = 0 then
    (pV h 6 o 15 (.int p1)).bind fun h2 =>
    (gI h2 6 o 11).bind fun x3 =>
    (pV h2 6 o 16 (.int x3)).bind fun h4 =>
    some h4
  else
    some h
def m_X6_lettersHere_L7 (u2 : Nat) (h : Hp) (k7_58 : Int32 → Option Int32) (k7_44 : Option Int32) : Nat → Int32 → Int32 → Option Int32
  | 0, _, _ => none
  | f + 1, w3, w4 =>
    (gI h 6 u2 12).bind fun x6 =>
    if x6 ≤ w4 then
      k7_58 w3
    else
      (gR h 6 u2 8).bind fun a7 =>
      (aI h 0 a7 w4).bind fun x8 =>
      nm (x8 - (97 : Int32)) fun x9 =>
      (gR h 6 u2 0).bind fun a10 =>
      (aI h 0 a10 (1 : Int32)).bind fun x11 =>
      if x11 ≤ x9 then
        k7_44
      else
        if ((w3 >>> (x9 &&& 31)) &&& (1 : Int32)) = (1 : Int32) then
          k7_44
        else
          nm (w3 ||| ((1 : Int32) <<< (x9 &&& 31))) fun x12 =>
          nm (w4 + 1) fun x13 =>
          m_X6_lettersHere_L7 u2 h k7_58 k7_44 f x12 x13
def m_X6_lettersHere (o : Nat) (h : Hp) : Option Int32 :=
  (gI h 6 o 11).bind fun x1 =>
  m_X6_lettersHere_L7  o h
    (fun v5 => (
      some v5
    ))
    (some (0 : Int32))
    LF (0 : Int32) x1
def m_X6_colouringsNext_L4 (u1 : Nat) (h : Hp) (k4_31 : Int32 → Option Int32) : Nat → Int32 → Int32 → Option Int32
  | 0, _, _ => none
  | f + 1, w2, w3 =>
    (gR h 6 u1 0).bind fun a5 =>
    (aI h 0 a5 (0 : Int32)).bind fun x6 =>
    if x6 < w3 then
      k4_31 w2
    else
      (gR h 6 u1 0).bind fun a7 =>
      (aI h 0 a7 (1 : Int32)).bind fun x8 =>
      nm (w2 * (x8 + (1 : Int32))) fun x9 =>
      nm (w3 + 1) fun x10 =>
      m_X6_colouringsNext_L4 u1 h k4_31 f x9 x10
def m_X6_colouringsNext (o : Nat) (h : Hp) : Option Int32 :=
  m_X6_colouringsNext_L4  o h
    (fun v4 => (
      some v4
    ))
    LF (1 : Int32) (0 : Int32)
def m_X6_errorPosition (o : Nat) (h : Hp) : Option (Int32 × Hp) :=
  (pV h 6 o 7 (.int 0)).bind fun h1 =>
  (gI h1 6 o 17).bind fun x2 =>
  some (x2, h1)
def m_X6_areNext (o : Nat) (p1 : Int32) (p2 : Int32) (h : Hp) : Option Bool :=
  (gR h 6 o 0).bind fun a1 =>
  (aI h 0 a1 ((13 : Int32) + p1)).bind fun x2 =>
  if ((x2 >>> (p2 &&& 31)) &&& (1 : Int32)) = (1 : Int32) then
    some true
  else
    some false
def m_X6_colourOf (o : Nat) (p1 : Int32) (h : Hp) : Option Int32 :=
  (gR h 6 o 0).bind fun a1 =>
  (aI h 0 a1 ((22 : Int32) + p1)).bind fun x2 =>
  some (x2 - (1 : Int32))
def m_X6_isFree (o : Nat) (p1 : Int32) (h : Hp) : Option Bool :=
  (gR h 6 o 0).bind fun a1 =>
  (aI h 0 a1 ((22 : Int32) + p1)).bind fun x2 =>
  if x2 = 0 then
    some true
  else
    some false
def m_X6_bits_L4  (k4_20 : Int32 → Option Int32) : Nat → Int32 → Int32 → Option Int32
  | 0, _, _ => none
  | f + 1, w1, w2 =>
    if w2 ≤ 0 then
      k4_20 w1
    else
      nm (w1 + 1) fun x4 =>
      nm (w2 &&& (w2 - (1 : Int32))) fun x5 =>
      m_X6_bits_L4 k4_20 f x4 x5
def m_X6_bits (p0 : Int32) : Option Int32 :=
  m_X6_bits_L4 
    (fun v3 => (
      some v3
    ))
    LF (0 : Int32) p0
def m_X6_lowest_L2 (u1 : Int32) (k2_16 : Int32 → Option Int32) : Nat → Int32 → Option Int32
  | 0, _ => none
  | f + 1, w2 =>
    if ((u1 >>> (w2 &&& 31)) &&& (1 : Int32)) = 0 then
      nm (w2 + 1) fun x4 =>
      m_X6_lowest_L2 u1 k2_16 f x4
    else
      k2_16 w2
def m_X6_lowest (p0 : Int32) : Option Int32 :=
  m_X6_lowest_L2  p0
    (fun v3 => (
      some v3
    ))
    LF (0 : Int32)
def m_X6_reached_L19 (u7 : Nat) (u8 : Int32) (u10 : Int32) (h : Hp) (k19_66 : Int32 → Option Int32) : Nat → Int32 → Int32 → Option Int32
  | 0, _, _ => none
  | f + 1, w9, w11 =>
    (gR h 6 u7 0).bind fun a13 =>
    (aI h 0 a13 (0 : Int32)).bind fun x14 =>
    if x14 ≤ w11 then
      k19_66 w9
    else
      jK (κ := Int32 → Option Int32) (fun v15 => (
        nm (w9 ||| v15) fun x17 =>
        nm (w11 + 1) fun x18 =>
        m_X6_reached_L19 u7 u8 u10 h k19_66 f x17 x18
      )) fun k16 =>
      if ((u10 >>> (w11 &&& 31)) &&& (1 : Int32)) = (1 : Int32) then
        (gR h 6 u7 0).bind fun a19 =>
        (aI h 0 a19 ((13 : Int32) + w11)).bind fun x20 =>
        k16 (x20 &&& u8)
      else
        k16 (0 : Int32)
def m_X6_reached_L7 (u2 : Nat) (u3 : Int32) (h : Hp) (k7_69 : Int32 → Option Int32) : Nat → Int32 → Int32 → Option Int32
  | 0, _, _ => none
  | f + 1, w4, w5 =>
    if w4 = w5 then
      k7_69 w4
    else
      m_X6_reached_L19  u2 u3 w4 h
        (fun v12 => (
          m_X6_reached_L7 u2 u3 h k7_69 f v12 w4
        ))
        LF w4 (0 : Int32)
def m_X6_reached (o : Nat) (p1 : Int32) (p2 : Int32) (h : Hp) : Option Int32 :=
  nm ((1 : Int32) <<< (p1 &&& 31)) fun x1 =>
  m_X6_reached_L7  o p2 h
    (fun v6 => (
      some v6
    ))
    LF x1 (0 : Int32)
def m_X6_banOf (o : Nat) (p1 : Int32) (h : Hp) : Option Int32 :=
  (gR h 6 o 0).bind fun a1 =>
  (aI h 0 a1 ((31 : Int32) + p1)).bind fun x2 =>
  some (x2 - (1 : Int32))
def m_X6_turn (o : Nat) (h : Hp) : Option Int32 :=
  (gR h 6 o 0).bind fun a1 =>
  (aI h 0 a1 (3 : Int32)).bind fun x2 =>
  some (jrem x2 (2 : Int32))
def m_X6_forgets_L2 (u1 : Nat) (k2_21 : Hp → Option Hp) : Nat → Int32 → Hp → Option Hp
  | 0, _, _ => none
  | f + 1, w2, h =>
    if (80000 : Int32) ≤ w2 then
      k2_21 h
    else
      (gR h 6 u1 18).bind fun a4 =>
      (sI h 0 a4 w2 (-1 : Int32)).bind fun h5 =>
      nm (w2 + 1) fun x6 =>
      m_X6_forgets_L2 u1 k2_21 f x6 h5
def m_X6_forgets (o : Nat) (h : Hp) : Option Hp :=
  m_X6_forgets_L2  o
    (fun h3 => (
      some h3
    ))
    LF (0 : Int32) h
def m_X6_moved (o : Nat) (p1 : Int32) (p2 : Int32) (h : Hp) : Option Int32 :=
  (gR h 6 o 0).bind fun a1 =>
  (aI h 0 a1 ((40 : Int32) + p1)).bind fun x2 =>
  if p2 = 0 then
    some (x2 &&& (1 : Int32))
  else
    if p2 = (1 : Int32) then
      some (((x2 >>> ((1 : Int32) &&& 31)) &&& (15 : Int32)) - (1 : Int32))
    else
      if p2 = (2 : Int32) then
        some (((x2 >>> ((5 : Int32) &&& 31)) &&& (3 : Int32)) - (1 : Int32))
      else
        if p2 = (3 : Int32) then
          some ((x2 >>> ((7 : Int32) &&& 31)) &&& (15 : Int32))
        else
          some (x2 >>> ((11 : Int32) &&& 31))
def m_X6_says (o : Nat) (p1 : Int32) (h : Hp) : Option Hp :=
  (gR h 6 o 20).bind fun a1 =>
  (gI h 6 o 21).bind fun x2 =>
  (sI h 0 a1 x2 p1).bind fun h3 =>
  (gI h3 6 o 21).bind fun x4 =>
  (pV h3 6 o 21 (.int (x4 + (1 : Int32)))).bind fun h5 =>
  some h5
def m_X0_init_L50 (u16 : Nat) (k50_80 : Hp → Option Hp) : Nat → Int32 → Hp → Option Hp
  | 0, _, _ => none
  | f + 1, w17, h =>
    (gI h 0 u16 1).bind fun x19 =>
    if x19 ≤ w17 then
      k50_80 h
    else
      (gR h 0 u16 8).bind fun a20 =>
      (aN h 0 a20).bind fun x21 =>
      if x21 ≤ w17 then
        k50_80 h
      else
        (gR h 0 u16 8).bind fun a22 =>
        (sI h 0 a22 w17 (1 : Int32)).bind fun h23 =>
        nm (w17 + 1) fun x24 =>
        m_X0_init_L50 u16 k50_80 f x24 h23
def m_X0_init (o : Nat) (h : Hp) : Option Hp :=
  nw h (.inl (0, 9, .inl fun _ => 0)) 9 fun a1 h2 =>
  (pV h2 0 o 7 (.ref a1)).bind fun h3 =>
  nw h3 (.inl (0, 3, .inl fun _ => 0)) 3 fun a4 h5 =>
  (pV h5 0 o 8 (.ref a4)).bind fun h6 =>
  nw h6 (.inl (0, 3, .inl fun _ => 0)) 3 fun a7 h8 =>
  (pV h8 0 o 9 (.ref a7)).bind fun h9 =>
  nw h9 (.inl (0, 3, .inl fun _ => 0)) 3 fun a10 h11 =>
  (pV h11 0 o 10 (.ref a10)).bind fun h12 =>
  (pV h12 0 o 1 (.int 1)).bind fun h13 =>
  (pV h13 0 o 2 (.int 1)).bind fun h14 =>
  (pV h14 0 o 4 (.int 1)).bind fun h15 =>
  m_X0_init_L50  o
    (fun h18 => (
      some h18
    ))
    LF (0 : Int32) h15
def m_X0_isFull_L4 (u1 : Nat) (h : Hp) (k4_33 : Int32 → Option Bool) : Nat → Int32 → Int32 → Option Bool
  | 0, _, _ => none
  | f + 1, w2, w3 =>
    (gI h 0 u1 2).bind fun x5 =>
    if x5 < w3 then
      k4_33 w2
    else
      if (9 : Int32) < w3 then
        k4_33 w2
      else
        (gI h 0 u1 1).bind fun x6 =>
        nm (w2 * (x6 + (1 : Int32))) fun x7 =>
        nm (w3 + 1) fun x8 =>
        m_X0_isFull_L4 u1 h k4_33 f x7 x8
def m_X0_isFull (o : Nat) (h : Hp) : Option Bool :=
  m_X0_isFull_L4  o h
    (fun v4 => (
      (gI h 0 o 2).bind fun x11 =>
      if (9 : Int32) ≤ x11 then
        some true
      else
        if v4 ≤ (20000 : Int32) then
          some false
        else
          some true
    ))
    LF (1 : Int32) (0 : Int32)
def m_X0_hasVertex (o : Nat) (p1 : Int32) (h : Hp) : Option Bool :=
  if p1 < 0 then
    some false
  else
    (gI h 0 o 2).bind fun x1 =>
    if x1 ≤ p1 then
      some false
    else
      some true
def m_X0_everyVertex (o : Nat) (h : Hp) : Option Int32 :=
  (gI h 0 o 2).bind fun x1 =>
  some (((1 : Int32) <<< (x1 &&& 31)) - (1 : Int32))
def m_X0_everyColour (o : Nat) (h : Hp) : Option Int32 :=
  (gI h 0 o 1).bind fun x1 =>
  some (((1 : Int32) <<< (x1 &&& 31)) - (1 : Int32))
def m_X0_neighbours (o : Nat) (p1 : Int32) (h : Hp) : Option Int32 :=
  if p1 < 0 then
    some (0 : Int32)
  else
    (gR h 0 o 7).bind fun a1 =>
    (aN h 0 a1).bind fun x2 =>
    if x2 ≤ p1 then
      some (0 : Int32)
    else
      (gR h 0 o 7).bind fun a3 =>
      (aI h 0 a3 p1).bind fun x4 =>
      some x4
def m_X0_banOf_L2 (u1 : Nat) (u2 : Int32) (h : Hp) (k2_30 : Option Int32) (k2_22 : Int32 → Option Int32) : Nat → Int32 → Option Int32
  | 0, _ => none
  | f + 1, w3 =>
    (gR h 0 u1 10).bind fun a5 =>
    (aN h 0 a5).bind fun x6 =>
    if x6 ≤ w3 then
      k2_30
    else
      (gR h 0 u1 10).bind fun a7 =>
      (aI h 0 a7 w3).bind fun x8 =>
      if (x8 &&& u2) = 0 then
        nm (w3 + 1) fun x9 =>
        m_X0_banOf_L2 u1 u2 h k2_30 k2_22 f x9
      else
        k2_22 w3
def m_X0_banOf (o : Nat) (p1 : Int32) (h : Hp) : Option Int32 :=
  m_X0_banOf_L2  o p1 h
    (some (-1 : Int32))
    (fun v4 => (
      some v4
    ))
    LF (0 : Int32)
def m_X0_turn (o : Nat) (h : Hp) : Option Int32 :=
  (gI h 0 o 5).bind fun x1 =>
  some (x1 &&& (1 : Int32))
def m_X0_passValue (o : Nat) (h : Hp) : Option Int32 :=
  (gI h 0 o 3).bind fun x1 =>
  some (x1 &&& (1 : Int32))
def m_X0_moveAt_L26 (u5 : Int32) (h : Hp) (k26_46 : (Option Nat) → Option (Option Nat)) : Nat → (Option Nat) → Int32 → Option (Option Nat)
  | 0, _, _ => none
  | f + 1, w6, w7 =>
    if w7 ≤ u5 then
      k26_46 w6
    else
      nz w6 (
        k26_46 w6
      ) fun a9 =>
      (gN h 2 a9 0).bind fun q10 =>
      nm (w7 + (-1)) fun x11 =>
      m_X0_moveAt_L26 u5 h k26_46 f q10 x11
def m_X0_moveAt (o : Nat) (p1 : Int32) (h : Hp) : Option (Option Nat) :=
  if p1 < 0 then
    some none
  else
    (gI h 0 o 5).bind fun x1 =>
    if p1 < x1 then
      (gN h 0 o 6).bind fun q2 =>
      (gI h 0 o 5).bind fun x3 =>
      nm (x3 - (1 : Int32)) fun x4 =>
      m_X0_moveAt_L26  p1 h
        (fun v8 => (
          some v8
        ))
        LF q2 x4
    else
      some none
def m_X0_coloursLaidBy_L15 (u4 : Int32) (h : Hp) (k15_60 : Int32 → Option Int32) : Nat → Int32 → (Option Nat) → Int32 → Option Int32
  | 0, _, _, _ => none
  | f + 1, w5, w6, w7 =>
    if w7 < 0 then
      k15_60 w5
    else
      nz w6 (
        k15_60 w5
      ) fun a9 =>
      jK (κ := Int32 → Option Int32) (fun v10 => (
        (gN h 2 a9 0).bind fun q12 =>
        nm (w7 + (-1)) fun x13 =>
        m_X0_coloursLaidBy_L15 u4 h k15_60 f v10 q12 x13
      )) fun k11 =>
      if (w7 &&& (1 : Int32)) = u4 then
        (gI h 2 a9 2).bind fun x14 =>
        if x14 = (-1 : Int32) then
          k11 w5
        else
          (gI h 2 a9 2).bind fun x15 =>
          nm (w5 ||| ((1 : Int32) <<< (x15 &&& 31))) fun x16 =>
          k11 x16
      else
        k11 w5
def m_X0_coloursLaidBy (o : Nat) (p1 : Int32) (h : Hp) : Option Int32 :=
  (gN h 0 o 6).bind fun q1 =>
  (gI h 0 o 5).bind fun x2 =>
  nm (x2 - (1 : Int32)) fun x3 =>
  m_X0_coloursLaidBy_L15  p1 h
    (fun v8 => (
      some v8
    ))
    LF (0 : Int32) q1 x3
def m_X1_init (o : Nat) (h : Hp) : Option Hp :=
  nw h (.inl (4, 8, .inr (.inr (.inr (.inr fun _ => none))))) 8 fun a1 h2 =>
  (pV h2 1 o 2 (.ref a1)).bind fun h3 =>
  some h3
def m_X2_init (o : Nat) (p1 : (Option Nat)) (p2 : Int32) (p3 : Int32) (p4 : Int32) (p5 : Int32) (h : Hp) : Option Hp :=
  (pV h 2 o 0 (va_rf p1)).bind fun h1 =>
  (pV h1 2 o 1 (.int p2)).bind fun h2 =>
  (pV h2 2 o 2 (.int p3)).bind fun h3 =>
  (pV h3 2 o 3 (.int p4)).bind fun h4 =>
  (pV h4 2 o 4 (.int p5)).bind fun h5 =>
  some h5
def m_X2_countsAs (o : Nat) (p1 : Int32) (h : Hp) : Option Bool :=
  sw p1 (0) [
    (
      (gI h 2 o 1).bind fun x1 =>
      if x1 = (-1 : Int32) then
        some false
      else
        some true
    ),
    (
      (gI h 2 o 1).bind fun x3 =>
      if x3 = (-1 : Int32) then
        some true
      else
        some false
    ),
    (
      (gI h 2 o 1).bind fun x5 =>
      if x5 = (-1 : Int32) then
        some false
      else
        (gI h 2 o 4).bind fun x6 =>
        if x6 < (2 : Int32) then
          some false
        else
          some true
    ),
    (
      (gI h 2 o 1).bind fun x9 =>
      if x9 = (-1 : Int32) then
        some false
      else
        (gI h 2 o 4).bind fun x10 =>
        if x10 = 0 then
          some true
        else
          some false
    )
  ] (
    some false
  )
def m_X3_addFour_L3 (u1 : Nat) (u2 : Int32) (k3_55 : Hp → Option Hp) : Nat → Int32 → Hp → Option Hp
  | 0, _, _ => none
  | f + 1, w3, h =>
    if w3 < 0 then
      k3_55 h
    else
      (gI h 3 u1 1).bind fun x5 =>
      jK (κ := Hp → Option Hp) (fun h6 => (
        nm (w3 + (-8)) fun x8 =>
        m_X3_addFour_L3 u1 u2 k3_55 f x8 h6
      )) fun k7 =>
      if x5 < 0 then
        k7 h
      else
        (gI h 3 u1 1).bind fun x9 =>
        (gR h 3 u1 3).bind fun a10 =>
        (aN h 2 a10).bind fun x11 =>
        if x11 ≤ x9 then
          k7 h
        else
          (gR h 3 u1 3).bind fun a12 =>
          (gI h 3 u1 1).bind fun x13 =>
          (sI h 2 a12 x13 (ji2b (jushr u2 w3))).bind fun h14 =>
          (gI h14 3 u1 1).bind fun x15 =>
          (pV h14 3 u1 1 (.int (x15 + (1 : Int32)))).bind fun h16 =>
          k7 h16
def m_X3_addFour (o : Nat) (p1 : Int32) (h : Hp) : Option Hp :=
  m_X3_addFour_L3  o p1
    (fun h4 => (
      some h4
    ))
    LF (24 : Int32) h
def m_X3_byteAt (o : Nat) (p1 : Int32) (h : Hp) : Option Int32 :=
  jK (κ := Bool → Option Int32) (fun v1 => (
    if v1 = true then
      (gR h 3 o 3).bind fun a3 =>
      (aI h 2 a3 p1).bind fun x4 =>
      some (x4 &&& (255 : Int32))
    else
      some (-1 : Int32)
  )) fun k2 =>
  if p1 < 0 then
    k2 false
  else
    (gI h 3 o 4).bind fun x6 =>
    if x6 ≤ p1 then
      k2 false
    else
      (gR h 3 o 3).bind fun a7 =>
      (aN h 2 a7).bind fun x8 =>
      if x8 ≤ p1 then
        k2 false
      else
        k2 true
def m_X3_isLetter (p0 : Int32) : Option Bool :=
  if p0 < (97 : Int32) then
    some false
  else
    if (122 : Int32) < p0 then
      some false
    else
      some true
def m_X3_isDigit (p0 : Int32) : Option Bool :=
  if p0 < (48 : Int32) then
    some false
  else
    if (57 : Int32) < p0 then
      some false
    else
      some true
def m_X3_fail (o : Nat) (p1 : Int32) (h : Hp) : Option (Bool × Hp) :=
  (pV h 3 o 5 (.int p1)).bind fun h1 =>
  (gI h1 3 o 7).bind fun x2 =>
  (pV h1 3 o 2 (.int x2)).bind fun h3 =>
  some (false, h3)
def m_X4_setShift (p0 : Int32) : Option Int32 :=
  some ((9 : Int32) * (p0 + (1 : Int32)))
def m_X5_append (o : Nat) (p1 : Int32) (p2 : Int32) (p3 : Int32) (p4 : Int32) (p5 : Int32) (h : Hp) : Option ((Int32 ⊕ Nat) × Hp) :=
  (gR h 5 o 2).bind fun a1 =>
  (gI h 3 a1 1).bind fun x2 =>
  if (x2 + (20 : Int32)) ≤ (500 : Int32) then
    (gR h 5 o 2).bind fun a3 =>
    cv h 3 a3 <| (m_X3_addFour a3 p1 h).bind fun h4 =>
    (gR h4 5 o 2).bind fun a5 =>
    cv h4 3 a5 <| (m_X3_addFour a5 p2 h4).bind fun h6 =>
    (gR h6 5 o 2).bind fun a7 =>
    cv h6 3 a7 <| (m_X3_addFour a7 p3 h6).bind fun h8 =>
    (gR h8 5 o 2).bind fun a9 =>
    cv h8 3 a9 <| (m_X3_addFour a9 p4 h8).bind fun h10 =>
    (gR h10 5 o 2).bind fun a11 =>
    cv h10 3 a11 <| (m_X3_addFour a11 p5 h10).bind fun h12 =>
    (gR h12 5 o 2).bind fun a13 =>
    (gI h12 3 a13 1).bind fun x14 =>
    some (.inl x14, h12)
  else
    some (.inr 0, hpush h (.inr (7, [])) 6)
def m_X5_move (o : Nat) (p1 : Int32) (p2 : Int32) (h : Hp) : Option ((Int32 ⊕ Nat) × Hp) :=
  (gR h 5 o 0).bind fun a1 =>
  cv h 0 a1 <| (m_X0_moveAt a1 p1 h).bind fun q2 =>
  nz q2 (
    some (.inr 2, hpush h (.inr (9, [])) 6)
  ) fun a3 =>
  sw p2 (0) [
    (
      some (.inl (jrem p1 (2 : Int32)), h)
    ),
    (
      (gI h 2 a3 1).bind fun x4 =>
      some (.inl x4, h)
    ),
    (
      (gI h 2 a3 2).bind fun x5 =>
      some (.inl x5, h)
    ),
    (
      (gI h 2 a3 3).bind fun x6 =>
      some (.inl x6, h)
    )
  ] (
    some (.inr 1, hpush h (.inr (8, [])) 6)
  )
def m_X5_least (p0 : Int32) : Option Int32 :=
  (m_J6_bitCount ((p0 &&& (-p0)) - (1 : Int32))).bind fun x1 =>
  some x1
def m_X6_keeps_L11 (u10 : Nat) (k11_40 : Hp → Option Hp) : Nat → Int32 → Hp → Option Hp
  | 0, _, _ => none
  | f + 1, w11, h =>
    if (28952 : Int32) ≤ w11 then
      k11_40 h
    else
      (gR h 6 u10 3).bind fun a13 =>
      (gR h 6 u10 3).bind fun a14 =>
      (aI h 0 a14 (w11 + (4136 : Int32))).bind fun x15 =>
      (sI h 0 a13 w11 x15).bind fun h16 =>
      nm (w11 + 1) fun x17 =>
      m_X6_keeps_L11 u10 k11_40 f x17 h16
def m_X6_keeps (o : Nat) (h : Hp) : Option Hp :=
  (gI h 6 o 6).bind fun x1 =>
  jK (κ := Hp → Option Hp) (fun h2 => (
    (gR h2 6 o 3).bind fun a4 =>
    (gI h2 6 o 6).bind fun x5 =>
    (gR h2 6 o 0).bind fun a6 =>
    (m_X6_sets a4 ((4136 : Int32) * x5) a6 (0 : Int32) h2).bind fun h7 =>
    (gI h7 6 o 6).bind fun x8 =>
    (pV h7 6 o 6 (.int (x8 + (1 : Int32)))).bind fun h9 =>
    some h9
  )) fun k3 =>
  if x1 = (8 : Int32) then
    m_X6_keeps_L11  o
      (fun h12 => (
        (gI h12 6 o 6).bind fun x19 =>
        (pV h12 6 o 6 (.int (x19 - (1 : Int32)))).bind fun h20 =>
        k3 h20
      ))
      LF (0 : Int32) h
  else
    k3 h
def m_X6_undo (o : Nat) (h : Hp) : Option (Int32 × Hp) :=
  (gI h 6 o 6).bind fun x1 =>
  jK (κ := Bool → Option (Int32 × Hp)) (fun v2 => (
    (pV h 6 o 7 (.int (bI v2))).bind fun h4 =>
    (gI h4 6 o 7).bind fun x5 =>
    if x5 ≤ 0 then
      (gI h4 6 o 6).bind fun x6 =>
      (pV h4 6 o 6 (.int (x6 - (1 : Int32)))).bind fun h7 =>
      (gR h7 6 o 0).bind fun a8 =>
      (gR h7 6 o 3).bind fun a9 =>
      (gI h7 6 o 6).bind fun x10 =>
      (m_X6_sets a8 (0 : Int32) a9 ((4136 : Int32) * x10) h7).bind fun h11 =>
      (gI h11 6 o 6).bind fun x12 =>
      some (x12, h11)
    else
      some ((0 : Int32), h4)
  )) fun k3 =>
  if x1 = 0 then
    k3 true
  else
    k3 false
def m_X6_next_L8 (u3 : Nat) (k8_34 : Hp → Option Hp) : Nat → Hp → Option Hp
  | 0, _ => none
  | f + 1, h =>
    (gI h 6 u3 11).bind fun x5 =>
    cv h 6 u3 <| (m_X6_see u3 x5 h).bind fun x6 =>
    if x6 = (32 : Int32) then
      (gI h 6 u3 11).bind fun x7 =>
      (pV h 6 u3 11 (.int (x7 + (1 : Int32)))).bind fun h8 =>
      m_X6_next_L8 u3 k8_34 f h8
    else
      k8_34 h
def m_X6_next_L141 (u24 : Nat) (k141_205 : Hp → Option Hp) : Nat → Hp → Option Hp
  | 0, _ => none
  | f + 1, h =>
    (gI h 6 u24 12).bind fun x26 =>
    cv h 6 u24 <| (m_X6_see u24 x26 h).bind fun x27 =>
    (m_X6_isIn x27 (48 : Int32) (57 : Int32)).bind fun bb28 =>
    if bb28 = true then
      (gI h 6 u24 14).bind fun x29 =>
      jK (κ := Hp → Option Hp) (fun h30 => (
        (gI h30 6 u24 12).bind fun x32 =>
        (pV h30 6 u24 12 (.int (x32 + (1 : Int32)))).bind fun h33 =>
        m_X6_next_L141 u24 k141_205 f h33
      )) fun k31 =>
      if (10000 : Int32) ≤ x29 then
        k31 h
      else
        (gI h 6 u24 14).bind fun x34 =>
        (gI h 6 u24 12).bind fun x35 =>
        cv h 6 u24 <| (m_X6_see u24 x35 h).bind fun x36 =>
        (pV h 6 u24 14 (.int ((((10 : Int32) * x34) + x36) - (48 : Int32)))).bind fun h37 =>
        k31 h37
    else
      k141_205 h
def m_X6_next_L79 (u42 : Nat) (k79_110 : Hp → Option Hp) : Nat → Hp → Option Hp
  | 0, _ => none
  | f + 1, h =>
    (gI h 6 u42 12).bind fun x44 =>
    cv h 6 u42 <| (m_X6_see u42 x44 h).bind fun x45 =>
    (m_X6_isIn x45 (97 : Int32) (122 : Int32)).bind fun bb46 =>
    if bb46 = true then
      (gI h 6 u42 12).bind fun x47 =>
      (pV h 6 u42 12 (.int (x47 + (1 : Int32)))).bind fun h48 =>
      m_X6_next_L79 u42 k79_110 f h48
    else
      k79_110 h
def m_X6_next (o : Nat) (h : Hp) : Option Hp :=
  (gI h 6 o 12).bind fun x1 =>
  (pV h 6 o 11 (.int x1)).bind fun h2 =>
  m_X6_next_L8  o
    (fun h4 => (
      (gI h4 6 o 11).bind fun x10 =>
      (pV h4 6 o 12 (.int x10)).bind fun h11 =>
      (gI h11 6 o 11).bind fun x12 =>
      (gI h11 6 o 10).bind fun x13 =>
      if x12 < x13 then
        (gI h11 6 o 11).bind fun x14 =>
        cv h11 6 o <| (m_X6_see o x14 h11).bind fun x15 =>
        (m_X6_isIn x15 (97 : Int32) (122 : Int32)).bind fun bb16 =>
        if bb16 = true then
          m_X6_next_L79  o
            (fun h43 => (
              (pV h43 6 o 13 (.int 0)).bind fun h50 =>
              some h50
            ))
            LF h11
        else
          (gI h11 6 o 11).bind fun x17 =>
          cv h11 6 o <| (m_X6_see o x17 h11).bind fun x18 =>
          (m_X6_isIn x18 (48 : Int32) (57 : Int32)).bind fun bb19 =>
          if bb19 = true then
            (pV h11 6 o 14 (.int 0)).bind fun h23 =>
            m_X6_next_L141  o
              (fun h25 => (
                (pV h25 6 o 13 (.int 1)).bind fun h40 =>
                some h40
              ))
              LF h23
          else
            (gI h11 6 o 12).bind fun x20 =>
            (pV h11 6 o 12 (.int (x20 + (1 : Int32)))).bind fun h21 =>
            (pV h21 6 o 13 (.int 2)).bind fun h22 =>
            some h22
      else
        (pV h11 6 o 13 (.int 3)).bind fun h52 =>
        some h52
    ))
    LF h2
def m_X6_freeSet_L4 (u1 : Nat) (h : Hp) (k4_38 : Int32 → Option Int32) : Nat → Int32 → Int32 → Option Int32
  | 0, _, _ => none
  | f + 1, w2, w3 =>
    (gR h 6 u1 0).bind fun a5 =>
    (aI h 0 a5 (0 : Int32)).bind fun x6 =>
    if x6 ≤ w3 then
      k4_38 w2
    else
      cv h 6 u1 <| (m_X6_isFree u1 w3 h).bind fun bb7 =>
      jK (κ := Int32 → Option Int32) (fun v8 => (
        nm (w2 ||| v8) fun x10 =>
        nm (w3 + 1) fun x11 =>
        m_X6_freeSet_L4 u1 h k4_38 f x10 x11
      )) fun k9 =>
      if bb7 = true then
        k9 ((1 : Int32) <<< (w3 &&& 31))
      else
        k9 (0 : Int32)
def m_X6_freeSet (o : Nat) (h : Hp) : Option Int32 :=
  m_X6_freeSet_L4  o h
    (fun v4 => (
      some v4
    ))
    LF (0 : Int32) (0 : Int32)
def m_X6_partsIn_L4 (u1 : Nat) (u2 : Int32) (h : Hp) (k4_28 : Int32 → Option Int32) : Nat → Int32 → Int32 → Option Int32
  | 0, _, _ => none
  | f + 1, w3, w4 =>
    if w4 ≤ 0 then
      k4_28 w3
    else
      nm (w3 + 1) fun x6 =>
      (m_X6_lowest w4).bind fun x7 =>
      cv h 6 u1 <| (m_X6_reached u1 x7 u2 h).bind fun x8 =>
      nm (w4 &&& (x8 ^^^ (-1 : Int32))) fun x9 =>
      m_X6_partsIn_L4 u1 u2 h k4_28 f x6 x9
def m_X6_partsIn (o : Nat) (p1 : Int32) (h : Hp) : Option Int32 :=
  m_X6_partsIn_L4  o p1 h
    (fun v5 => (
      some v5
    ))
    LF (0 : Int32) p1
def m_X6_around_L4 (u1 : Nat) (u2 : Int32) (h : Hp) (k4_47 : Int32 → Option Int32) : Nat → Int32 → Int32 → Option Int32
  | 0, _, _ => none
  | f + 1, w3, w4 =>
    (gR h 6 u1 0).bind fun a6 =>
    (aI h 0 a6 (0 : Int32)).bind fun x7 =>
    if x7 ≤ w4 then
      k4_47 w3
    else
      cv h 6 u1 <| (m_X6_areNext u1 u2 w4 h).bind fun bb8 =>
      jK (κ := Int32 → Option Int32) (fun v9 => (
        nm (w4 + 1) fun x11 =>
        m_X6_around_L4 u1 u2 h k4_47 f v9 x11
      )) fun k10 =>
      if bb8 = true then
        cv h 6 u1 <| (m_X6_isFree u1 w4 h).bind fun bb12 =>
        if bb12 = true then
          k10 w3
        else
          cv h 6 u1 <| (m_X6_colourOf u1 w4 h).bind fun x13 =>
          nm (w3 ||| ((1 : Int32) <<< (x13 &&& 31))) fun x14 =>
          k10 x14
      else
        k10 w3
def m_X6_around (o : Nat) (p1 : Int32) (h : Hp) : Option Int32 :=
  m_X6_around_L4  o p1 h
    (fun v5 => (
      some v5
    ))
    LF (0 : Int32) (0 : Int32)
def m_X6_edgesIn_L4 (u1 : Nat) (u2 : Int32) (h : Hp) (k4_50 : Int32 → Option Int32) : Nat → Int32 → Int32 → Option Int32
  | 0, _, _ => none
  | f + 1, w3, w4 =>
    (gR h 6 u1 0).bind fun a6 =>
    (aI h 0 a6 (0 : Int32)).bind fun x7 =>
    if x7 ≤ w4 then
      k4_50 w3
    else
      jK (κ := Int32 → Option Int32) (fun v8 => (
        nm (w3 + v8) fun x10 =>
        nm (w4 + 1) fun x11 =>
        m_X6_edgesIn_L4 u1 u2 h k4_50 f x10 x11
      )) fun k9 =>
      if ((u2 >>> (w4 &&& 31)) &&& (1 : Int32)) = (1 : Int32) then
        (gR h 6 u1 0).bind fun a12 =>
        (aI h 0 a12 ((13 : Int32) + w4)).bind fun x13 =>
        (m_X6_bits (x13 &&& u2)).bind fun x14 =>
        k9 x14
      else
        k9 (0 : Int32)
def m_X6_edgesIn (o : Nat) (p1 : Int32) (h : Hp) : Option Int32 :=
  m_X6_edgesIn_L4  o p1 h
    (fun v5 => (
      some (jdiv v5 (2 : Int32))
    ))
    LF (0 : Int32) (0 : Int32)
def m_X6_isVertex (o : Nat) (p1 : Int32) (h : Hp) : Option Bool :=
  (gR h 6 o 0).bind fun a1 =>
  (aI h 0 a1 (0 : Int32)).bind fun x2 =>
  (m_X6_isIn p1 (0 : Int32) (x2 - (1 : Int32))).bind fun bb3 =>
  some bb3
def m_X6_isColour (o : Nat) (p1 : Int32) (h : Hp) : Option Bool :=
  (gR h 6 o 0).bind fun a1 =>
  (aI h 0 a1 (1 : Int32)).bind fun x2 =>
  (m_X6_isIn p1 (0 : Int32) (x2 - (1 : Int32))).bind fun bb3 =>
  some bb3
def m_X6_placeOf_L12 (u4 : Nat) (u5 : Int32) (u6 : Int32) (h : Hp) (k12_111 : Int32 → Option Int32) : Nat → Int32 → Int32 → Option Int32
  | 0, _, _ => none
  | f + 1, w7, w8 =>
    if w8 < 0 then
      k12_111 w7
    else
      jK (κ := Bool → Option Int32) (fun v10 => (
        cv h 6 u4 <| (m_X6_isFree u4 w8 h).bind fun bb12 =>
        jK (κ := Bool → Option Int32) (fun v13 => (
          (gR h 6 u4 0).bind fun a15 =>
          (aI h 0 a15 (1 : Int32)).bind fun x16 =>
          jK (κ := Int32 → Option Int32) (fun v17 => (
            nm ((w7 * (x16 + (1 : Int32))) + v17) fun x19 =>
            nm (w8 + (-1)) fun x20 =>
            m_X6_placeOf_L12 u4 u5 u6 h k12_111 f x19 x20
          )) fun k18 =>
          if v10 = true then
            k18 (0 : Int32)
          else
            if v13 = true then
              (gR h 6 u4 0).bind fun a21 =>
              (aI h 0 a21 ((22 : Int32) + w8)).bind fun x22 =>
              k18 x22
            else
              k18 (1 : Int32)
        )) fun k14 =>
        if bb12 = true then
          k14 false
        else
          (gR h 6 u4 0).bind fun a25 =>
          (aI h 0 a25 ((13 : Int32) + w8)).bind fun x26 =>
          if (x26 &&& u5) = 0 then
            k14 false
          else
            k14 true
      )) fun k11 =>
      if ((u5 >>> (w8 &&& 31)) &&& (1 : Int32)) = (1 : Int32) then
        k11 true
      else
        k11 false
def m_X6_placeOf (o : Nat) (p1 : Int32) (p2 : Int32) (h : Hp) : Option Int32 :=
  (gR h 6 o 0).bind fun a1 =>
  (aI h 0 a1 (0 : Int32)).bind fun x2 =>
  nm (x2 - (1 : Int32)) fun x3 =>
  m_X6_placeOf_L12  o p1 p2 h
    (fun v9 => (
      (gR h 6 o 0).bind fun a31 =>
      (aI h 0 a31 (1 : Int32)).bind fun x32 =>
      some (((v9 * (x32 + (1 : Int32))) + p2) + (1 : Int32))
    ))
    LF (0 : Int32) x3
def m_X6_move (o : Nat) (p1 : Int32) (p2 : Int32) (h : Hp) : Option (Int32 × Hp) :=
  (gR h 6 o 0).bind fun a1 =>
  (aI h 0 a1 (3 : Int32)).bind fun x2 =>
  (m_X6_isIn p1 (0 : Int32) (x2 - (1 : Int32))).bind fun bb3 =>
  jK (κ := Int32 → Option (Int32 × Hp)) (fun v4 => (
    (pV h 6 o 7 (.int v4)).bind fun h6 =>
    (gI h6 6 o 7).bind fun x7 =>
    if x7 ≤ 0 then
      cv h6 6 o <| (m_X6_moved o p1 p2 h6).bind fun x8 =>
      some (x8, h6)
    else
      some ((0 : Int32), h6)
  )) fun k5 =>
  if bb3 = true then
    (m_X6_isIn p2 (0 : Int32) (3 : Int32)).bind fun bb10 =>
    if bb10 = true then
      k5 (0 : Int32)
    else
      k5 (2 : Int32)
  else
    k5 (1 : Int32)
def m_X6_counts (o : Nat) (p1 : Int32) (p2 : Int32) (h : Hp) : Option Bool :=
  cv h 6 o <| (m_X6_moved o p1 (1 : Int32) h).bind fun x1 =>
  jK (κ := Bool → Option Bool) (fun v2 => (
    if p2 = (1 : Int32) then
      some v2
    else
      if v2 = true then
        some false
      else
        if p2 = 0 then
          some true
        else
          jK (κ := Option Bool) (
            if p2 = (3 : Int32) then
              cv h 6 o <| (m_X6_moved o p1 (4 : Int32) h).bind fun x5 =>
              if x5 = 0 then
                some true
              else
                some false
            else
              some false
          ) fun k4 =>
          if p2 = (2 : Int32) then
            cv h 6 o <| (m_X6_moved o p1 (4 : Int32) h).bind fun x8 =>
            if (1 : Int32) < x8 then
              some true
            else
              k4
          else
            k4
  )) fun k3 =>
  if x1 = (-1 : Int32) then
    k3 true
  else
    k3 false
def m_X6_writeBoard_L12 (u3 : Nat) (k12_53 : Hp → Option (Int32 × Hp)) : Nat → Int32 → Hp → Option (Int32 × Hp)
  | 0, _, _ => none
  | f + 1, w4, h =>
    (gR h 6 u3 0).bind fun a6 =>
    (aI h 0 a6 (0 : Int32)).bind fun x7 =>
    if x7 ≤ w4 then
      k12_53 h
    else
      cv h 6 u3 <| (m_X6_isFree u3 w4 h).bind fun bb8 =>
      jK (κ := Int32 → Option (Int32 × Hp)) (fun v9 => (
        cv h 6 u3 <| (m_X6_says u3 v9 h).bind fun h11 =>
        nm (w4 + 1) fun x12 =>
        m_X6_writeBoard_L12 u3 k12_53 f x12 h11
      )) fun k10 =>
      if bb8 = true then
        k10 (46 : Int32)
      else
        cv h 6 u3 <| (m_X6_colourOf u3 w4 h).bind fun x13 =>
        k10 ((97 : Int32) + x13)
def m_X6_writeBoard (o : Nat) (h : Hp) : Option (Int32 × Hp) :=
  (pV h 6 o 7 (.int 0)).bind fun h1 =>
  (pV h1 6 o 21 (.int 0)).bind fun h2 =>
  m_X6_writeBoard_L12  o
    (fun h5 => (
      cv h5 6 o <| (m_X6_says o (47 : Int32) h5).bind fun h16 =>
      cv h16 6 o <| (m_X6_turn o h16).bind fun x17 =>
      cv h16 6 o <| (m_X6_says o ((48 : Int32) + x17) h16).bind fun h18 =>
      cv h18 6 o <| (m_X6_says o (47 : Int32) h18).bind fun h19 =>
      (gR h19 6 o 0).bind fun a20 =>
      (aI h19 0 a20 (2 : Int32)).bind fun x21 =>
      cv h19 6 o <| (m_X6_says o ((48 : Int32) + x21) h19).bind fun h22 =>
      (gI h22 6 o 21).bind fun x23 =>
      some (x23, h22)
    ))
    LF (0 : Int32) h2
def m_X6_writtenByte (o : Nat) (p1 : Int32) (h : Hp) : Option (Int32 × Hp) :=
  (gI h 6 o 21).bind fun x1 =>
  (m_X6_isIn p1 (0 : Int32) (x1 - (1 : Int32))).bind fun bb2 =>
  jK (κ := Bool → Option (Int32 × Hp)) (fun v3 => (
    (pV h 6 o 7 (.int (bI v3))).bind fun h5 =>
    (gI h5 6 o 7).bind fun x6 =>
    if x6 ≤ 0 then
      (gR h5 6 o 20).bind fun a7 =>
      (aI h5 0 a7 p1).bind fun x8 =>
      some (x8, h5)
    else
      some ((0 : Int32), h5)
  )) fun k4 =>
  if bb2 = true then
    k4 false
  else
    k4 true
def m_X6_save (o : Nat) (p1 : Int32) (h : Hp) : Option (Int32 × Hp) :=
  (m_X6_isIn p1 (0 : Int32) (1 : Int32)).bind fun bb1 =>
  jK (κ := Bool → Option (Int32 × Hp)) (fun v2 => (
    (pV h 6 o 7 (.int (bI v2))).bind fun h4 =>
    (gI h4 6 o 7).bind fun x5 =>
    if x5 ≤ 0 then
      (gR h4 6 o 5).bind fun a6 =>
      (sI h4 3 a6 p1 (1 : Int32)).bind fun h7 =>
      (gR h7 6 o 4).bind fun a8 =>
      (gR h7 6 o 0).bind fun a9 =>
      (m_X6_sets a8 ((4136 : Int32) * p1) a9 (0 : Int32) h7).bind fun h10 =>
      (gR h10 6 o 0).bind fun a11 =>
      (aI h10 0 a11 (3 : Int32)).bind fun x12 =>
      some (x12, h10)
    else
      some ((0 : Int32), h4)
  )) fun k3 =>
  if bb1 = true then
    k3 false
  else
    k3 true
def m_X0_takeFrom (o : Nat) (p1 : Nat) (h : Hp) : Option Hp :=
  (gI h 0 p1 0).bind fun x1 =>
  (pV h 0 o 0 (.int x1)).bind fun h2 =>
  (gI h2 0 p1 1).bind fun x3 =>
  (pV h2 0 o 1 (.int x3)).bind fun h4 =>
  (gI h4 0 p1 2).bind fun x5 =>
  (pV h4 0 o 2 (.int x5)).bind fun h6 =>
  (gI h6 0 p1 3).bind fun x7 =>
  (pV h6 0 o 3 (.int x7)).bind fun h8 =>
  (gI h8 0 p1 4).bind fun x9 =>
  (pV h8 0 o 4 (.int x9)).bind fun h10 =>
  (gI h10 0 p1 5).bind fun x11 =>
  (pV h10 0 o 5 (.int x11)).bind fun h12 =>
  (gN h12 0 p1 6).bind fun q13 =>
  (pV h12 0 o 6 (va_rf q13)).bind fun h14 =>
  (gR h14 0 p1 7).bind fun a15 =>
  (gR h14 0 o 7).bind fun a16 =>
  (m_X5_copyRow a15 a16 h14).bind fun h17 =>
  (gR h17 0 p1 8).bind fun a18 =>
  (gR h17 0 o 8).bind fun a19 =>
  (m_X5_copyRow a18 a19 h17).bind fun h20 =>
  (gR h20 0 p1 9).bind fun a21 =>
  (gR h20 0 o 9).bind fun a22 =>
  (m_X5_copyRow a21 a22 h20).bind fun h23 =>
  (gR h23 0 p1 10).bind fun a24 =>
  (gR h23 0 o 10).bind fun a25 =>
  (m_X5_copyRow a24 a25 h23).bind fun h26 =>
  some h26
def m_X0_startEmpty (o : Nat) (p1 : Int32) (h : Hp) : Option Hp :=
  (pV h 0 o 1 (.int p1)).bind fun h1 =>
  (pV h1 0 o 2 (.int 0)).bind fun h2 =>
  (pV h2 0 o 3 (.int 0)).bind fun h3 =>
  (pV h3 0 o 4 (.int 0)).bind fun h4 =>
  (pV h4 0 o 5 (.int 0)).bind fun h5 =>
  (pV h5 0 o 6 (.null)).bind fun h6 =>
  (gR h6 0 o 7).bind fun a7 =>
  (m_X5_clearRow a7 h6).bind fun h8 =>
  (gR h8 0 o 8).bind fun a9 =>
  (m_X5_clearRow a9 h8).bind fun h10 =>
  (gR h10 0 o 9).bind fun a11 =>
  (m_X5_clearRow a11 h10).bind fun h12 =>
  (gR h12 0 o 10).bind fun a13 =>
  (m_X5_clearRow a13 h12).bind fun h14 =>
  some h14
def m_X0_addVertex_L9 (u3 : Nat) (u4 : Int32) (u5 : Int32) (k9_42 : Hp → Option Hp) : Nat → Int32 → Hp → Option Hp
  | 0, _, _ => none
  | f + 1, w6, h =>
    (gR h 0 u3 8).bind fun a8 =>
    (aN h 0 a8).bind fun x9 =>
    if x9 ≤ w6 then
      k9_42 h
    else
      (m_X5_has u4 w6).bind fun bb10 =>
      jK (κ := Hp → Option Hp) (fun h11 => (
        nm (w6 + 1) fun x13 =>
        m_X0_addVertex_L9 u3 u4 u5 k9_42 f x13 h11
      )) fun k12 =>
      if bb10 = true then
        (gR h 0 u3 8).bind fun a14 =>
        (aI h 0 a14 w6).bind fun x15 =>
        (sI h 0 a14 w6 (x15 ||| u5)).bind fun h16 =>
        k12 h16
      else
        k12 h
def m_X0_addVertex (o : Nat) (p1 : Int32) (h : Hp) : Option Hp :=
  (gI h 0 o 2).bind fun x1 =>
  nm ((1 : Int32) <<< (x1 &&& 31)) fun x2 =>
  m_X0_addVertex_L9  o p1 x2
    (fun h7 => (
      (gI h7 0 o 4).bind fun x19 =>
      (pV h7 0 o 4 (.int (x19 ||| x2))).bind fun h20 =>
      (gI h20 0 o 2).bind fun x21 =>
      (pV h20 0 o 2 (.int (x21 + (1 : Int32)))).bind fun h22 =>
      some h22
    ))
    LF (0 : Int32) h
def m_X0_addEdge (o : Nat) (p1 : Int32) (p2 : Int32) (h : Hp) : Option Hp :=
  (gR h 0 o 7).bind fun a1 =>
  (m_X5_add a1 p1 ((1 : Int32) <<< (p2 &&& 31)) h).bind fun h2 =>
  (gR h2 0 o 7).bind fun a3 =>
  (m_X5_add a3 p2 ((1 : Int32) <<< (p1 &&& 31)) h2).bind fun h4 =>
  some h4
def m_X0_hasPair (o : Nat) (p1 : Int32) (p2 : Int32) (h : Hp) : Option Bool :=
  cv h 0 o <| (m_X0_hasVertex o p1 h).bind fun bb1 =>
  if bb1 = true then
    if p2 < 0 then
      some false
    else
      (gI h 0 o 1).bind fun x2 =>
      if x2 ≤ p2 then
        some false
      else
        some true
  else
    some false
def m_X0_edgesIn_L4 (u1 : Nat) (u2 : Int32) (h : Hp) (k4_41 : Int32 → Option Int32) : Nat → Int32 → Int32 → Option Int32
  | 0, _, _ => none
  | f + 1, w3, w4 =>
    (gR h 0 u1 7).bind fun a6 =>
    (aN h 0 a6).bind fun x7 =>
    if x7 ≤ w4 then
      k4_41 w3
    else
      (m_X5_has u2 w4).bind fun bb8 =>
      jK (κ := Int32 → Option Int32) (fun v9 => (
        nm (w4 + 1) fun x11 =>
        m_X0_edgesIn_L4 u1 u2 h k4_41 f v9 x11
      )) fun k10 =>
      if bb8 = true then
        (gR h 0 u1 7).bind fun a12 =>
        (aI h 0 a12 w4).bind fun x13 =>
        (m_J6_bitCount (x13 &&& u2)).bind fun x14 =>
        nm (w3 + x14) fun x15 =>
        k10 x15
      else
        k10 w3
def m_X0_edgesIn (o : Nat) (p1 : Int32) (h : Hp) : Option Int32 :=
  m_X0_edgesIn_L4  o p1 h
    (fun v5 => (
      some (jdiv v5 (2 : Int32))
    ))
    LF (0 : Int32) (0 : Int32)
def m_X0_coloursAt_L5 (u1 : Nat) (u2 : Int32) (h : Hp) (k5_36 : Int32 → Option Int32) : Nat → Int32 → Int32 → Option Int32
  | 0, _, _ => none
  | f + 1, w3, w4 =>
    (aN h 0 u1).bind fun x6 =>
    if x6 ≤ w4 then
      k5_36 w3
    else
      (aI h 0 u1 w4).bind fun x7 =>
      (m_X5_has x7 u2).bind fun bb8 =>
      jK (κ := Int32 → Option Int32) (fun v9 => (
        nm (w4 + 1) fun x11 =>
        m_X0_coloursAt_L5 u1 u2 h k5_36 f v9 x11
      )) fun k10 =>
      if bb8 = true then
        nm (w3 ||| ((1 : Int32) <<< (w4 &&& 31))) fun x12 =>
        k10 x12
      else
        k10 w3
def m_X0_coloursAt (o : Nat) (p1 : Nat) (p2 : Int32) (h : Hp) : Option Int32 :=
  m_X0_coloursAt_L5  p1 p2 h
    (fun v5 => (
      some v5
    ))
    LF (0 : Int32) (0 : Int32)
def m_X0_isFree (o : Nat) (p1 : Int32) (h : Hp) : Option Bool :=
  (gI h 0 o 4).bind fun x1 =>
  (m_X5_has x1 p1).bind fun bb2 =>
  some bb2
def m_X0_reachable_L10 (u2 : Nat) (u3 : Int32) (h : Hp) (k10_108 : Int32 → Option Int32) : Nat → Int32 → Int32 → Int32 → Option Int32
  | 0, _, _, _ => none
  | f + 1, w4, w5, w6 =>
    if (9 : Int32) ≤ w6 then
      k10_108 w4
    else
      if w5 = 0 then
        k10_108 w4
      else
        nm (w5 &&& (-w5)) fun x8 =>
        (m_J6_bitCount (x8 - (1 : Int32))).bind fun x9 =>
        jK (κ := Bool → Option Int32) (fun v10 => (
          jK (κ := Int32 → Option Int32) (fun v12 => (
            nm (w4 ||| v12) fun x14 =>
            nm ((w5 &&& (x8 ^^^ (-1 : Int32))) ||| v12) fun x15 =>
            nm (w6 + 1) fun x16 =>
            m_X0_reachable_L10 u2 u3 h k10_108 f x14 x15 x16
          )) fun k13 =>
          if v10 = true then
            (gR h 0 u2 7).bind fun a17 =>
            (aI h 0 a17 x9).bind fun x18 =>
            k13 ((x18 &&& u3) &&& (w4 ^^^ (-1 : Int32)))
          else
            k13 (0 : Int32)
        )) fun k11 =>
        if x9 < 0 then
          k11 false
        else
          (gR h 0 u2 7).bind fun a20 =>
          (aN h 0 a20).bind fun x21 =>
          if x21 ≤ x9 then
            k11 false
          else
            k11 true
def m_X0_reachable (o : Nat) (p1 : Int32) (p2 : Int32) (h : Hp) : Option Int32 :=
  nm (p1 &&& p2) fun x1 =>
  m_X0_reachable_L10  o p2 h
    (fun v7 => (
      some v7
    ))
    LF x1 x1 (0 : Int32)
def m_X0_openTo_L16 (u5 : Nat) (u6 : Int32) (h : Hp) (k16_57 : Int32 → Option Int32) : Nat → Int32 → Int32 → Option Int32
  | 0, _, _ => none
  | f + 1, w7, w8 =>
    (gR h 0 u5 7).bind fun a10 =>
    (aN h 0 a10).bind fun x11 =>
    if x11 ≤ w8 then
      k16_57 w7
    else
      (gR h 0 u5 7).bind fun a12 =>
      (aI h 0 a12 w8).bind fun x13 =>
      (gR h 0 u5 9).bind fun a14 =>
      (m_X5_at a14 u6 h).bind fun x15 =>
      jK (κ := Int32 → Option Int32) (fun v16 => (
        nm (w8 + 1) fun x18 =>
        m_X0_openTo_L16 u5 u6 h k16_57 f v16 x18
      )) fun k17 =>
      if (x13 &&& x15) = 0 then
        k17 w7
      else
        nm (w7 &&& (((1 : Int32) <<< (w8 &&& 31)) ^^^ (-1 : Int32))) fun x19 =>
        k17 x19
def m_X0_openTo (o : Nat) (p1 : Int32) (h : Hp) : Option Int32 :=
  (gR h 0 o 8).bind fun a1 =>
  (m_X5_at a1 p1 h).bind fun x2 =>
  (gI h 0 o 4).bind fun x3 =>
  nm (x2 &&& x3) fun x4 =>
  m_X0_openTo_L16  o p1 h
    (fun v9 => (
      some v9
    ))
    LF x4 (0 : Int32)
def m_X0_movesBy_L16 (u4 : Int32) (u5 : Int32) (h : Hp) (k16_59 : Int32 → Option Int32) : Nat → Int32 → (Option Nat) → Int32 → Option Int32
  | 0, _, _, _ => none
  | f + 1, w6, w7, w8 =>
    if w8 < 0 then
      k16_59 w6
    else
      nz w7 (
        k16_59 w6
      ) fun a10 =>
      jK (κ := Int32 → Option Int32) (fun v11 => (
        (gN h 2 a10 0).bind fun q13 =>
        nm (w8 + (-1)) fun x14 =>
        m_X0_movesBy_L16 u4 u5 h k16_59 f v11 q13 x14
      )) fun k12 =>
      if (w8 &&& (1 : Int32)) = u4 then
        cv h 2 a10 <| (m_X2_countsAs a10 u5 h).bind fun bb15 =>
        if bb15 = true then
          nm (w6 + 1) fun x16 =>
          k12 x16
        else
          k12 w6
      else
        k12 w6
def m_X0_movesBy (o : Nat) (p1 : Int32) (p2 : Int32) (h : Hp) : Option Int32 :=
  (gN h 0 o 6).bind fun q1 =>
  (gI h 0 o 5).bind fun x2 =>
  nm (x2 - (1 : Int32)) fun x3 =>
  m_X0_movesBy_L16  p1 p2 h
    (fun v9 => (
      some v9
    ))
    LF (0 : Int32) q1 x3
def m_X3_init (o : Nat) (h : Hp) : Option Hp :=
  nw h (.inr (0, [.int 0, .int 0, .int 0, .int 0, .int 0, .int 0, .null, .null, .null, .null, .null])) 11 fun a1 h2 =>
  (m_X0_init a1 h2).bind fun h3 =>
  (pV h3 3 o 0 (.ref a1)).bind fun h4 =>
  (pV h4 3 o 2 (.int (-1))).bind fun h5 =>
  nw h5 (.inl (2, 500, .inl fun _ => 0)) 500 fun a6 h7 =>
  (pV h7 3 o 3 (.ref a6)).bind fun h8 =>
  some h8
def m_X3_readEnd (o : Nat) (h : Hp) : Option (Bool × Hp) :=
  (gI h 3 o 6).bind fun x1 =>
  if x1 = 0 then
    some (true, h)
  else
    cv h 3 o <| b2 (m_X3_fail o (-2 : Int32) h) fun bb2 h3 =>
    if bb2 = true then
      some (true, h3)
    else
      some (false, h3)
def m_X3_listHere_L7 (u2 : Nat) (h : Hp) (k7_60 : Int32 → Option Int32) (k7_46 : Option Int32) : Nat → Int32 → Int32 → Option Int32
  | 0, _, _ => none
  | f + 1, w3, w4 =>
    (gI h 3 u2 8).bind fun x6 =>
    if x6 ≤ w4 then
      k7_60 w3
    else
      cv h 3 u2 <| (m_X3_byteAt u2 w4 h).bind fun x7 =>
      nm (x7 - (97 : Int32)) fun x8 =>
      (gR h 3 u2 0).bind fun a9 =>
      cv h 0 a9 <| (m_X0_everyColour a9 h).bind fun x10 =>
      (m_X5_has x10 x8).bind fun bb11 =>
      if bb11 = true then
        (m_X5_has w3 x8).bind fun bb12 =>
        if bb12 = true then
          k7_46
        else
          nm (w3 ||| ((1 : Int32) <<< (x8 &&& 31))) fun x13 =>
          nm (w4 + 1) fun x14 =>
          m_X3_listHere_L7 u2 h k7_60 k7_46 f x13 x14
      else
        k7_46
def m_X3_listHere (o : Nat) (h : Hp) : Option Int32 :=
  (gI h 3 o 7).bind fun x1 =>
  m_X3_listHere_L7  o h
    (fun v5 => (
      some v5
    ))
    (some (0 : Int32))
    LF (0 : Int32) x1
def m_X3_advance_L8 (u3 : Nat) (k8_45 : Hp → Option Hp) : Nat → Hp → Option Hp
  | 0, _ => none
  | f + 1, h =>
    (gI h 3 u3 7).bind fun x5 =>
    (gI h 3 u3 4).bind fun x6 =>
    if x6 ≤ x5 then
      k8_45 h
    else
      (gI h 3 u3 7).bind fun x7 =>
      cv h 3 u3 <| (m_X3_byteAt u3 x7 h).bind fun x8 =>
      if x8 = (32 : Int32) then
        (gI h 3 u3 7).bind fun x9 =>
        (pV h 3 u3 7 (.int (x9 + (1 : Int32)))).bind fun h10 =>
        m_X3_advance_L8 u3 k8_45 f h10
      else
        k8_45 h
def m_X3_advance_L155 (u25 : Nat) (k155_237 : Hp → Option Hp) : Nat → Hp → Option Hp
  | 0, _ => none
  | f + 1, h =>
    (gI h 3 u25 8).bind fun x27 =>
    (gI h 3 u25 4).bind fun x28 =>
    if x28 ≤ x27 then
      k155_237 h
    else
      (gI h 3 u25 8).bind fun x29 =>
      cv h 3 u25 <| (m_X3_byteAt u25 x29 h).bind fun x30 =>
      (m_X3_isDigit x30).bind fun bb31 =>
      if bb31 = true then
        (gI h 3 u25 9).bind fun x32 =>
        (gI h 3 u25 8).bind fun x33 =>
        cv h 3 u25 <| (m_X3_byteAt u25 x33 h).bind fun x34 =>
        (pV h 3 u25 9 (.int (jmin ((((10 : Int32) * x32) + x34) - (48 : Int32)) (1000 : Int32)))).bind fun h35 =>
        (gI h35 3 u25 8).bind fun x36 =>
        (pV h35 3 u25 8 (.int (x36 + (1 : Int32)))).bind fun h37 =>
        m_X3_advance_L155 u25 k155_237 f h37
      else
        k155_237 h
def m_X3_advance_L97 (u42 : Nat) (k97_237 : Hp → Option Hp) : Nat → Hp → Option Hp
  | 0, _ => none
  | f + 1, h =>
    (gI h 3 u42 8).bind fun x44 =>
    (gI h 3 u42 4).bind fun x45 =>
    if x45 ≤ x44 then
      k97_237 h
    else
      (gI h 3 u42 8).bind fun x46 =>
      cv h 3 u42 <| (m_X3_byteAt u42 x46 h).bind fun x47 =>
      (m_X3_isLetter x47).bind fun bb48 =>
      if bb48 = true then
        (gI h 3 u42 8).bind fun x49 =>
        (pV h 3 u42 8 (.int (x49 + (1 : Int32)))).bind fun h50 =>
        m_X3_advance_L97 u42 k97_237 f h50
      else
        k97_237 h
def m_X3_advance (o : Nat) (h : Hp) : Option Hp :=
  (gI h 3 o 8).bind fun x1 =>
  (pV h 3 o 7 (.int x1)).bind fun h2 =>
  m_X3_advance_L8  o
    (fun h4 => (
      (gI h4 3 o 7).bind fun x13 =>
      (pV h4 3 o 8 (.int (x13 + (1 : Int32)))).bind fun h14 =>
      (gI h14 3 o 7).bind fun x15 =>
      cv h14 3 o <| (m_X3_byteAt o x15 h14).bind fun x16 =>
      if x16 = (-1 : Int32) then
        (pV h14 3 o 6 (.int 0)).bind fun h54 =>
        (gI h54 3 o 7).bind fun x55 =>
        (pV h54 3 o 8 (.int x55)).bind fun h56 =>
        some h56
      else
        (m_X3_isLetter x16).bind fun bb17 =>
        if bb17 = true then
          (pV h14 3 o 6 (.int 1)).bind fun h41 =>
          m_X3_advance_L97  o
            (fun h43 => (
              some h43
            ))
            LF h41
        else
          (m_X3_isDigit x16).bind fun bb18 =>
          if bb18 = true then
            (pV h14 3 o 6 (.int 2)).bind fun h23 =>
            (pV h23 3 o 9 (.int (x16 - (48 : Int32)))).bind fun h24 =>
            m_X3_advance_L155  o
              (fun h26 => (
                some h26
              ))
              LF h24
          else
            jK (κ := Int32 → Option Hp) (fun v19 => (
              (pV h14 3 o 6 (.int v19)).bind fun h21 =>
              some h21
            )) fun k20 =>
            if x16 = (59 : Int32) then
              k20 (3 : Int32)
            else
              k20 (4 : Int32)
    ))
    LF h2
def m_X4_init (o : Nat) (h : Hp) : Option Hp :=
  nw h (.inr (0, [.int 0, .int 0, .int 0, .int 0, .int 0, .int 0, .null, .null, .null, .null, .null])) 11 fun a1 h2 =>
  (m_X0_init a1 h2).bind fun h3 =>
  (pV h3 4 o 0 (.ref a1)).bind fun h4 =>
  nw h4 (.inl (1, 32768, .inr (.inl fun _ => 0))) 32768 fun a5 h6 =>
  (pV h6 4 o 1 (.ref a5)).bind fun h7 =>
  nw h7 (.inl (0, 32768, .inl fun _ => 0)) 32768 fun a8 h9 =>
  (pV h9 4 o 2 (.ref a8)).bind fun h10 =>
  some h10
def m_X4_behind (o : Nat) (p1 : Int64) (p2 : Int32) (p3 : Int32) (h : Hp) : Option Int64 :=
  (gR h 4 o 0).bind fun a1 =>
  cv h 0 a1 <| (m_X0_neighbours a1 p2 h).bind fun x2 =>
  (m_X4_setShift p3).bind fun x3 =>
  nm (jlshl (Int32.toInt64 x2) x3) fun x4 =>
  some ((p1 &&& ((((jlshl 134480385 p2) ||| x4) ||| 206158430208) ^^^ (-1))) ||| (jlshl (Int32.toInt64 (p3 + (1 : Int32))) (36 : Int32)))
def m_X5_init (o : Nat) (h : Hp) : Option Hp :=
  nw h (.inr (4, [.null, .null, .null])) 3 fun a1 h2 =>
  (m_X4_init a1 h2).bind fun h3 =>
  (pV h3 5 o 1 (.ref a1)).bind fun h4 =>
  (gR h4 5 o 1).bind fun a5 =>
  (gR h4 4 a5 0).bind fun a6 =>
  (pV h4 5 o 0 (.ref a6)).bind fun h7 =>
  nw h7 (.inr (3, [.null, .int 0, .int 0, .null, .int 0, .int 0, .int 0, .int 0, .int 0, .int 0])) 10 fun a8 h9 =>
  (m_X3_init a8 h9).bind fun h10 =>
  (pV h10 5 o 2 (.ref a8)).bind fun h11 =>
  nw h11 (.inr (1, [.int 0, .int 0, .null])) 3 fun a12 h13 =>
  (m_X1_init a12 h13).bind fun h14 =>
  (pV h14 5 o 3 (.ref a12)).bind fun h15 =>
  nw h15 (.inl (4, 2, .inr (.inr (.inr (.inr fun _ => none))))) 2 fun a16 h17 =>
  (pV h17 5 o 4 (.ref a16)).bind fun h18 =>
  nw h18 (.inl (2, 13, .inl fun _ => 0)) 13 fun a19 h20 =>
  (pV h20 5 o 5 (.ref a19)).bind fun h21 =>
  some h21
def m_X5_account (o : Nat) (p1 : Int32) (p2 : Int32) (h : Hp) : Option ((Int32 ⊕ Nat) × Hp) :=
  if p1 < 0 then
    some (.inr 2, hpush h (.inr (9, [])) 6)
  else
    if p1 ≤ (1 : Int32) then
      if p2 < 0 then
        some (.inr 1, hpush h (.inr (8, [])) 6)
      else
        if p2 ≤ (4 : Int32) then
          if p2 = (4 : Int32) then
            (gR h 5 o 0).bind fun a3 =>
            cv h 0 a3 <| (m_X0_coloursLaidBy a3 p1 h).bind fun x4 =>
            (m_J6_bitCount x4).bind fun x5 =>
            some (.inl x5, h)
          else
            (gR h 5 o 0).bind fun a1 =>
            cv h 0 a1 <| (m_X0_movesBy a1 p1 p2 h).bind fun x2 =>
            some (.inl x2, h)
        else
          some (.inr 1, hpush h (.inr (8, [])) 6)
    else
      some (.inr 2, hpush h (.inr (9, [])) 6)
def m_X5_keepCopy (p0 : Nat) (p1 : Int32) (p2 : Nat) (h : Hp) : Option Hp :=
  if p1 < 0 then
    some h
  else
    (aN h 4 p0).bind fun x1 =>
    if x1 ≤ p1 then
      some h
    else
      (aQ h 4 p0 p1).bind fun q2 =>
      jK (κ := (Option Nat) → Hp → Option Hp) (fun v3 h4 => (
        (v3).bind fun a6 =>
        cv h4 0 a6 <| (m_X0_takeFrom a6 p2 h4).bind fun h7 =>
        (sQ h7 4 p0 p1 a6).bind fun h8 =>
        some h8
      )) fun k5 =>
      nz q2 (
        nw h (.inr (0, [.int 0, .int 0, .int 0, .int 0, .int 0, .int 0, .null, .null, .null, .null, .null])) 11 fun a11 h12 =>
        (m_X0_init a11 h12).bind fun h13 =>
        k5 (some a11) h13
      ) fun a9 =>
      (aQ h 4 p0 p1).bind fun q10 =>
      k5 q10 h
def m_X6_must (o : Nat) (p1 : Bool) (h : Hp) : Option Hp :=
  jK (κ := Hp → Option Hp) (fun h1 => (
    (gI h1 6 o 15).bind fun x3 =>
    if x3 = 0 then
      cv h1 6 o <| (m_X6_next o h1).bind fun h4 =>
      some h4
    else
      some h1
  )) fun k2 =>
  if p1 = true then
    k2 h
  else
    cv h 6 o <| (m_X6_fails o (-2 : Int32) h).bind fun h6 =>
    k2 h6
def m_X6_takes (o : Nat) (p1 : Int32) (p2 : Int32) (h : Hp) : Option (Int32 × Hp) :=
  (gI h 6 o 15).bind fun x1 =>
  jK (κ := Hp → Option (Int32 × Hp)) (fun h2 => (
    (gI h2 6 o 15).bind fun x4 =>
    jK (κ := Int32 → Option (Int32 × Hp)) (fun v5 => (
      (gI h2 6 o 15).bind fun x7 =>
      if x7 = 0 then
        cv h2 6 o <| (m_X6_next o h2).bind fun h8 =>
        some (v5, h8)
      else
        some (v5, h2)
    )) fun k6 =>
    if x4 = 0 then
      (gI h2 6 o 14).bind fun x10 =>
      k6 x10
    else
      k6 (0 : Int32)
  )) fun k3 =>
  jK (κ := Option (Int32 × Hp)) (
    (gI h 6 o 15).bind fun x13 =>
    if x13 = 0 then
      (gI h 6 o 14).bind fun x14 =>
      (m_X6_isIn x14 p1 p2).bind fun bb15 =>
      if bb15 = true then
        k3 h
      else
        cv h 6 o <| (m_X6_fails o (-3 : Int32) h).bind fun h16 =>
        k3 h16
    else
      k3 h
  ) fun k12 =>
  if x1 = 0 then
    (gI h 6 o 13).bind fun x19 =>
    if x19 = (1 : Int32) then
      k12
    else
      cv h 6 o <| (m_X6_fails o (-2 : Int32) h).bind fun h20 =>
      k3 h20
  else
    k12
def m_X6_partSet_L10 (u2 : Nat) (u3 : Int32) (u4 : Int32) (h : Hp) (k10_40 : Int32 → Option Int32) : Nat → Int32 → Int32 → Option Int32
  | 0, _, _ => none
  | f + 1, w5, w6 =>
    if u3 ≤ w6 then
      k10_40 w5
    else
      if w5 ≤ 0 then
        k10_40 w5
      else
        (m_X6_lowest w5).bind fun x8 =>
        cv h 6 u2 <| (m_X6_reached u2 x8 u4 h).bind fun x9 =>
        nm (w5 &&& (x9 ^^^ (-1 : Int32))) fun x10 =>
        nm (w6 + 1) fun x11 =>
        m_X6_partSet_L10 u2 u3 u4 h k10_40 f x10 x11
def m_X6_partSet (o : Nat) (p1 : Int32) (h : Hp) : Option Int32 :=
  cv h 6 o <| (m_X6_freeSet o h).bind fun x1 =>
  m_X6_partSet_L10  o p1 x1 h
    (fun v7 => (
      if v7 = 0 then
        some (0 : Int32)
      else
        (m_X6_lowest v7).bind fun x14 =>
        cv h 6 o <| (m_X6_reached o x14 x1 h).bind fun x15 =>
        some x15
    ))
    LF x1 (0 : Int32)
def m_X6_partOf_L10 (u2 : Nat) (u3 : Int32) (u4 : Int32) (h : Hp) (k10_50 : Int32 → Option Int32) : Nat → Int32 → Int32 → Option Int32
  | 0, _, _ => none
  | f + 1, w5, w6 =>
    (m_X6_lowest w6).bind fun x8 =>
    cv h 6 u2 <| (m_X6_reached u2 x8 u4 h).bind fun x9 =>
    if ((x9 >>> (u3 &&& 31)) &&& (1 : Int32)) = 0 then
      (m_X6_lowest w6).bind fun x10 =>
      cv h 6 u2 <| (m_X6_reached u2 x10 u4 h).bind fun x11 =>
      nm (w6 &&& (x11 ^^^ (-1 : Int32))) fun x12 =>
      nm (w5 + 1) fun x13 =>
      m_X6_partOf_L10 u2 u3 u4 h k10_50 f x13 x12
    else
      k10_50 w5
def m_X6_partOf (o : Nat) (p1 : Int32) (h : Hp) : Option Int32 :=
  cv h 6 o <| (m_X6_freeSet o h).bind fun x1 =>
  m_X6_partOf_L10  o p1 x1 h
    (fun v7 => (
      some v7
    ))
    LF (0 : Int32) x1
def m_X6_canLay (o : Nat) (p1 : Int32) (p2 : Int32) (p3 : Int32) (h : Hp) : Option Int32 :=
  (gR h 6 o 0).bind fun a1 =>
  (aI h 0 a1 ((4 : Int32) + p1)).bind fun x2 =>
  cv h 6 o <| (m_X6_around o p1 h).bind fun x3 =>
  nm (x2 &&& (x3 ^^^ (-1 : Int32))) fun x4 =>
  if p3 = (-1 : Int32) then
    some x4
  else
    (m_X6_bits p2).bind fun x5 =>
    if x5 = (1 : Int32) then
      some x4
    else
      some (x4 &&& (((1 : Int32) <<< (p3 &&& 31)) ^^^ (-1 : Int32)))
def m_X6_falls (o : Nat) (p1 : Int32) (h : Hp) : Option (Int32 × Hp) :=
  cv h 6 o <| (m_X6_isVertex o p1 h).bind fun bb1 =>
  jK (κ := Int32 → Option (Int32 × Hp)) (fun v2 => (
    (pV h 6 o 7 (.int v2)).bind fun h4 =>
    (gI h4 6 o 7).bind fun x5 =>
    if x5 ≤ 0 then
      cv h4 6 o <| (m_X6_freeSet o h4).bind fun x6 =>
      cv h4 6 o <| (m_X6_reached o p1 x6 h4).bind fun x7 =>
      cv h4 6 o <| (m_X6_partsIn o (x7 &&& (((1 : Int32) <<< (p1 &&& 31)) ^^^ (-1 : Int32))) h4).bind fun x8 =>
      some (x8, h4)
    else
      some ((0 : Int32), h4)
  )) fun k3 =>
  if bb1 = true then
    cv h 6 o <| (m_X6_isFree o p1 h).bind fun bb10 =>
    if bb10 = true then
      k3 (0 : Int32)
    else
      k3 (2 : Int32)
  else
    k3 (1 : Int32)
def m_X6_notes (o : Nat) (p1 : Int32) (p2 : Int32) (p3 : Int32) (h : Hp) : Option Hp :=
  cv h 6 o <| (m_X6_freeSet o h).bind fun x1 =>
  cv h 6 o <| (m_X6_partsIn o x1 h).bind fun x2 =>
  (gR h 6 o 0).bind fun a3 =>
  (gR h 6 o 0).bind fun a4 =>
  (aI h 0 a4 (3 : Int32)).bind fun x5 =>
  cv h 6 o <| (m_X6_turn o h).bind fun x6 =>
  (sI h 0 a3 ((40 : Int32) + x5) ((((x6 ||| ((p1 + (1 : Int32)) <<< ((1 : Int32) &&& 31))) ||| ((p2 + (1 : Int32)) <<< ((5 : Int32) &&& 31))) ||| (x2 <<< ((7 : Int32) &&& 31))) ||| (p3 <<< ((11 : Int32) &&& 31)))).bind fun h7 =>
  (gR h7 6 o 0).bind fun a8 =>
  (aI h7 0 a8 (3 : Int32)).bind fun x9 =>
  (sI h7 0 a8 (3 : Int32) (x9 + (1 : Int32))).bind fun h10 =>
  some h10
def m_X6_setPasses (o : Nat) (p1 : Int32) (h : Hp) : Option (Int32 × Hp) :=
  (m_X6_isIn p1 (0 : Int32) (9 : Int32)).bind fun bb1 =>
  jK (κ := Bool → Option (Int32 × Hp)) (fun v2 => (
    (pV h 6 o 7 (.int (bI v2))).bind fun h4 =>
    (gI h4 6 o 7).bind fun x5 =>
    if x5 ≤ 0 then
      cv h4 6 o <| (m_X6_keeps o h4).bind fun h6 =>
      (gR h6 6 o 0).bind fun a7 =>
      (aI h6 0 a7 (2 : Int32)).bind fun x8 =>
      (gR h6 6 o 0).bind fun a9 =>
      (sI h6 0 a9 (2 : Int32) p1).bind fun h10 =>
      some (x8, h10)
    else
      some ((0 : Int32), h4)
  )) fun k3 =>
  if bb1 = true then
    k3 false
  else
    k3 true
def m_X6_account_L48 (u6 : Nat) (u7 : Int32) (u8 : Int32) (h : Hp) (k48_126 : Int32 → Int32 → Option (Int32 × Hp)) : Nat → Int32 → Int32 → Int32 → Option (Int32 × Hp)
  | 0, _, _, _ => none
  | f + 1, w9, w10, w11 =>
    (gR h 6 u6 0).bind fun a14 =>
    (aI h 0 a14 (3 : Int32)).bind fun x15 =>
    if x15 ≤ w11 then
      k48_126 w9 w10
    else
      cv h 6 u6 <| (m_X6_moved u6 w11 (0 : Int32) h).bind fun x16 =>
      jK (κ := Int32 → Int32 → Option (Int32 × Hp)) (fun v17 v18 => (
        nm (w11 + 1) fun x20 =>
        m_X6_account_L48 u6 u7 u8 h k48_126 f v17 v18 x20
      )) fun k19 =>
      if x16 = u7 then
        cv h 6 u6 <| (m_X6_counts u6 w11 u8 h).bind fun bb21 =>
        jK (κ := Bool → Option (Int32 × Hp)) (fun v22 => (
          nm (w9 + (bI v22)) fun x24 =>
          cv h 6 u6 <| (m_X6_moved u6 w11 (1 : Int32) h).bind fun x25 =>
          jK (κ := Int32 → Option (Int32 × Hp)) (fun v26 => (
            nm (w10 ||| v26) fun x28 =>
            k19 x24 x28
          )) fun k27 =>
          if x25 = (-1 : Int32) then
            k27 (0 : Int32)
          else
            cv h 6 u6 <| (m_X6_moved u6 w11 (2 : Int32) h).bind fun x29 =>
            k27 ((1 : Int32) <<< (x29 &&& 31))
        )) fun k23 =>
        if bb21 = true then
          k23 true
        else
          k23 false
      else
        k19 w9 w10
def m_X6_account (o : Nat) (p1 : Int32) (p2 : Int32) (h : Hp) : Option (Int32 × Hp) :=
  (m_X6_isIn p1 (0 : Int32) (1 : Int32)).bind fun bb1 =>
  jK (κ := Int32 → Option (Int32 × Hp)) (fun v2 => (
    (pV h 6 o 7 (.int v2)).bind fun h4 =>
    (gI h4 6 o 7).bind fun x5 =>
    if x5 ≤ 0 then
      m_X6_account_L48  o p1 p2 h4
        (fun v12 v13 => (
          if p2 = (4 : Int32) then
            (m_X6_bits v13).bind fun x34 =>
            some (x34, h4)
          else
            some (v12, h4)
        ))
        LF (0 : Int32) (0 : Int32) (0 : Int32)
    else
      some ((0 : Int32), h4)
  )) fun k3 =>
  if bb1 = true then
    (m_X6_isIn p2 (0 : Int32) (4 : Int32)).bind fun bb37 =>
    if bb37 = true then
      k3 (0 : Int32)
    else
      k3 (2 : Int32)
  else
    k3 (1 : Int32)
def m_X6_restore (o : Nat) (p1 : Int32) (h : Hp) : Option (Int32 × Hp) :=
  (m_X6_isIn p1 (0 : Int32) (1 : Int32)).bind fun bb1 =>
  jK (κ := Int32 → Option (Int32 × Hp)) (fun v2 => (
    (pV h 6 o 7 (.int v2)).bind fun h4 =>
    (gI h4 6 o 7).bind fun x5 =>
    if x5 ≤ 0 then
      cv h4 6 o <| (m_X6_keeps o h4).bind fun h6 =>
      (gR h6 6 o 0).bind fun a7 =>
      (gR h6 6 o 4).bind fun a8 =>
      (m_X6_sets a7 (0 : Int32) a8 ((4136 : Int32) * p1) h6).bind fun h9 =>
      (gR h9 6 o 0).bind fun a10 =>
      (aI h9 0 a10 (3 : Int32)).bind fun x11 =>
      some (x11, h9)
    else
      some ((0 : Int32), h4)
  )) fun k3 =>
  if bb1 = true then
    (gR h 6 o 5).bind fun a13 =>
    (aI h 3 a13 p1).bind fun x14 =>
    if x14 = 0 then
      k3 (2 : Int32)
    else
      k3 (0 : Int32)
  else
    k3 (1 : Int32)
def m_X0_listOf (o : Nat) (p1 : Int32) (h : Hp) : Option Int32 :=
  (gR h 0 o 8).bind fun a1 =>
  cv h 0 o <| (m_X0_coloursAt o a1 p1 h).bind fun x2 =>
  some x2
def m_X0_partWith (o : Nat) (p1 : Int32) (h : Hp) : Option Int32 :=
  (gI h 0 o 4).bind fun x1 =>
  cv h 0 o <| (m_X0_reachable o ((1 : Int32) <<< (p1 &&& 31)) x1 h).bind fun x2 =>
  some x2
def m_X0_partsIn_L4 (u1 : Nat) (h : Hp) (k4_34 : Int32 → Option Int32) : Nat → Int32 → Int32 → Option Int32
  | 0, _, _ => none
  | f + 1, w2, w3 =>
    if (9 : Int32) ≤ w2 then
      k4_34 w2
    else
      if w3 = 0 then
        k4_34 w2
      else
        cv h 0 u1 <| (m_X0_reachable u1 (w3 &&& (-w3)) w3 h).bind fun x5 =>
        nm (w3 &&& (x5 ^^^ (-1 : Int32))) fun x6 =>
        nm (w2 + 1) fun x7 =>
        m_X0_partsIn_L4 u1 h k4_34 f x7 x6
def m_X0_partsIn (o : Nat) (p1 : Int32) (h : Hp) : Option Int32 :=
  m_X0_partsIn_L4  o h
    (fun v4 => (
      some v4
    ))
    LF (0 : Int32) p1
def m_X0_partAt_L7 (u2 : Nat) (u3 : Int32) (h : Hp) (k7_38 : Int32 → Option Int32) : Nat → Int32 → Int32 → Option Int32
  | 0, _, _ => none
  | f + 1, w4, w5 =>
    if u3 ≤ w5 then
      k7_38 w4
    else
      if (9 : Int32) ≤ w5 then
        k7_38 w4
      else
        cv h 0 u2 <| (m_X0_reachable u2 (w4 &&& (-w4)) w4 h).bind fun x7 =>
        nm (w4 &&& (x7 ^^^ (-1 : Int32))) fun x8 =>
        nm (w5 + 1) fun x9 =>
        m_X0_partAt_L7 u2 u3 h k7_38 f x8 x9
def m_X0_partAt (o : Nat) (p1 : Int32) (h : Hp) : Option Int32 :=
  (gI h 0 o 4).bind fun x1 =>
  m_X0_partAt_L7  o p1 h
    (fun v6 => (
      if 0 ≤ p1 then
        cv h 0 o <| (m_X0_reachable o (v6 &&& (-v6)) v6 h).bind fun x12 =>
        some x12
      else
        some (0 : Int32)
    ))
    LF x1 (0 : Int32)
def m_X0_colourOf (o : Nat) (p1 : Int32) (h : Hp) : Option Int32 :=
  (gR h 0 o 9).bind fun a1 =>
  cv h 0 o <| (m_X0_coloursAt o a1 p1 h).bind fun x2 =>
  if x2 = 0 then
    some (-1 : Int32)
  else
    (m_X5_least x2).bind fun x3 =>
    some x3
def m_X0_whyNot (o : Nat) (p1 : Int32) (p2 : Int32) (h : Hp) : Option Int32 :=
  cv h 0 o <| (m_X0_isFree o p1 h).bind fun bb1 =>
  if bb1 = true then
    (gR h 0 o 8).bind fun a2 =>
    (m_X5_at a2 p2 h).bind fun x3 =>
    (m_X5_has x3 p1).bind fun bb4 =>
    if bb4 = true then
      cv h 0 o <| (m_X0_neighbours o p1 h).bind fun x5 =>
      (gR h 0 o 9).bind fun a6 =>
      (m_X5_at a6 p2 h).bind fun x7 =>
      if (x5 &&& x7) = 0 then
        cv h 0 o <| (m_X0_neighbours o p1 h).bind fun x8 =>
        (gI h 0 o 4).bind fun x9 =>
        jK (κ := Bool → Option Int32) (fun v10 => (
          if v10 = true then
            some (0 : Int32)
          else
            (gR h 0 o 10).bind fun a12 =>
            (m_X5_at a12 p2 h).bind fun x13 =>
            (m_X5_has x13 p1).bind fun bb14 =>
            if bb14 = true then
              some (4 : Int32)
            else
              some (0 : Int32)
        )) fun k11 =>
        if (x8 &&& x9) = 0 then
          k11 true
        else
          k11 false
      else
        some (3 : Int32)
    else
      some (2 : Int32)
  else
    some (1 : Int32)
def m_X1_bringBack (o : Nat) (p1 : Nat) (h : Hp) : Option Hp :=
  (gI h 1 o 1).bind fun x1 =>
  jK (κ := Int32 → Option Hp) (fun v2 => (
    jK (κ := Bool → Option Hp) (fun v4 => (
      (gI h 1 o 0).bind fun x6 =>
      if x6 ≤ 0 then
        some h
      else
        if v4 = true then
          (gR h 1 o 2).bind fun a7 =>
          (aQ h 4 a7 v2).bind fun q8 =>
          nz q8 (
            some h
          ) fun a9 =>
          (gR h 1 o 2).bind fun a10 =>
          (aQ h 4 a10 v2).bind fun q11 =>
          (q11).bind fun a12 =>
          cv h 0 p1 <| (m_X0_takeFrom p1 a12 h).bind fun h13 =>
          (pV h13 1 o 1 (.int v2)).bind fun h14 =>
          (gI h14 1 o 0).bind fun x15 =>
          (pV h14 1 o 0 (.int (x15 - (1 : Int32)))).bind fun h16 =>
          some h16
        else
          some h
    )) fun k5 =>
    if v2 < 0 then
      k5 false
    else
      (gR h 1 o 2).bind fun a19 =>
      (aN h 4 a19).bind fun x20 =>
      if x20 ≤ v2 then
        k5 false
      else
        k5 true
  )) fun k3 =>
  if x1 ≤ 0 then
    (gR h 1 o 2).bind fun a23 =>
    (aN h 4 a23).bind fun x24 =>
    k3 (x24 - (1 : Int32))
  else
    (gI h 1 o 1).bind fun x25 =>
    k3 (x25 - (1 : Int32))
def m_X3_readNumber (o : Nat) (p1 : Int32) (p2 : Int32) (h : Hp) : Option (Int32 × Hp) :=
  (gI h 3 o 6).bind fun x1 =>
  if x1 = (2 : Int32) then
    (gI h 3 o 9).bind fun x2 =>
    jK (κ := Option (Int32 × Hp)) (
      cv h 3 o <| b2 (m_X3_fail o (-3 : Int32) h) fun bb4 h5 =>
      some ((-1 : Int32), h5)
    ) fun k3 =>
    if x2 < p1 then
      k3
    else
      (gI h 3 o 9).bind fun x6 =>
      if x6 ≤ p2 then
        (gI h 3 o 9).bind fun x7 =>
        cv h 3 o <| (m_X3_advance o h).bind fun h8 =>
        some (x7, h8)
      else
        k3
  else
    cv h 3 o <| b2 (m_X3_fail o (-2 : Int32) h) fun bb11 h12 =>
    some ((-1 : Int32), h12)
def m_X3_readSemicolon (o : Nat) (h : Hp) : Option (Bool × Hp) :=
  (gI h 3 o 6).bind fun x1 =>
  if x1 = (3 : Int32) then
    cv h 3 o <| (m_X3_advance o h).bind fun h2 =>
    some (true, h2)
  else
    cv h 3 o <| b2 (m_X3_fail o (-2 : Int32) h) fun bb3 h4 =>
    some (bb3, h4)
def m_X4_placeOf_L33 (u6 : Nat) (u7 : Int32) (h : Hp) (k33_66 : Int64 → Option Int64) : Nat → Int64 → Int32 → Option Int64
  | 0, _, _ => none
  | f + 1, w8, w9 =>
    if (3 : Int32) ≤ w9 then
      k33_66 w8
    else
      (gR h 4 u6 0).bind fun a11 =>
      cv h 0 a11 <| (m_X0_openTo a11 w9 h).bind fun x12 =>
      (m_X4_setShift w9).bind fun x13 =>
      nm (w8 ||| (jlshl (Int32.toInt64 (x12 &&& u7)) x13)) fun x14 =>
      nm (w9 + 1) fun x15 =>
      m_X4_placeOf_L33 u6 u7 h k33_66 f x14 x15
def m_X4_placeOf (o : Nat) (p1 : Int32) (h : Hp) : Option Int64 :=
  (gR h 4 o 0).bind fun a1 =>
  (gI h 0 a1 0).bind fun x2 =>
  (gR h 4 o 0).bind fun a3 =>
  cv h 0 a3 <| (m_X0_banOf a3 p1 h).bind fun x4 =>
  nm (((jlshl (Int32.toInt64 x2) (38 : Int32)) ||| (jlshl (Int32.toInt64 (x4 + (1 : Int32))) (36 : Int32))) ||| (Int32.toInt64 p1)) fun x5 =>
  m_X4_placeOf_L33  o p1 h
    (fun v10 => (
      some v10
    ))
    LF x5 (0 : Int32)
def m_X4_ofPieces_L21 (rc : Nat → Int64 → Int32 → Hp → Option (Int32 × Hp)) (u3 : Nat) (u4 : Int64) (u5 : Int32) (u6 : Int64) (k21_89 : Int32 → Hp → Option (Int32 × Hp)) : Nat → Int32 → Int32 → Int32 → Hp → Option (Int32 × Hp)
  | 0, _, _, _, _ => none
  | f + 1, w7, w8, w9, h =>
    if (9 : Int32) ≤ w9 then
      k21_89 w8 h
    else
      if w7 = 0 then
        k21_89 w8 h
      else
        (gR h 4 u3 0).bind fun a12 =>
        cv h 0 a12 <| (m_X0_reachable a12 (w7 &&& (-w7)) w7 h).bind fun x13 =>
        cv h 4 u3 <| b2 (rc u3 (u6 ||| (u4 &&& (134480385 * (Int32.toInt64 x13)))) u5 h) fun x14 h15 =>
        (m_X5_together w8 x14).bind fun x16 =>
        nm (w7 &&& (x13 ^^^ (-1 : Int32))) fun x17 =>
        nm (w9 + 1) fun x18 =>
        m_X4_ofPieces_L21 rc u3 u4 u5 u6 k21_89 f x17 x16 x18 h15
def m_X4_ofPieces (rc : Nat → Int64 → Int32 → Hp → Option (Int32 × Hp)) (o : Nat) (p1 : Int64) (p2 : Int32) (h : Hp) : Option (Int32 × Hp) :=
  nm (p1 &&& (-68719476736)) fun x1 =>
  nm ((Int64.toInt32 p1) &&& (511 : Int32)) fun x2 =>
  m_X4_ofPieces_L21 rc  o p1 p2 x1
    (fun v10 h11 => (
      some (v10, h11)
    ))
    LF x2 (0 : Int32) (0 : Int32) h
def m_X4_workOut_L98 (rc : Nat → Int64 → Int32 → Hp → Option (Int32 × Hp)) (u20 : Nat) (u21 : Int64) (u22 : Int32) (u23 : Bool) (u24 : Int32) (u28 : Int32) (u29 : Int32) (k98_179 : Int32 → Int32 → Int32 → Hp → Option (Int32 × Hp)) : Nat → Int32 → Int32 → Int32 → Int32 → Hp → Option (Int32 × Hp)
  | 0, _, _, _, _, _ => none
  | f + 1, w25, w26, w27, w30, h =>
    if (9 : Int32) ≤ w30 then
      k98_179 w25 w26 w27 h
    else
      (m_X5_has u29 w30).bind fun bb35 =>
      jK (κ := Int32 → Int32 → Int32 → Hp → Option (Int32 × Hp)) (fun v36 v37 v38 h39 => (
        nm (w30 + 1) fun x41 =>
        m_X4_workOut_L98 rc u20 u21 u22 u23 u24 u28 u29 k98_179 f v36 v37 v38 x41 h39
      )) fun k40 =>
      if bb35 = true then
        cv h 4 u20 <| (m_X4_behind u20 u21 w30 u28 h).bind fun x42 =>
        cv h 4 u20 <| b2 (m_X4_ofPieces rc u20 x42 (u22 + (1 : Int32)) h) fun x43 h44 =>
        (m_X5_valueIn x43).bind fun x45 =>
        nm (w25 ||| ((1 : Int32) <<< (x45 &&& 31))) fun x46 =>
        (m_X5_longestIn x43).bind fun x47 =>
        nm (jmax w26 (x47 + (1 : Int32))) fun x48 =>
        (m_X5_shortestIn x43).bind fun x49 =>
        nm (jmin w27 (x49 + (1 : Int32))) fun x50 =>
        k40 x46 x48 x50 h44
      else
        k40 w25 w26 w27 h
def m_X4_workOut_L59 (rc : Nat → Int64 → Int32 → Hp → Option (Int32 × Hp)) (u5 : Nat) (u6 : Int64) (u7 : Int32) (u8 : Bool) (u9 : Int32) (k59_185 : Int32 → Int32 → Int32 → Hp → Option (Int32 × Hp)) : Nat → Int32 → Int32 → Int32 → Int32 → Hp → Option (Int32 × Hp)
  | 0, _, _, _, _, _ => none
  | f + 1, w10, w11, w12, w13, h =>
    if (3 : Int32) ≤ w13 then
      k59_185 w10 w11 w12 h
    else
      jK (κ := Int32 → Option (Int32 × Hp)) (fun v18 => (
        m_X4_workOut_L98 rc  u5 u6 u7 u8 u9 w13 v18
          (fun v31 v32 v33 h34 => (
            nm (w13 + 1) fun x53 =>
            m_X4_workOut_L59 rc u5 u6 u7 u8 u9 k59_185 f v31 v32 v33 x53 h34
          ))
          LF w10 w11 w12 (0 : Int32) h
      )) fun k19 =>
      jK (κ := Option (Int32 × Hp)) (
        (m_X4_setShift w13).bind fun x55 =>
        k19 ((Int64.toInt32 (jlushr u6 x55)) &&& (511 : Int32))
      ) fun k54 =>
      if w13 = u9 then
        if u8 = true then
          k54
        else
          k19 (0 : Int32)
      else
        k54
def m_X4_workOut (rc : Nat → Int64 → Int32 → Hp → Option (Int32 × Hp)) (o : Nat) (p1 : Int64) (p2 : Int32) (h : Hp) : Option (Int32 × Hp) :=
  if p2 ≤ (9 : Int32) then
    nm ((Int64.toInt32 p1) &&& (511 : Int32)) fun x1 =>
    jK (κ := Bool → Option (Int32 × Hp)) (fun v2 => (
      nm ((Int64.toInt32 ((jlushr p1 (36 : Int32)) &&& 3)) - (1 : Int32)) fun x4 =>
      m_X4_workOut_L59 rc  o p1 p2 v2 x4
        (fun v14 v15 v16 h17 => (
          if v14 = 0 then
            some ((0 : Int32), h17)
          else
            (m_X5_least (v14 ^^^ (-1 : Int32))).bind fun x59 =>
            (m_X5_answerOf x59 v15 v16).bind fun x60 =>
            some (x60, h17)
        ))
        LF (0 : Int32) (0 : Int32) (10 : Int32) (0 : Int32) h
    )) fun k3 =>
    if (x1 &&& (x1 - (1 : Int32))) = 0 then
      k3 true
    else
      k3 false
  else
    some ((0 : Int32), h)
def m_X4_ofPlace_B (rc : Nat → Int64 → Int32 → Hp → Option (Int32 × Hp)) (o : Nat) (p1 : Int64) (p2 : Int32) (h : Hp) : Option (Int32 × Hp) :=
  nm (Int64.toInt32 (jlushr (p1 * (-7046029254386353131)) (49 : Int32))) fun x1 =>
  if x1 < 0 then
    some ((0 : Int32), h)
  else
    (gR h 4 o 1).bind fun a2 =>
    (aN h 1 a2).bind fun x3 =>
    if x3 ≤ x1 then
      some ((0 : Int32), h)
    else
      (gR h 4 o 2).bind fun a4 =>
      (aN h 0 a4).bind fun x5 =>
      if x1 < x5 then
        (gR h 4 o 1).bind fun a6 =>
        (aL h 1 a6 x1).bind fun x7 =>
        jK (κ := Hp → Option (Int32 × Hp)) (fun h8 => (
          (gR h8 4 o 2).bind fun a10 =>
          (aI h8 0 a10 x1).bind fun x11 =>
          some (x11, h8)
        )) fun k9 =>
        if (lg_cmp x7 p1) = 0 then
          k9 h
        else
          cv h 4 o <| b2 (m_X4_workOut rc o p1 p2 h) fun x12 h13 =>
          (gR h13 4 o 1).bind fun a14 =>
          (sL h13 1 a14 x1 p1).bind fun h15 =>
          (gR h15 4 o 2).bind fun a16 =>
          (sI h15 0 a16 x1 x12).bind fun h17 =>
          k9 h17
      else
        some ((0 : Int32), h)
def m_X4_ofPlace : Nat → Nat → Int64 → Int32 → Hp → Option (Int32 × Hp)
  | 0 => fun _ _ _ _ => none
  | d + 1 => m_X4_ofPlace_B (m_X4_ofPlace d)
def m_X5_reason (o : Nat) (p1 : Int32) (p2 : Int32) (h : Hp) : Option ((Int32 ⊕ Nat) × Hp) :=
  (gR h 5 o 0).bind fun a1 =>
  cv h 0 a1 <| (m_X0_hasPair a1 p1 p2 h).bind fun bb2 =>
  if bb2 = true then
    (gR h 5 o 0).bind fun a3 =>
    cv h 0 a3 <| (m_X0_whyNot a3 p1 p2 h).bind fun x4 =>
    some (.inl x4, h)
  else
    some (.inr 2, hpush h (.inr (9, [])) 6)
def m_X5_falls (o : Nat) (p1 : Int32) (h : Hp) : Option ((Int32 ⊕ Nat) × Hp) :=
  (gR h 5 o 0).bind fun a1 =>
  cv h 0 a1 <| (m_X0_hasVertex a1 p1 h).bind fun bb2 =>
  if bb2 = true then
    (gR h 5 o 0).bind fun a3 =>
    cv h 0 a3 <| (m_X0_isFree a3 p1 h).bind fun bb4 =>
    if bb4 = true then
      (gR h 5 o 0).bind fun a5 =>
      (gR h 5 o 0).bind fun a6 =>
      cv h 0 a6 <| (m_X0_partWith a6 p1 h).bind fun x7 =>
      cv h 0 a5 <| (m_X0_partsIn a5 (x7 &&& (((1 : Int32) <<< (p1 &&& 31)) ^^^ (-1 : Int32))) h).bind fun x8 =>
      some (.inl x8, h)
    else
      some (.inr 3, hpush h (.inr (10, [])) 6)
  else
    some (.inr 2, hpush h (.inr (9, [])) 6)
def m_X5_writeBoard_L7 (u2 : Nat) (k7_55 : Hp → Option (Int32 × Hp)) : Nat → Int32 → Hp → Option (Int32 × Hp)
  | 0, _, _ => none
  | f + 1, w3, h =>
    (gR h 5 u2 0).bind fun a5 =>
    (gI h 0 a5 2).bind fun x6 =>
    if x6 ≤ w3 then
      k7_55 h
    else
      (gR h 5 u2 0).bind fun a7 =>
      cv h 0 a7 <| (m_X0_isFree a7 w3 h).bind fun bb8 =>
      jK (κ := Int32 → Option (Int32 × Hp)) (fun v9 => (
        cv h 5 u2 <| (m_X5_write u2 v9 h).bind fun h11 =>
        nm (w3 + 1) fun x12 =>
        m_X5_writeBoard_L7 u2 k7_55 f x12 h11
      )) fun k10 =>
      if bb8 = true then
        k10 (46 : Int32)
      else
        (gR h 5 u2 0).bind fun a13 =>
        cv h 0 a13 <| (m_X0_colourOf a13 w3 h).bind fun x14 =>
        k10 ((97 : Int32) + x14)
def m_X5_writeBoard (o : Nat) (h : Hp) : Option (Int32 × Hp) :=
  (pV h 5 o 6 (.int 0)).bind fun h1 =>
  m_X5_writeBoard_L7  o
    (fun h4 => (
      cv h4 5 o <| (m_X5_write o (47 : Int32) h4).bind fun h17 =>
      (gR h17 5 o 0).bind fun a18 =>
      cv h17 0 a18 <| (m_X0_turn a18 h17).bind fun x19 =>
      cv h17 5 o <| (m_X5_write o ((48 : Int32) + x19) h17).bind fun h20 =>
      cv h20 5 o <| (m_X5_write o (47 : Int32) h20).bind fun h21 =>
      (gR h21 5 o 0).bind fun a22 =>
      (gI h21 0 a22 3).bind fun x23 =>
      cv h21 5 o <| (m_X5_write o ((48 : Int32) + x23) h21).bind fun h24 =>
      (gI h24 5 o 6).bind fun x25 =>
      some (x25, h24)
    ))
    LF (0 : Int32) h1
def m_X5_undo (o : Nat) (h : Hp) : Option ((Int32 ⊕ Nat) × Hp) :=
  (gR h 5 o 3).bind fun a1 =>
  (gI h 1 a1 0).bind fun x2 =>
  if x2 = 0 then
    some (.inr 0, hpush h (.inr (7, [])) 6)
  else
    (gR h 5 o 3).bind fun a3 =>
    (gR h 5 o 0).bind fun a4 =>
    cv h 1 a3 <| (m_X1_bringBack a3 a4 h).bind fun h5 =>
    (gR h5 5 o 3).bind fun a6 =>
    (gI h5 1 a6 0).bind fun x7 =>
    some (.inl x7, h5)
def m_X5_save (o : Nat) (p1 : Int32) (h : Hp) : Option ((Int32 ⊕ Nat) × Hp) :=
  if p1 < 0 then
    some (.inr 2, hpush h (.inr (9, [])) 6)
  else
    (gR h 5 o 4).bind fun a1 =>
    (aN h 4 a1).bind fun x2 =>
    if p1 < x2 then
      (gR h 5 o 4).bind fun a3 =>
      (gR h 5 o 0).bind fun a4 =>
      (m_X5_keepCopy a3 p1 a4 h).bind fun h5 =>
      (gR h5 5 o 0).bind fun a6 =>
      (gI h5 0 a6 5).bind fun x7 =>
      some (.inl x7, h5)
    else
      some (.inr 2, hpush h (.inr (9, [])) 6)
def m_X6_mustEnd (o : Nat) (h : Hp) : Option Hp :=
  (gI h 6 o 13).bind fun x1 =>
  jK (κ := Bool → Option Hp) (fun v2 => (
    cv h 6 o <| (m_X6_must o v2 h).bind fun h4 =>
    some h4
  )) fun k3 =>
  if x1 = (2 : Int32) then
    (gI h 6 o 11).bind fun x5 =>
    cv h 6 o <| (m_X6_see o x5 h).bind fun x6 =>
    if x6 = (59 : Int32) then
      k3 true
    else
      k3 false
  else
    k3 false
def m_X6_colours (o : Nat) (p1 : Int32) (h : Hp) : Option Int32 :=
  cv h 6 o <| (m_X6_isFree o p1 h).bind fun bb1 =>
  if bb1 = true then
    cv h 6 o <| (m_X6_freeSet o h).bind fun x2 =>
    cv h 6 o <| (m_X6_reached o p1 x2 h).bind fun x3 =>
    cv h 6 o <| (m_X6_banOf o p1 h).bind fun x4 =>
    cv h 6 o <| (m_X6_canLay o p1 x3 x4 h).bind fun x5 =>
    some x5
  else
    some (0 : Int32)
def m_X6_lays_L13 (u3 : Nat) (u4 : Int32) (u5 : Int32) (u6 : Int32) (k13_53 : Hp → Option Hp) : Nat → Int32 → Hp → Option Hp
  | 0, _, _ => none
  | f + 1, w7, h =>
    (gR h 6 u3 0).bind fun a9 =>
    (aI h 0 a9 (0 : Int32)).bind fun x10 =>
    if x10 ≤ w7 then
      k13_53 h
    else
      jK (κ := Hp → Option Hp) (fun h11 => (
        nm (w7 + 1) fun x13 =>
        m_X6_lays_L13 u3 u4 u5 u6 k13_53 f x13 h11
      )) fun k12 =>
      if ((u6 >>> (w7 &&& 31)) &&& (1 : Int32)) = (1 : Int32) then
        (gR h 6 u3 0).bind fun a14 =>
        (sI h 0 a14 ((31 : Int32) + w7) (u5 + (1 : Int32))).bind fun h15 =>
        k12 h15
      else
        k12 h
def m_X6_lays (o : Nat) (p1 : Int32) (p2 : Int32) (h : Hp) : Option Hp :=
  cv h 6 o <| (m_X6_freeSet o h).bind fun x1 =>
  cv h 6 o <| (m_X6_reached o p1 x1 h).bind fun x2 =>
  m_X6_lays_L13  o p1 p2 x2
    (fun h8 => (
      (gR h8 6 o 0).bind fun a18 =>
      (sI h8 0 a18 ((22 : Int32) + p1) (p2 + (1 : Int32))).bind fun h19 =>
      cv h19 6 o <| (m_X6_partsIn o (x2 &&& (((1 : Int32) <<< (p1 &&& 31)) ^^^ (-1 : Int32))) h19).bind fun x20 =>
      cv h19 6 o <| (m_X6_notes o p1 p2 x20 h19).bind fun h21 =>
      some h21
    ))
    LF (0 : Int32) h
def m_X6_passes (o : Nat) (h : Hp) : Option Hp :=
  (gR h 6 o 0).bind fun a1 =>
  (aI h 0 a1 (2 : Int32)).bind fun x2 =>
  (sI h 0 a1 (2 : Int32) (x2 - (1 : Int32))).bind fun h3 =>
  cv h3 6 o <| (m_X6_notes o (-1 : Int32) (-1 : Int32) (0 : Int32) h3).bind fun h4 =>
  some h4
def m_X0_partNumberOf_L2 (u1 : Nat) (u2 : Int32) (h : Hp) (k2_26 : Int32 → Option Int32) : Nat → Int32 → Option Int32
  | 0, _ => none
  | f + 1, w3 =>
    if (9 : Int32) ≤ w3 then
      k2_26 w3
    else
      cv h 0 u1 <| (m_X0_partAt u1 w3 h).bind fun x5 =>
      (m_X5_has x5 u2).bind fun bb6 =>
      if bb6 = true then
        k2_26 w3
      else
        nm (w3 + 1) fun x7 =>
        m_X0_partNumberOf_L2 u1 u2 h k2_26 f x7
def m_X0_partNumberOf (o : Nat) (p1 : Int32) (h : Hp) : Option Int32 :=
  m_X0_partNumberOf_L2  o p1 h
    (fun v4 => (
      some v4
    ))
    LF (0 : Int32)
def m_X0_choicesOn_L4 (u1 : Nat) (u2 : Int32) (h : Hp) (k4_33 : Int32 → Option Int32) : Nat → Int32 → Int32 → Option Int32
  | 0, _, _ => none
  | f + 1, w3, w4 =>
    (gI h 0 u1 1).bind fun x6 =>
    if x6 ≤ w4 then
      k4_33 w3
    else
      cv h 0 u1 <| (m_X0_whyNot u1 u2 w4 h).bind fun x7 =>
      jK (κ := Int32 → Option Int32) (fun v8 => (
        nm (w4 + 1) fun x10 =>
        m_X0_choicesOn_L4 u1 u2 h k4_33 f v8 x10
      )) fun k9 =>
      if x7 = 0 then
        nm (w3 ||| ((1 : Int32) <<< (w4 &&& 31))) fun x11 =>
        k9 x11
      else
        k9 w3
def m_X0_choicesOn (o : Nat) (p1 : Int32) (h : Hp) : Option Int32 :=
  m_X0_choicesOn_L4  o p1 h
    (fun v5 => (
      some v5
    ))
    LF (0 : Int32) (0 : Int32)
def m_X0_paint_L29 (u5 : Nat) (u6 : Int32) (u7 : Int32) (u8 : Int32) (k29_58 : Hp → Option Hp) : Nat → Int32 → Hp → Option Hp
  | 0, _, _ => none
  | f + 1, w9, h =>
    (gR h 0 u5 10).bind fun a11 =>
    (aN h 0 a11).bind fun x12 =>
    if x12 ≤ w9 then
      k29_58 h
    else
      (gR h 0 u5 10).bind fun a13 =>
      (aI h 0 a13 w9).bind fun x14 =>
      (sI h 0 a13 w9 (x14 &&& (u8 ^^^ (-1 : Int32)))).bind fun h15 =>
      nm (w9 + 1) fun x16 =>
      m_X0_paint_L29 u5 u6 u7 u8 k29_58 f x16 h15
def m_X0_paint (o : Nat) (p1 : Int32) (p2 : Int32) (h : Hp) : Option Hp :=
  cv h 0 o <| (m_X0_partWith o p1 h).bind fun x1 =>
  nm (x1 &&& (((1 : Int32) <<< (p1 &&& 31)) ^^^ (-1 : Int32))) fun x2 =>
  (gI h 0 o 4).bind fun x3 =>
  (pV h 0 o 4 (.int (x3 &&& (((1 : Int32) <<< (p1 &&& 31)) ^^^ (-1 : Int32))))).bind fun h4 =>
  m_X0_paint_L29  o p1 p2 x2
    (fun h10 => (
      (gR h10 0 o 10).bind fun a18 =>
      (m_X5_add a18 p2 x2 h10).bind fun h19 =>
      (gR h19 0 o 9).bind fun a20 =>
      (m_X5_add a20 p2 ((1 : Int32) <<< (p1 &&& 31)) h19).bind fun h21 =>
      nw h21 (.inr (2, [.null, .int 0, .int 0, .int 0, .int 0])) 5 fun a22 h23 =>
      (gN h23 0 o 6).bind fun q24 =>
      (gI h23 0 o 4).bind fun x25 =>
      cv h23 0 o <| (m_X0_partsIn o x25 h23).bind fun x26 =>
      cv h23 0 o <| (m_X0_partsIn o x2 h23).bind fun x27 =>
      (m_X2_init a22 q24 p1 p2 x26 x27 h23).bind fun h28 =>
      (pV h28 0 o 6 (.ref a22)).bind fun h29 =>
      (gI h29 0 o 5).bind fun x30 =>
      (pV h29 0 o 5 (.int (x30 + (1 : Int32)))).bind fun h31 =>
      some h31
    ))
    LF (0 : Int32) h4
def m_X0_spendPass (o : Nat) (h : Hp) : Option Hp :=
  (gI h 0 o 3).bind fun x1 =>
  (pV h 0 o 3 (.int (x1 - (1 : Int32)))).bind fun h2 =>
  nw h2 (.inr (2, [.null, .int 0, .int 0, .int 0, .int 0])) 5 fun a3 h4 =>
  (gN h4 0 o 6).bind fun q5 =>
  (gI h4 0 o 4).bind fun x6 =>
  cv h4 0 o <| (m_X0_partsIn o x6 h4).bind fun x7 =>
  (m_X2_init a3 q5 (-1 : Int32) (-1 : Int32) x7 (-1 : Int32) h4).bind fun h8 =>
  (pV h8 0 o 6 (.ref a3)).bind fun h9 =>
  (gI h9 0 o 5).bind fun x10 =>
  (pV h9 0 o 5 (.int (x10 + (1 : Int32)))).bind fun h11 =>
  some h11
def m_X1_keep (o : Nat) (p1 : Nat) (h : Hp) : Option Hp :=
  (gR h 1 o 2).bind fun a1 =>
  (gI h 1 o 1).bind fun x2 =>
  (m_X5_keepCopy a1 x2 p1 h).bind fun h3 =>
  (gI h3 1 o 1).bind fun x4 =>
  (gR h3 1 o 2).bind fun a5 =>
  (aN h3 4 a5).bind fun x6 =>
  jK (κ := Int32 → Option Hp) (fun v7 => (
    (pV h3 1 o 1 (.int v7)).bind fun h9 =>
    (gI h9 1 o 0).bind fun x10 =>
    (gR h9 1 o 2).bind fun a11 =>
    (aN h9 4 a11).bind fun x12 =>
    (pV h9 1 o 0 (.int (jmin (x10 + (1 : Int32)) x12))).bind fun h13 =>
    some h13
  )) fun k8 =>
  if x6 ≤ (x4 + (1 : Int32)) then
    k8 (0 : Int32)
  else
    (gI h3 1 o 1).bind fun x14 =>
    k8 (x14 + (1 : Int32))
def m_X6_together_L11 (rc : Nat → Int32 → Int32 → Hp → Option (Int32 × Hp)) (u1 : Nat) (u2 : Int32) (u3 : Int32) (k11_79 : Int32 → Int32 → Int32 → Hp → Option (Int32 × Hp)) : Nat → Int32 → Int32 → Int32 → Int32 → Hp → Option (Int32 × Hp)
  | 0, _, _, _, _, _ => none
  | f + 1, w4, w5, w6, w7, h =>
    if w7 ≤ 0 then
      k11_79 w4 w5 w6 h
    else
      (m_X6_lowest w7).bind fun x12 =>
      cv h 6 u1 <| (m_X6_reached u1 x12 u2 h).bind fun x13 =>
      cv h 6 u1 <| b2 (rc u1 x13 u3 h) fun x14 h15 =>
      nm (w4 ^^^ (x14 &&& (31 : Int32))) fun x16 =>
      nm (w5 + ((x14 >>> ((5 : Int32) &&& 31)) &&& (31 : Int32))) fun x17 =>
      nm (w6 + (x14 >>> ((10 : Int32) &&& 31))) fun x18 =>
      nm (w7 &&& (x13 ^^^ (-1 : Int32))) fun x19 =>
      m_X6_together_L11 rc u1 u2 u3 k11_79 f x16 x17 x18 x19 h15
def m_X6_together (rc : Nat → Int32 → Int32 → Hp → Option (Int32 × Hp)) (o : Nat) (p1 : Int32) (p2 : Int32) (h : Hp) : Option (Int32 × Hp) :=
  m_X6_together_L11 rc  o p1 p2
    (fun v8 v9 v10 h11 => (
      some (((v8 ||| (v9 <<< ((5 : Int32) &&& 31))) ||| (v10 <<< ((10 : Int32) &&& 31))), h11)
    ))
    LF (0 : Int32) (0 : Int32) (0 : Int32) p1 h
def m_X6_knownOf_L74 (rc : Nat → Int32 → Int32 → Hp → Option (Int32 × Hp)) (u20 : Nat) (u21 : Int32) (u22 : Int32) (u23 : Int32) (u27 : Int32) (u28 : Int32) (k74_215 : Int32 → Int32 → Int32 → Hp → Option (Int32 × Hp)) : Nat → Int32 → Int32 → Int32 → Int32 → Hp → Option (Int32 × Hp)
  | 0, _, _, _, _, _ => none
  | f + 1, w24, w25, w26, w29, h =>
    (gR h 6 u20 0).bind fun a34 =>
    (aI h 0 a34 (1 : Int32)).bind fun x35 =>
    if x35 ≤ w29 then
      k74_215 w24 w25 w26 h
    else
      jK (κ := Int32 → Int32 → Int32 → Hp → Option (Int32 × Hp)) (fun v36 v37 v38 h39 => (
        nm (w29 + 1) fun x41 =>
        m_X6_knownOf_L74 rc u20 u21 u22 u23 u27 u28 k74_215 f v36 v37 v38 x41 h39
      )) fun k40 =>
      if ((u28 >>> (w29 &&& 31)) &&& (1 : Int32)) = 0 then
        k40 w24 w25 w26 h
      else
        (gR h 6 u20 0).bind fun a42 =>
        (sI h 0 a42 ((22 : Int32) + u27) (w29 + (1 : Int32))).bind fun h43 =>
        cv h43 6 u20 <| b2 (m_X6_together rc u20 (u21 &&& (((1 : Int32) <<< (u27 &&& 31)) ^^^ (-1 : Int32))) w29 h43) fun x44 h45 =>
        (gR h45 6 u20 0).bind fun a46 =>
        (sI h45 0 a46 ((22 : Int32) + u27) (0 : Int32)).bind fun h47 =>
        nm (w24 ||| ((1 : Int32) <<< ((x44 &&& (31 : Int32)) &&& 31))) fun x48 =>
        nm ((1 : Int32) + ((x44 >>> ((5 : Int32) &&& 31)) &&& (31 : Int32))) fun x49 =>
        nm ((1 : Int32) + (x44 >>> ((10 : Int32) &&& 31))) fun x50 =>
        jK (κ := Int32 → Option (Int32 × Hp)) (fun v51 => (
          jK (κ := Int32 → Option (Int32 × Hp)) (fun v53 => (
            k40 x48 v51 v53 h47
          )) fun k54 =>
          if w26 = (-1 : Int32) then
            k54 x50
          else
            if w26 ≤ x50 then
              k54 w26
            else
              k54 x50
        )) fun k52 =>
        if x49 ≤ w25 then
          k52 w25
        else
          k52 x49
def m_X6_knownOf_L36 (rc : Nat → Int32 → Int32 → Hp → Option (Int32 × Hp)) (u4 : Nat) (u5 : Int32) (u6 : Int32) (u7 : Int32) (k36_221 : Int32 → Int32 → Int32 → Hp → Option (Int32 × Hp)) : Nat → Int32 → Int32 → Int32 → Int32 → Hp → Option (Int32 × Hp)
  | 0, _, _, _, _, _ => none
  | f + 1, w8, w9, w10, w11, h =>
    (gR h 6 u4 0).bind fun a16 =>
    (aI h 0 a16 (0 : Int32)).bind fun x17 =>
    if x17 ≤ w11 then
      k36_221 w8 w9 w10 h
    else
      jK (κ := Int32 → Option (Int32 × Hp)) (fun v18 => (
        m_X6_knownOf_L74 rc  u4 u5 u6 u7 w11 v18
          (fun v30 v31 v32 h33 => (
            nm (w11 + 1) fun x60 =>
            m_X6_knownOf_L36 rc u4 u5 u6 u7 k36_221 f v30 v31 v32 x60 h33
          ))
          LF w8 w9 w10 (0 : Int32) h
      )) fun k19 =>
      if ((u5 >>> (w11 &&& 31)) &&& (1 : Int32)) = (1 : Int32) then
        cv h 6 u4 <| (m_X6_canLay u4 w11 u5 u6 h).bind fun x61 =>
        k19 x61
      else
        k19 (0 : Int32)
def m_X6_knownOf_B (rc : Nat → Int32 → Int32 → Hp → Option (Int32 × Hp)) (o : Nat) (p1 : Int32) (p2 : Int32) (h : Hp) : Option (Int32 × Hp) :=
  cv h 6 o <| (m_X6_placeOf o p1 p2 h).bind fun x1 =>
  (gR h 6 o 18).bind fun a2 =>
  (aI h 0 a2 x1).bind fun x3 =>
  if x3 = (-1 : Int32) then
    m_X6_knownOf_L36 rc  o p1 p2 x1
      (fun v12 v13 v14 h15 => (
        (gR h15 6 o 18).bind fun a64 =>
        (m_X6_lowest (v12 ^^^ (-1 : Int32))).bind fun x65 =>
        jK (κ := Int32 → Option (Int32 × Hp)) (fun v66 => (
          (sI h15 0 a64 x1 ((x65 ||| (v13 <<< ((5 : Int32) &&& 31))) ||| (v66 <<< ((10 : Int32) &&& 31)))).bind fun h68 =>
          (gR h68 6 o 18).bind fun a69 =>
          (aI h68 0 a69 x1).bind fun x70 =>
          some (x70, h68)
        )) fun k67 =>
        if v14 = (-1 : Int32) then
          k67 (0 : Int32)
        else
          k67 v14
      ))
      LF (0 : Int32) (0 : Int32) (-1 : Int32) (0 : Int32) h
  else
    (gR h 6 o 18).bind fun a72 =>
    (aI h 0 a72 x1).bind fun x73 =>
    some (x73, h)
def m_X6_knownOf : Nat → Nat → Int32 → Int32 → Hp → Option (Int32 × Hp)
  | 0 => fun _ _ _ _ => none
  | d + 1 => m_X6_knownOf_B (m_X6_knownOf d)
def m_X5_vertex (o : Nat) (p1 : Int32) (p2 : Int32) (h : Hp) : Option ((Int32 ⊕ Nat) × Hp) :=
  (gR h 5 o 0).bind fun a1 =>
  cv h 0 a1 <| (m_X0_hasVertex a1 p1 h).bind fun bb2 =>
  if bb2 = true then
    sw p2 (0) [
      (
        (gR h 5 o 0).bind fun a3 =>
        cv h 0 a3 <| (m_X0_colourOf a3 p1 h).bind fun x4 =>
        some (.inl x4, h)
      ),
      (
        (gR h 5 o 0).bind fun a5 =>
        cv h 0 a5 <| (m_X0_listOf a5 p1 h).bind fun x6 =>
        some (.inl x6, h)
      ),
      (
        (gR h 5 o 0).bind fun a7 =>
        cv h 0 a7 <| (m_X0_choicesOn a7 p1 h).bind fun x8 =>
        some (.inl x8, h)
      ),
      (
        (gR h 5 o 0).bind fun a9 =>
        cv h 0 a9 <| (m_X0_neighbours a9 p1 h).bind fun x10 =>
        (m_J6_bitCount x10).bind fun x11 =>
        some (.inl x11, h)
      ),
      (
        (gR h 5 o 0).bind fun a12 =>
        cv h 0 a12 <| (m_X0_isFree a12 p1 h).bind fun bb13 =>
        if bb13 = true then
          (gR h 5 o 0).bind fun a14 =>
          cv h 0 a14 <| (m_X0_partNumberOf a14 p1 h).bind fun x15 =>
          some (.inl x15, h)
        else
          some (.inl (-1 : Int32), h)
      ),
      (
        (gR h 5 o 0).bind fun a17 =>
        cv h 0 a17 <| (m_X0_neighbours a17 p1 h).bind fun x18 =>
        (gR h 5 o 0).bind fun a19 =>
        (gI h 0 a19 4).bind fun x20 =>
        (m_J6_bitCount (x18 &&& x20)).bind fun x21 =>
        some (.inl x21, h)
      )
    ] (
      some (.inr 1, hpush h (.inr (8, [])) 6)
    )
  else
    some (.inr 2, hpush h (.inr (9, [])) 6)
def m_X5_lay (o : Nat) (p1 : Int32) (p2 : Int32) (h : Hp) : Option ((Int32 ⊕ Nat) × Hp) :=
  (gR h 5 o 0).bind fun a1 =>
  cv h 0 a1 <| (m_X0_hasPair a1 p1 p2 h).bind fun bb2 =>
  if bb2 = true then
    (gR h 5 o 0).bind fun a3 =>
    cv h 0 a3 <| (m_X0_whyNot a3 p1 p2 h).bind fun x4 =>
    if x4 = 0 then
      (gR h 5 o 3).bind fun a5 =>
      (gR h 5 o 0).bind fun a6 =>
      cv h 1 a5 <| (m_X1_keep a5 a6 h).bind fun h7 =>
      (gR h7 5 o 0).bind fun a8 =>
      cv h7 0 a8 <| (m_X0_paint a8 p1 p2 h7).bind fun h9 =>
      (gR h9 5 o 0).bind fun a10 =>
      (gR h9 5 o 0).bind fun a11 =>
      (gI h9 0 a11 4).bind fun x12 =>
      cv h9 0 a10 <| (m_X0_partsIn a10 x12 h9).bind fun x13 =>
      some (.inl x13, h9)
    else
      some (.inr 0, hpush h (.inr (7, [])) 6)
  else
    some (.inr 2, hpush h (.inr (9, [])) 6)
def m_X5_pass (o : Nat) (h : Hp) : Option ((Int32 ⊕ Nat) × Hp) :=
  (gR h 5 o 0).bind fun a1 =>
  (gI h 0 a1 3).bind fun x2 =>
  if x2 = 0 then
    some (.inr 0, hpush h (.inr (7, [])) 6)
  else
    (gR h 5 o 3).bind fun a3 =>
    (gR h 5 o 0).bind fun a4 =>
    cv h 1 a3 <| (m_X1_keep a3 a4 h).bind fun h5 =>
    (gR h5 5 o 0).bind fun a6 =>
    cv h5 0 a6 <| (m_X0_spendPass a6 h5).bind fun h7 =>
    (gR h7 5 o 0).bind fun a8 =>
    (gI h7 0 a8 3).bind fun x9 =>
    some (.inl x9, h7)
def m_X5_setPasses (o : Nat) (p1 : Int32) (h : Hp) : Option ((Int32 ⊕ Nat) × Hp) :=
  if p1 < 0 then
    some (.inr 1, hpush h (.inr (8, [])) 6)
  else
    if p1 ≤ (9 : Int32) then
      (gR h 5 o 3).bind fun a1 =>
      (gR h 5 o 0).bind fun a2 =>
      cv h 1 a1 <| (m_X1_keep a1 a2 h).bind fun h3 =>
      (gR h3 5 o 0).bind fun a4 =>
      (gI h3 0 a4 3).bind fun x5 =>
      (gR h3 5 o 0).bind fun a6 =>
      (pV h3 0 a6 3 (.int p1)).bind fun h7 =>
      some (.inl x5, h7)
    else
      some (.inr 1, hpush h (.inr (8, [])) 6)
def m_X5_restore (o : Nat) (p1 : Int32) (h : Hp) : Option ((Int32 ⊕ Nat) × Hp) :=
  if p1 < 0 then
    some (.inr 2, hpush h (.inr (9, [])) 6)
  else
    (gR h 5 o 4).bind fun a1 =>
    (aN h 4 a1).bind fun x2 =>
    if p1 < x2 then
      (gR h 5 o 4).bind fun a3 =>
      (aQ h 4 a3 p1).bind fun q4 =>
      nz q4 (
        some (.inr 0, hpush h (.inr (7, [])) 6)
      ) fun a5 =>
      (gR h 5 o 3).bind fun a6 =>
      (gR h 5 o 0).bind fun a7 =>
      cv h 1 a6 <| (m_X1_keep a6 a7 h).bind fun h8 =>
      (gR h8 5 o 0).bind fun a9 =>
      cv h8 0 a9 <| (m_X0_takeFrom a9 a5 h8).bind fun h10 =>
      (gR h10 5 o 0).bind fun a11 =>
      (gI h10 0 a11 5).bind fun x12 =>
      some (.inl x12, h10)
    else
      some (.inr 2, hpush h (.inr (9, [])) 6)
def m_X6_readsVertex (o : Nat) (h : Hp) : Option Hp :=
  (gR h 6 o 0).bind fun a1 =>
  (aI h 0 a1 (0 : Int32)).bind fun x2 =>
  jK (κ := Hp → Option Hp) (fun h3 => (
    cv h3 6 o <| (m_X6_must o true h3).bind fun h5 =>
    (gR h5 6 o 0).bind fun a6 =>
    (aI h5 0 a6 (1 : Int32)).bind fun x7 =>
    nm (((1 : Int32) <<< (x7 &&& 31)) - (1 : Int32)) fun x8 =>
    (gI h5 6 o 15).bind fun x9 =>
    jK (κ := Int32 → Hp → Option Hp) (fun v10 h11 => (
      cv h11 6 o <| (m_X6_mustEnd o h11).bind fun h13 =>
      (gI h13 6 o 15).bind fun x14 =>
      if x14 = 0 then
        (gR h13 6 o 0).bind fun a15 =>
        (gR h13 6 o 0).bind fun a16 =>
        (aI h13 0 a16 (0 : Int32)).bind fun x17 =>
        (sI h13 0 a15 ((4 : Int32) + x17) v10).bind fun h18 =>
        (gR h18 6 o 0).bind fun a19 =>
        (aI h18 0 a19 (0 : Int32)).bind fun x20 =>
        (sI h18 0 a19 (0 : Int32) (x20 + (1 : Int32))).bind fun h21 =>
        some h21
      else
        some h13
    )) fun k12 =>
    if x9 = 0 then
      (gI h5 6 o 13).bind fun x23 =>
      if x23 = 0 then
        cv h5 6 o <| (m_X6_lettersHere o h5).bind fun x24 =>
        jK (κ := Hp → Option Hp) (fun h25 => (
          (gI h25 6 o 15).bind fun x27 =>
          if x27 = 0 then
            cv h25 6 o <| (m_X6_next o h25).bind fun h28 =>
            k12 x24 h28
          else
            k12 x24 h25
        )) fun k26 =>
        if x24 = 0 then
          cv h5 6 o <| (m_X6_fails o (-3 : Int32) h5).bind fun h30 =>
          k26 h30
        else
          k26 h5
      else
        k12 x8 h5
    else
      k12 x8 h5
  )) fun k4 =>
  jK (κ := Option Hp) (
    cv h 6 o <| (m_X6_fails o (-6 : Int32) h).bind fun h35 =>
    k4 h35
  ) fun k34 =>
  if x2 = (9 : Int32) then
    k34
  else
    cv h 6 o <| (m_X6_colouringsNext o h).bind fun x36 =>
    if x36 ≤ (20000 : Int32) then
      k4 h
    else
      k34
def m_X6_readsEdge (o : Nat) (h : Hp) : Option Hp :=
  cv h 6 o <| (m_X6_must o true h).bind fun h1 =>
  (gR h1 6 o 0).bind fun a2 =>
  (aI h1 0 a2 (0 : Int32)).bind fun x3 =>
  cv h1 6 o <| b2 (m_X6_takes o (0 : Int32) (x3 - (1 : Int32)) h1) fun x4 h5 =>
  (gI h5 6 o 15).bind fun x6 =>
  jK (κ := Hp → Option Hp) (fun h7 => (
    (gI h7 6 o 15).bind fun x9 =>
    jK (κ := Hp → Option Hp) (fun h10 => (
      (gR h10 6 o 0).bind fun a12 =>
      (aI h10 0 a12 (0 : Int32)).bind fun x13 =>
      cv h10 6 o <| b2 (m_X6_takes o (0 : Int32) (x13 - (1 : Int32)) h10) fun x14 h15 =>
      cv h15 6 o <| (m_X6_mustEnd o h15).bind fun h16 =>
      (gI h16 6 o 15).bind fun x17 =>
      if x17 = 0 then
        (gR h16 6 o 0).bind fun a18 =>
        (aI h16 0 a18 ((13 : Int32) + x4)).bind fun x19 =>
        (sI h16 0 a18 ((13 : Int32) + x4) (x19 ||| ((1 : Int32) <<< (x14 &&& 31)))).bind fun h20 =>
        (gR h20 6 o 0).bind fun a21 =>
        (aI h20 0 a21 ((13 : Int32) + x14)).bind fun x22 =>
        (sI h20 0 a21 ((13 : Int32) + x14) (x22 ||| ((1 : Int32) <<< (x4 &&& 31)))).bind fun h23 =>
        some h23
      else
        some h16
    )) fun k11 =>
    if x9 = 0 then
      (gI h7 6 o 13).bind fun x25 =>
      if x25 = (1 : Int32) then
        (gI h7 6 o 14).bind fun x26 =>
        (gR h7 6 o 0).bind fun a27 =>
        (aI h7 0 a27 (0 : Int32)).bind fun x28 =>
        if x28 ≤ x26 then
          k11 h7
        else
          (gI h7 6 o 14).bind fun x29 =>
          cv h7 6 o <| (m_X6_areNext o x4 x29 h7).bind fun bb30 =>
          if bb30 = true then
            cv h7 6 o <| (m_X6_fails o (-4 : Int32) h7).bind fun h31 =>
            k11 h31
          else
            k11 h7
      else
        k11 h7
    else
      k11 h7
  )) fun k8 =>
  if x6 = 0 then
    (gI h5 6 o 13).bind fun x36 =>
    if x36 = (1 : Int32) then
      (gI h5 6 o 14).bind fun x37 =>
      if x37 = x4 then
        cv h5 6 o <| (m_X6_fails o (-3 : Int32) h5).bind fun h38 =>
        k8 h38
      else
        k8 h5
    else
      k8 h5
  else
    k8 h5
def m_X6_readsPass (o : Nat) (h : Hp) : Option Hp :=
  (gR h 6 o 0).bind fun a1 =>
  (aI h 0 a1 (2 : Int32)).bind fun x2 =>
  jK (κ := Hp → Option Hp) (fun h3 => (
    (gI h3 6 o 15).bind fun x5 =>
    jK (κ := Hp → Option Hp) (fun h6 => (
      cv h6 6 o <| (m_X6_must o true h6).bind fun h8 =>
      cv h8 6 o <| (m_X6_mustEnd o h8).bind fun h9 =>
      some h9
    )) fun k7 =>
    if x5 = 0 then
      cv h3 6 o <| (m_X6_passes o h3).bind fun h10 =>
      k7 h10
    else
      k7 h3
  )) fun k4 =>
  if x2 = 0 then
    cv h 6 o <| (m_X6_fails o (-5 : Int32) h).bind fun h12 =>
    k4 h12
  else
    k4 h
def m_X6_whyNot (o : Nat) (p1 : Int32) (p2 : Int32) (h : Hp) : Option Int32 :=
  cv h 6 o <| (m_X6_isFree o p1 h).bind fun bb1 =>
  if bb1 = true then
    (gR h 6 o 0).bind fun a2 =>
    (aI h 0 a2 ((4 : Int32) + p1)).bind fun x3 =>
    if ((x3 >>> (p2 &&& 31)) &&& (1 : Int32)) = 0 then
      some (2 : Int32)
    else
      cv h 6 o <| (m_X6_around o p1 h).bind fun x4 =>
      if ((x4 >>> (p2 &&& 31)) &&& (1 : Int32)) = (1 : Int32) then
        some (3 : Int32)
      else
        cv h 6 o <| (m_X6_colours o p1 h).bind fun x5 =>
        if ((x5 >>> (p2 &&& 31)) &&& (1 : Int32)) = (1 : Int32) then
          some (0 : Int32)
        else
          some (4 : Int32)
  else
    some (1 : Int32)
def m_X6_pairs_L4 (u1 : Nat) (h : Hp) (k4_31 : Int32 → Option Int32) : Nat → Int32 → Int32 → Option Int32
  | 0, _, _ => none
  | f + 1, w2, w3 =>
    (gR h 6 u1 0).bind fun a5 =>
    (aI h 0 a5 (0 : Int32)).bind fun x6 =>
    if x6 ≤ w3 then
      k4_31 w2
    else
      cv h 6 u1 <| (m_X6_colours u1 w3 h).bind fun x7 =>
      (m_X6_bits x7).bind fun x8 =>
      nm (w2 + x8) fun x9 =>
      nm (w3 + 1) fun x10 =>
      m_X6_pairs_L4 u1 h k4_31 f x9 x10
def m_X6_pairs (o : Nat) (h : Hp) : Option Int32 :=
  m_X6_pairs_L4  o h
    (fun v4 => (
      some v4
    ))
    LF (0 : Int32) (0 : Int32)
def m_X6_stuck_L4 (u1 : Nat) (h : Hp) (k4_44 : Int32 → Option Int32) : Nat → Int32 → Int32 → Option Int32
  | 0, _, _ => none
  | f + 1, w2, w3 =>
    (gR h 6 u1 0).bind fun a5 =>
    (aI h 0 a5 (0 : Int32)).bind fun x6 =>
    if x6 ≤ w3 then
      k4_44 w2
    else
      cv h 6 u1 <| (m_X6_isFree u1 w3 h).bind fun bb7 =>
      jK (κ := Bool → Option Int32) (fun v8 => (
        nm (w2 + (bI v8)) fun x10 =>
        nm (w3 + 1) fun x11 =>
        m_X6_stuck_L4 u1 h k4_44 f x10 x11
      )) fun k9 =>
      if bb7 = true then
        cv h 6 u1 <| (m_X6_colours u1 w3 h).bind fun x12 =>
        if x12 = 0 then
          k9 true
        else
          k9 false
      else
        k9 false
def m_X6_stuck (o : Nat) (h : Hp) : Option Int32 :=
  m_X6_stuck_L4  o h
    (fun v4 => (
      some v4
    ))
    LF (0 : Int32) (0 : Int32)
def m_X6_vertex (o : Nat) (p1 : Int32) (p2 : Int32) (h : Hp) : Option (Int32 × Hp) :=
  cv h 6 o <| (m_X6_isVertex o p1 h).bind fun bb1 =>
  jK (κ := Int32 → Option (Int32 × Hp)) (fun v2 => (
    (pV h 6 o 7 (.int v2)).bind fun h4 =>
    (gI h4 6 o 7).bind fun x5 =>
    if x5 ≤ 0 then
      sw p2 (0) [
        (
          cv h4 6 o <| (m_X6_colourOf o p1 h4).bind fun x6 =>
          some (x6, h4)
        ),
        (
          (gR h4 6 o 0).bind fun a7 =>
          (aI h4 0 a7 ((4 : Int32) + p1)).bind fun x8 =>
          some (x8, h4)
        ),
        (
          cv h4 6 o <| (m_X6_colours o p1 h4).bind fun x9 =>
          some (x9, h4)
        ),
        (
          (gR h4 6 o 0).bind fun a10 =>
          (aI h4 0 a10 ((13 : Int32) + p1)).bind fun x11 =>
          (m_X6_bits x11).bind fun x12 =>
          some (x12, h4)
        ),
        (
          cv h4 6 o <| (m_X6_isFree o p1 h4).bind fun bb13 =>
          if bb13 = true then
            cv h4 6 o <| (m_X6_partOf o p1 h4).bind fun x14 =>
            some (x14, h4)
          else
            some ((-1 : Int32), h4)
        )
      ] (
        (gR h4 6 o 0).bind fun a16 =>
        (aI h4 0 a16 ((13 : Int32) + p1)).bind fun x17 =>
        cv h4 6 o <| (m_X6_freeSet o h4).bind fun x18 =>
        (m_X6_bits (x17 &&& x18)).bind fun x19 =>
        some (x19, h4)
      )
    else
      some ((0 : Int32), h4)
  )) fun k3 =>
  if bb1 = true then
    (m_X6_isIn p2 (0 : Int32) (5 : Int32)).bind fun bb21 =>
    if bb21 = true then
      k3 (0 : Int32)
    else
      k3 (2 : Int32)
  else
    k3 (1 : Int32)
def m_X6_pairsIn_L4 (u1 : Nat) (u2 : Int32) (h : Hp) (k4_44 : Int32 → Option Int32) : Nat → Int32 → Int32 → Option Int32
  | 0, _, _ => none
  | f + 1, w3, w4 =>
    (gR h 6 u1 0).bind fun a6 =>
    (aI h 0 a6 (0 : Int32)).bind fun x7 =>
    if x7 ≤ w4 then
      k4_44 w3
    else
      jK (κ := Int32 → Option Int32) (fun v8 => (
        nm (w3 + v8) fun x10 =>
        nm (w4 + 1) fun x11 =>
        m_X6_pairsIn_L4 u1 u2 h k4_44 f x10 x11
      )) fun k9 =>
      if ((u2 >>> (w4 &&& 31)) &&& (1 : Int32)) = (1 : Int32) then
        cv h 6 u1 <| (m_X6_colours u1 w4 h).bind fun x12 =>
        (m_X6_bits x12).bind fun x13 =>
        k9 x13
      else
        k9 (0 : Int32)
def m_X6_pairsIn (o : Nat) (p1 : Int32) (h : Hp) : Option Int32 :=
  m_X6_pairsIn_L4  o p1 h
    (fun v5 => (
      some v5
    ))
    LF (0 : Int32) (0 : Int32)
def m_X6_pass (o : Nat) (h : Hp) : Option (Int32 × Hp) :=
  (gR h 6 o 0).bind fun a1 =>
  (aI h 0 a1 (2 : Int32)).bind fun x2 =>
  jK (κ := Bool → Option (Int32 × Hp)) (fun v3 => (
    (pV h 6 o 7 (.int (bI v3))).bind fun h5 =>
    (gI h5 6 o 7).bind fun x6 =>
    if x6 ≤ 0 then
      cv h5 6 o <| (m_X6_keeps o h5).bind fun h7 =>
      cv h7 6 o <| (m_X6_passes o h7).bind fun h8 =>
      (gR h8 6 o 0).bind fun a9 =>
      (aI h8 0 a9 (2 : Int32)).bind fun x10 =>
      some (x10, h8)
    else
      some ((0 : Int32), h5)
  )) fun k4 =>
  if x2 = 0 then
    k4 true
  else
    k4 false
def m_X0_choicesIn_L4 (u1 : Nat) (u2 : Int32) (h : Hp) (k4_35 : Int32 → Option Int32) : Nat → Int32 → Int32 → Option Int32
  | 0, _, _ => none
  | f + 1, w3, w4 =>
    if (9 : Int32) ≤ w4 then
      k4_35 w3
    else
      (m_X5_has u2 w4).bind fun bb6 =>
      jK (κ := Int32 → Option Int32) (fun v7 => (
        nm (w4 + 1) fun x9 =>
        m_X0_choicesIn_L4 u1 u2 h k4_35 f v7 x9
      )) fun k8 =>
      if bb6 = true then
        cv h 0 u1 <| (m_X0_choicesOn u1 w4 h).bind fun x10 =>
        (m_J6_bitCount x10).bind fun x11 =>
        nm (w3 + x11) fun x12 =>
        k8 x12
      else
        k8 w3
def m_X0_choicesIn (o : Nat) (p1 : Int32) (h : Hp) : Option Int32 :=
  m_X0_choicesIn_L4  o p1 h
    (fun v5 => (
      some v5
    ))
    LF (0 : Int32) (0 : Int32)
def m_X0_stuckVertices_L4 (u1 : Nat) (h : Hp) (k4_35 : Int32 → Option Int32) : Nat → Int32 → Int32 → Option Int32
  | 0, _, _ => none
  | f + 1, w2, w3 =>
    if (9 : Int32) ≤ w3 then
      k4_35 w2
    else
      cv h 0 u1 <| (m_X0_isFree u1 w3 h).bind fun bb5 =>
      jK (κ := Int32 → Option Int32) (fun v6 => (
        nm (w3 + 1) fun x8 =>
        m_X0_stuckVertices_L4 u1 h k4_35 f v6 x8
      )) fun k7 =>
      if bb5 = true then
        cv h 0 u1 <| (m_X0_choicesOn u1 w3 h).bind fun x9 =>
        if x9 = 0 then
          nm (w2 + 1) fun x10 =>
          k7 x10
        else
          k7 w2
      else
        k7 w2
def m_X0_stuckVertices (o : Nat) (h : Hp) : Option Int32 :=
  m_X0_stuckVertices_L4  o h
    (fun v4 => (
      some v4
    ))
    LF (0 : Int32) (0 : Int32)
def m_X6_readsLay (o : Nat) (h : Hp) : Option Hp :=
  cv h 6 o <| (m_X6_must o true h).bind fun h1 =>
  (gR h1 6 o 0).bind fun a2 =>
  (aI h1 0 a2 (0 : Int32)).bind fun x3 =>
  cv h1 6 o <| b2 (m_X6_takes o (0 : Int32) (x3 - (1 : Int32)) h1) fun x4 h5 =>
  (gI h5 6 o 15).bind fun x6 =>
  jK (κ := Hp → Option Hp) (fun h7 => (
    (gI h7 6 o 15).bind fun x9 =>
    jK (κ := Int32 → Option Hp) (fun v10 => (
      jK (κ := Int32 → Option Hp) (fun v12 => (
        jK (κ := Hp → Option Hp) (fun h14 => (
          (gI h14 6 o 15).bind fun x16 =>
          jK (κ := Hp → Option Hp) (fun h17 => (
            (gI h17 6 o 15).bind fun x19 =>
            jK (κ := Hp → Option Hp) (fun h20 => (
              cv h20 6 o <| (m_X6_must o true h20).bind fun h22 =>
              cv h22 6 o <| (m_X6_mustEnd o h22).bind fun h23 =>
              some h23
            )) fun k21 =>
            if x19 = 0 then
              cv h17 6 o <| (m_X6_lays o x4 v12 h17).bind fun h24 =>
              k21 h24
            else
              k21 h17
          )) fun k18 =>
          if x16 = 0 then
            cv h14 6 o <| (m_X6_whyNot o x4 v12 h14).bind fun x26 =>
            if x26 ≤ 0 then
              k18 h14
            else
              cv h14 6 o <| (m_X6_fails o (-5 : Int32) h14).bind fun h27 =>
              k18 h27
          else
            k18 h14
        )) fun k15 =>
        if v12 = (-1 : Int32) then
          cv h7 6 o <| (m_X6_fails o (-3 : Int32) h7).bind fun h30 =>
          k15 h30
        else
          k15 h7
      )) fun k13 =>
      if v10 = (1 : Int32) then
        k13 (0 : Int32)
      else
        if v10 = (2 : Int32) then
          k13 (1 : Int32)
        else
          if v10 = (4 : Int32) then
            k13 (2 : Int32)
          else
            k13 (-1 : Int32)
    )) fun k11 =>
    if x9 = 0 then
      cv h7 6 o <| (m_X6_lettersHere o h7).bind fun x35 =>
      k11 x35
    else
      k11 (0 : Int32)
  )) fun k8 =>
  if x6 = 0 then
    (gI h5 6 o 13).bind fun x37 =>
    if x37 = 0 then
      k8 h5
    else
      cv h5 6 o <| (m_X6_fails o (-2 : Int32) h5).bind fun h38 =>
      k8 h38
  else
    k8 h5
def m_X6_isOver (o : Nat) (h : Hp) : Option Bool :=
  cv h 6 o <| (m_X6_pairs o h).bind fun x1 =>
  if x1 = 0 then
    (gR h 6 o 0).bind fun a2 =>
    (aI h 0 a2 (2 : Int32)).bind fun x3 =>
    if x3 = 0 then
      some true
    else
      some false
  else
    some false
def m_X6_reason (o : Nat) (p1 : Int32) (p2 : Int32) (h : Hp) : Option (Int32 × Hp) :=
  cv h 6 o <| (m_X6_isVertex o p1 h).bind fun bb1 =>
  jK (κ := Bool → Option (Int32 × Hp)) (fun v2 => (
    (pV h 6 o 7 (.int (bI v2))).bind fun h4 =>
    (gI h4 6 o 7).bind fun x5 =>
    if x5 ≤ 0 then
      cv h4 6 o <| (m_X6_whyNot o p1 p2 h4).bind fun x6 =>
      some (x6, h4)
    else
      some ((0 : Int32), h4)
  )) fun k3 =>
  if bb1 = true then
    cv h 6 o <| (m_X6_isColour o p2 h).bind fun bb8 =>
    if bb8 = true then
      k3 false
    else
      k3 true
  else
    k3 true
def m_X6_lay (o : Nat) (p1 : Int32) (p2 : Int32) (h : Hp) : Option (Int32 × Hp) :=
  cv h 6 o <| (m_X6_isVertex o p1 h).bind fun bb1 =>
  jK (κ := Int32 → Option (Int32 × Hp)) (fun v2 => (
    (pV h 6 o 7 (.int v2)).bind fun h4 =>
    (gI h4 6 o 7).bind fun x5 =>
    if x5 ≤ 0 then
      cv h4 6 o <| (m_X6_keeps o h4).bind fun h6 =>
      cv h6 6 o <| (m_X6_lays o p1 p2 h6).bind fun h7 =>
      cv h7 6 o <| (m_X6_freeSet o h7).bind fun x8 =>
      cv h7 6 o <| (m_X6_partsIn o x8 h7).bind fun x9 =>
      some (x9, h7)
    else
      some ((0 : Int32), h4)
  )) fun k3 =>
  if bb1 = true then
    cv h 6 o <| (m_X6_isColour o p2 h).bind fun bb11 =>
    if bb11 = true then
      cv h 6 o <| (m_X6_whyNot o p1 p2 h).bind fun x12 =>
      if x12 ≤ 0 then
        k3 (0 : Int32)
      else
        k3 (2 : Int32)
    else
      k3 (1 : Int32)
  else
    k3 (1 : Int32)
def m_X0_isOver (o : Nat) (h : Hp) : Option Bool :=
  (gI h 0 o 3).bind fun x1 =>
  if x1 = 0 then
    (gI h 0 o 4).bind fun x2 =>
    cv h 0 o <| (m_X0_choicesIn o x2 h).bind fun x3 =>
    if x3 = 0 then
      some true
    else
      some false
  else
    some false
def m_X5_count (o : Nat) (p1 : Int32) (h : Hp) : Option ((Int32 ⊕ Nat) × Hp) :=
  sw p1 (0) [
    (
      (gR h 5 o 0).bind fun a1 =>
      (gI h 0 a1 2).bind fun x2 =>
      some (.inl x2, h)
    ),
    (
      (gR h 5 o 0).bind fun a3 =>
      (gR h 5 o 0).bind fun a4 =>
      cv h 0 a4 <| (m_X0_everyVertex a4 h).bind fun x5 =>
      cv h 0 a3 <| (m_X0_edgesIn a3 x5 h).bind fun x6 =>
      some (.inl x6, h)
    ),
    (
      (gR h 5 o 0).bind fun a7 =>
      (gI h 0 a7 1).bind fun x8 =>
      some (.inl x8, h)
    ),
    (
      (gR h 5 o 0).bind fun a9 =>
      (gI h 0 a9 3).bind fun x10 =>
      some (.inl x10, h)
    ),
    (
      (gR h 5 o 0).bind fun a11 =>
      (gI h 0 a11 4).bind fun x12 =>
      (m_J6_bitCount x12).bind fun x13 =>
      some (.inl x13, h)
    ),
    (
      (gR h 5 o 0).bind fun a14 =>
      (gR h 5 o 0).bind fun a15 =>
      (gI h 0 a15 4).bind fun x16 =>
      cv h 0 a14 <| (m_X0_partsIn a14 x16 h).bind fun x17 =>
      some (.inl x17, h)
    ),
    (
      (gR h 5 o 0).bind fun a18 =>
      cv h 0 a18 <| (m_X0_turn a18 h).bind fun x19 =>
      some (.inl x19, h)
    ),
    (
      (gR h 5 o 0).bind fun a20 =>
      (gI h 0 a20 5).bind fun x21 =>
      some (.inl x21, h)
    ),
    (
      (gR h 5 o 0).bind fun a22 =>
      cv h 0 a22 <| (m_X0_isOver a22 h).bind fun bb23 =>
      if bb23 = true then
        some (.inl (1 : Int32), h)
      else
        some (.inl (0 : Int32), h)
    ),
    (
      (gR h 5 o 0).bind fun a25 =>
      cv h 0 a25 <| (m_X0_isOver a25 h).bind fun bb26 =>
      if bb26 = true then
        (gR h 5 o 0).bind fun a27 =>
        cv h 0 a27 <| (m_X0_turn a27 h).bind fun x28 =>
        some (.inl ((1 : Int32) - x28), h)
      else
        some (.inl (-1 : Int32), h)
    ),
    (
      (gR h 5 o 0).bind fun a30 =>
      (gR h 5 o 0).bind fun a31 =>
      (gI h 0 a31 4).bind fun x32 =>
      cv h 0 a30 <| (m_X0_choicesIn a30 x32 h).bind fun x33 =>
      some (.inl x33, h)
    ),
    (
      (gR h 5 o 0).bind fun a34 =>
      cv h 0 a34 <| (m_X0_stuckVertices a34 h).bind fun x35 =>
      some (.inl x35, h)
    ),
    (
      (gR h 5 o 0).bind fun a36 =>
      cv h 0 a36 <| (m_X0_passValue a36 h).bind fun x37 =>
      some (.inl x37, h)
    )
  ] (
    some (.inr 1, hpush h (.inr (8, [])) 6)
  )
def m_X6_count (o : Nat) (p1 : Int32) (h : Hp) : Option (Int32 × Hp) :=
  (m_X6_isIn p1 (0 : Int32) (12 : Int32)).bind fun bb1 =>
  jK (κ := Bool → Option (Int32 × Hp)) (fun v2 => (
    (pV h 6 o 7 (.int (bI v2))).bind fun h4 =>
    (gI h4 6 o 7).bind fun x5 =>
    if x5 ≤ 0 then
      sw p1 (0) [
        (
          (gR h4 6 o 0).bind fun a6 =>
          (aI h4 0 a6 (0 : Int32)).bind fun x7 =>
          some (x7, h4)
        ),
        (
          (gR h4 6 o 0).bind fun a8 =>
          (aI h4 0 a8 (0 : Int32)).bind fun x9 =>
          cv h4 6 o <| (m_X6_edgesIn o (((1 : Int32) <<< (x9 &&& 31)) - (1 : Int32)) h4).bind fun x10 =>
          some (x10, h4)
        ),
        (
          (gR h4 6 o 0).bind fun a11 =>
          (aI h4 0 a11 (1 : Int32)).bind fun x12 =>
          some (x12, h4)
        ),
        (
          (gR h4 6 o 0).bind fun a13 =>
          (aI h4 0 a13 (2 : Int32)).bind fun x14 =>
          some (x14, h4)
        ),
        (
          cv h4 6 o <| (m_X6_freeSet o h4).bind fun x15 =>
          (m_X6_bits x15).bind fun x16 =>
          some (x16, h4)
        ),
        (
          cv h4 6 o <| (m_X6_freeSet o h4).bind fun x17 =>
          cv h4 6 o <| (m_X6_partsIn o x17 h4).bind fun x18 =>
          some (x18, h4)
        ),
        (
          cv h4 6 o <| (m_X6_turn o h4).bind fun x19 =>
          some (x19, h4)
        ),
        (
          (gR h4 6 o 0).bind fun a20 =>
          (aI h4 0 a20 (3 : Int32)).bind fun x21 =>
          some (x21, h4)
        ),
        (
          cv h4 6 o <| (m_X6_isOver o h4).bind fun bb22 =>
          if bb22 = true then
            some ((1 : Int32), h4)
          else
            some ((0 : Int32), h4)
        ),
        (
          cv h4 6 o <| (m_X6_isOver o h4).bind fun bb24 =>
          if bb24 = true then
            cv h4 6 o <| (m_X6_turn o h4).bind fun x25 =>
            some (((1 : Int32) - x25), h4)
          else
            some ((-1 : Int32), h4)
        ),
        (
          cv h4 6 o <| (m_X6_pairs o h4).bind fun x27 =>
          some (x27, h4)
        ),
        (
          cv h4 6 o <| (m_X6_stuck o h4).bind fun x28 =>
          some (x28, h4)
        )
      ] (
        (gR h4 6 o 0).bind fun a29 =>
        (aI h4 0 a29 (2 : Int32)).bind fun x30 =>
        some ((jrem x30 (2 : Int32)), h4)
      )
    else
      some ((0 : Int32), h4)
  )) fun k3 =>
  if bb1 = true then
    k3 false
  else
    k3 true
def m_X6_isWord_L34 (u6 : Nat) (u7 : Nat) (h : Hp) (k34_69 : Option Bool) (k34_61 : Option Bool) : Nat → Int32 → Option Bool
  | 0, _ => none
  | f + 1, w8 =>
    (sLen u7).bind fun x9 =>
    if x9 ≤ w8 then
      k34_69
    else
      (gR h 6 u6 8).bind fun a10 =>
      (gI h 6 u6 11).bind fun x11 =>
      (aI h 0 a10 (x11 + w8)).bind fun x12 =>
      (sChr u7 w8).bind fun x13 =>
      if x12 = x13 then
        nm (w8 + 1) fun x14 =>
        m_X6_isWord_L34 u6 u7 h k34_69 k34_61 f x14
      else
        k34_61
def m_X6_isWord (o : Nat) (p1 : Nat) (h : Hp) : Option Bool :=
  (gI h 6 o 15).bind fun x1 =>
  if x1 = 0 then
    (gI h 6 o 13).bind fun x2 =>
    if x2 = 0 then
      (gI h 6 o 12).bind fun x3 =>
      (gI h 6 o 11).bind fun x4 =>
      (sLen p1).bind fun x5 =>
      if (x3 - x4) = x5 then
        m_X6_isWord_L34  o p1 h
          (some true)
          (some false)
          LF (0 : Int32)
      else
        some false
    else
      some false
  else
    some false
def m_X3_atWord_L28 (u5 : Nat) (u6 : Nat) (h : Hp) (k28_62 : Option Bool) (k28_54 : Option Bool) : Nat → Int32 → Option Bool
  | 0, _ => none
  | f + 1, w7 =>
    (sLen u6).bind fun x8 =>
    if x8 ≤ w7 then
      k28_62
    else
      (gI h 3 u5 7).bind fun x9 =>
      cv h 3 u5 <| (m_X3_byteAt u5 (x9 + w7) h).bind fun x10 =>
      (sChr u6 w7).bind fun x11 =>
      if x10 = x11 then
        nm (w7 + 1) fun x12 =>
        m_X3_atWord_L28 u5 u6 h k28_62 k28_54 f x12
      else
        k28_54
def m_X3_atWord (o : Nat) (p1 : Nat) (h : Hp) : Option Bool :=
  (gI h 3 o 6).bind fun x1 =>
  if x1 = (1 : Int32) then
    (gI h 3 o 8).bind fun x2 =>
    (gI h 3 o 7).bind fun x3 =>
    (sLen p1).bind fun x4 =>
    if (x2 - x3) = x4 then
      m_X3_atWord_L28  o p1 h
        (some true)
        (some false)
        LF (0 : Int32)
    else
      some false
  else
    some false
def m_X6_reads_L67 (u14 : Nat) (k67_83 : Hp → Option Hp) : Nat → Hp → Option Hp
  | 0, _ => none
  | f + 1, h =>
    cv h 6 u14 <| (m_X6_isWord u14 2 h).bind fun bb16 =>
    if bb16 = true then
      cv h 6 u14 <| (m_X6_readsVertex u14 h).bind fun h17 =>
      m_X6_reads_L67 u14 k67_83 f h17
    else
      k67_83 h
def m_X6_reads_L83 (u19 : Nat) (k83_99 : Hp → Option Hp) : Nat → Hp → Option Hp
  | 0, _ => none
  | f + 1, h =>
    cv h 6 u19 <| (m_X6_isWord u19 3 h).bind fun bb21 =>
    if bb21 = true then
      cv h 6 u19 <| (m_X6_readsEdge u19 h).bind fun h22 =>
      m_X6_reads_L83 u19 k83_99 f h22
    else
      k83_99 h
def m_X6_reads_L99 (u24 : Nat) (k99_140 : Hp → Option Hp) : Nat → Hp → Option Hp
  | 0, _ => none
  | f + 1, h =>
    cv h 6 u24 <| (m_X6_isWord u24 4 h).bind fun bb26 =>
    jK (κ := Option Hp) (
      cv h 6 u24 <| (m_X6_isWord u24 4 h).bind fun bb28 =>
      if bb28 = true then
        cv h 6 u24 <| (m_X6_readsLay u24 h).bind fun h30 =>
        m_X6_reads_L99 u24 k99_140 f h30
      else
        cv h 6 u24 <| (m_X6_readsPass u24 h).bind fun h29 =>
        m_X6_reads_L99 u24 k99_140 f h29
    ) fun k27 =>
    if bb26 = true then
      k27
    else
      cv h 6 u24 <| (m_X6_isWord u24 5 h).bind fun bb32 =>
      if bb32 = true then
        k27
      else
        k99_140 h
def m_X6_reads (o : Nat) (h : Hp) : Option Hp :=
  cv h 6 o <| (m_X6_isWord o 0 h).bind fun bb1 =>
  cv h 6 o <| (m_X6_must o bb1 h).bind fun h2 =>
  (gR h2 6 o 0).bind fun a3 =>
  cv h2 6 o <| b2 (m_X6_takes o (1 : Int32) (3 : Int32) h2) fun x4 h5 =>
  (sI h5 0 a3 (1 : Int32) x4).bind fun h6 =>
  cv h6 6 o <| (m_X6_isWord o 1 h6).bind fun bb7 =>
  jK (κ := Hp → Option Hp) (fun h8 => (
    cv h8 6 o <| (m_X6_mustEnd o h8).bind fun h10 =>
    cv h10 6 o <| (m_X6_isWord o 2 h10).bind fun bb11 =>
    jK (κ := Hp → Option Hp) (fun h12 => (
      m_X6_reads_L67  o
        (fun h15 => (
          m_X6_reads_L83  o
            (fun h20 => (
              m_X6_reads_L99  o
                (fun h25 => (
                  (gI h25 6 o 15).bind fun x35 =>
                  if x35 = 0 then
                    (gI h25 6 o 13).bind fun x36 =>
                    if x36 = (3 : Int32) then
                      some h25
                    else
                      cv h25 6 o <| (m_X6_fails o (-2 : Int32) h25).bind fun h37 =>
                      some h37
                  else
                    some h25
                ))
                LF h20
            ))
            LF h15
        ))
        LF h12
    )) fun k13 =>
    if bb11 = true then
      k13 h10
    else
      cv h10 6 o <| (m_X6_fails o (-2 : Int32) h10).bind fun h40 =>
      k13 h40
  )) fun k9 =>
  if bb7 = true then
    cv h6 6 o <| (m_X6_next o h6).bind fun h42 =>
    (gR h42 6 o 0).bind fun a43 =>
    cv h42 6 o <| b2 (m_X6_takes o (0 : Int32) (9 : Int32) h42) fun x44 h45 =>
    (sI h45 0 a43 (2 : Int32) x44).bind fun h46 =>
    k9 h46
  else
    k9 h6
def m_X3_readWord (o : Nat) (p1 : Nat) (h : Hp) : Option (Bool × Hp) :=
  cv h 3 o <| (m_X3_atWord o p1 h).bind fun bb1 =>
  if bb1 = true then
    cv h 3 o <| (m_X3_advance o h).bind fun h2 =>
    some (true, h2)
  else
    cv h 3 o <| b2 (m_X3_fail o (-2 : Int32) h) fun bb3 h4 =>
    some (bb3, h4)
def m_X6_load_L65 (u14 : Nat) (k65_85 : Hp → Option (Int32 × Hp)) : Nat → Int32 → Hp → Option (Int32 × Hp)
  | 0, _, _ => none
  | f + 1, w15, h =>
    if (4136 : Int32) ≤ w15 then
      k65_85 h
    else
      (gR h 6 u14 0).bind fun a17 =>
      (sI h 0 a17 w15 (0 : Int32)).bind fun h18 =>
      nm (w15 + 1) fun x19 =>
      m_X6_load_L65 u14 k65_85 f x19 h18
def m_X6_load (o : Nat) (p1 : Int32) (h : Hp) : Option (Int32 × Hp) :=
  (gI h 6 o 9).bind fun x1 =>
  (m_X6_isIn p1 (0 : Int32) x1).bind fun bb2 =>
  jK (κ := Bool → Option (Int32 × Hp)) (fun v3 => (
    (pV h 6 o 7 (.int (bI v3))).bind fun h5 =>
    (gI h5 6 o 7).bind fun x6 =>
    if x6 ≤ 0 then
      (pV h5 6 o 10 (.int p1)).bind fun h7 =>
      (pV h7 6 o 9 (.int 0)).bind fun h8 =>
      (pV h8 6 o 12 (.int 0)).bind fun h9 =>
      (pV h9 6 o 15 (.int 0)).bind fun h10 =>
      (gR h10 6 o 1).bind fun a11 =>
      (gR h10 6 o 0).bind fun a12 =>
      (m_X6_sets a11 (0 : Int32) a12 (0 : Int32) h10).bind fun h13 =>
      m_X6_load_L65  o
        (fun h16 => (
          cv h16 6 o <| (m_X6_next o h16).bind fun h21 =>
          cv h21 6 o <| (m_X6_reads o h21).bind fun h22 =>
          (gI h22 6 o 15).bind fun x23 =>
          jK (κ := Int32 → Option (Int32 × Hp)) (fun v24 => (
            (pV h22 6 o 17 (.int v24)).bind fun h26 =>
            (gR h26 6 o 2).bind fun a27 =>
            (gR h26 6 o 0).bind fun a28 =>
            (m_X6_sets a27 (0 : Int32) a28 (0 : Int32) h26).bind fun h29 =>
            (gR h29 6 o 0).bind fun a30 =>
            (gR h29 6 o 1).bind fun a31 =>
            (m_X6_sets a30 (0 : Int32) a31 (0 : Int32) h29).bind fun h32 =>
            (gI h32 6 o 15).bind fun x33 =>
            if x33 = 0 then
              cv h32 6 o <| (m_X6_keeps o h32).bind fun h34 =>
              (gR h34 6 o 0).bind fun a35 =>
              (gR h34 6 o 2).bind fun a36 =>
              (m_X6_sets a35 (0 : Int32) a36 (0 : Int32) h34).bind fun h37 =>
              (gR h37 6 o 0).bind fun a38 =>
              (aI h37 0 a38 (0 : Int32)).bind fun x39 =>
              some (x39, h37)
            else
              (gI h32 6 o 15).bind fun x40 =>
              some (x40, h32)
          )) fun k25 =>
          if x23 = 0 then
            k25 (-1 : Int32)
          else
            (gI h22 6 o 16).bind fun x42 =>
            k25 x42
        ))
        LF (0 : Int32) h13
    else
      some ((0 : Int32), h5)
  )) fun k4 =>
  if bb2 = true then
    k4 false
  else
    k4 true
def m_X3_readHead (o : Nat) (h : Hp) : Option (Bool × Hp) :=
  cv h 3 o <| b2 (m_X3_readWord o 0 h) fun bb1 h2 =>
  if bb1 = true then
    cv h2 3 o <| b2 (m_X3_readNumber o (1 : Int32) (3 : Int32) h2) fun x3 h4 =>
    if x3 = (-1 : Int32) then
      some (false, h4)
    else
      (gR h4 3 o 0).bind fun a5 =>
      cv h4 0 a5 <| (m_X0_startEmpty a5 x3 h4).bind fun h6 =>
      cv h6 3 o <| (m_X3_atWord o 1 h6).bind fun bb7 =>
      jK (κ := Hp → Option (Bool × Hp)) (fun h8 => (
        cv h8 3 o <| b2 (m_X3_readSemicolon o h8) fun bb10 h11 =>
        some (bb10, h11)
      )) fun k9 =>
      if bb7 = true then
        cv h6 3 o <| (m_X3_advance o h6).bind fun h12 =>
        cv h12 3 o <| b2 (m_X3_readNumber o (0 : Int32) (9 : Int32) h12) fun x13 h14 =>
        if x13 = (-1 : Int32) then
          some (false, h14)
        else
          (gR h14 3 o 0).bind fun a15 =>
          (pV h14 0 a15 3 (.int x13)).bind fun h16 =>
          k9 h16
      else
        k9 h6
  else
    some (false, h2)
def m_X3_readVertex (o : Nat) (h : Hp) : Option (Bool × Hp) :=
  cv h 3 o <| (m_X3_atWord o 2 h).bind fun bb1 =>
  jK (κ := Option (Bool × Hp)) (
    cv h 3 o <| b2 (m_X3_readWord o 2 h) fun bb3 h4 =>
    if bb3 = true then
      (gR h4 3 o 0).bind fun a5 =>
      cv h4 0 a5 <| (m_X0_everyColour a5 h4).bind fun x6 =>
      (gI h4 3 o 6).bind fun x7 =>
      jK (κ := Int32 → Hp → Option (Bool × Hp)) (fun v8 h9 => (
        (gR h9 3 o 0).bind fun a11 =>
        cv h9 0 a11 <| (m_X0_addVertex a11 v8 h9).bind fun h12 =>
        cv h12 3 o <| b2 (m_X3_readSemicolon o h12) fun bb13 h14 =>
        some (bb13, h14)
      )) fun k10 =>
      if x7 = (1 : Int32) then
        cv h4 3 o <| (m_X3_listHere o h4).bind fun x15 =>
        if x15 = 0 then
          cv h4 3 o <| b2 (m_X3_fail o (-3 : Int32) h4) fun bb17 h18 =>
          some (bb17, h18)
        else
          cv h4 3 o <| (m_X3_advance o h4).bind fun h16 =>
          k10 x15 h16
      else
        k10 x6 h4
    else
      some (false, h4)
  ) fun k2 =>
  if bb1 = true then
    (gR h 3 o 0).bind fun a22 =>
    cv h 0 a22 <| (m_X0_isFull a22 h).bind fun bb23 =>
    if bb23 = true then
      cv h 3 o <| b2 (m_X3_fail o (-6 : Int32) h) fun bb24 h25 =>
      some (bb24, h25)
    else
      k2
  else
    k2
def m_X3_readEdge (o : Nat) (h : Hp) : Option (Bool × Hp) :=
  cv h 3 o <| b2 (m_X3_readWord o 3 h) fun bb1 h2 =>
  if bb1 = true then
    (gR h2 3 o 0).bind fun a3 =>
    (gI h2 0 a3 2).bind fun x4 =>
    cv h2 3 o <| b2 (m_X3_readNumber o (0 : Int32) (x4 - (1 : Int32)) h2) fun x5 h6 =>
    if x5 = (-1 : Int32) then
      some (false, h6)
    else
      (gI h6 3 o 6).bind fun x7 =>
      jK (κ := Option (Bool × Hp)) (
        (gI h6 3 o 6).bind fun x9 =>
        jK (κ := Option (Bool × Hp)) (
          (gR h6 3 o 0).bind fun a11 =>
          (gI h6 0 a11 2).bind fun x12 =>
          cv h6 3 o <| b2 (m_X3_readNumber o (0 : Int32) (x12 - (1 : Int32)) h6) fun x13 h14 =>
          if x13 = (-1 : Int32) then
            some (false, h14)
          else
            (gR h14 3 o 0).bind fun a15 =>
            cv h14 0 a15 <| (m_X0_addEdge a15 x5 x13 h14).bind fun h16 =>
            cv h16 3 o <| b2 (m_X3_readSemicolon o h16) fun bb17 h18 =>
            some (bb17, h18)
        ) fun k10 =>
        if x9 = (2 : Int32) then
          (gR h6 3 o 0).bind fun a20 =>
          cv h6 0 a20 <| (m_X0_neighbours a20 x5 h6).bind fun x21 =>
          (gI h6 3 o 9).bind fun x22 =>
          (m_X5_has x21 x22).bind fun bb23 =>
          if bb23 = true then
            cv h6 3 o <| b2 (m_X3_fail o (-4 : Int32) h6) fun bb24 h25 =>
            some (bb24, h25)
          else
            k10
        else
          k10
      ) fun k8 =>
      if x7 = (2 : Int32) then
        (gI h6 3 o 9).bind fun x28 =>
        if x28 = x5 then
          cv h6 3 o <| b2 (m_X3_fail o (-3 : Int32) h6) fun bb29 h30 =>
          some (bb29, h30)
        else
          k8
      else
        k8
  else
    some (false, h2)
def m_X3_readLay (o : Nat) (h : Hp) : Option (Bool × Hp) :=
  cv h 3 o <| b2 (m_X3_readWord o 4 h) fun bb1 h2 =>
  if bb1 = true then
    (gR h2 3 o 0).bind fun a3 =>
    (gI h2 0 a3 2).bind fun x4 =>
    cv h2 3 o <| b2 (m_X3_readNumber o (0 : Int32) (x4 - (1 : Int32)) h2) fun x5 h6 =>
    if x5 = (-1 : Int32) then
      some (false, h6)
    else
      (gI h6 3 o 6).bind fun x7 =>
      if x7 = (1 : Int32) then
        cv h6 3 o <| (m_X3_listHere o h6).bind fun x8 =>
        (m_J6_bitCount x8).bind fun x9 =>
        if x9 = (1 : Int32) then
          (m_X5_least x8).bind fun x10 =>
          (gR h6 3 o 0).bind fun a11 =>
          cv h6 0 a11 <| (m_X0_whyNot a11 x5 x10 h6).bind fun x12 =>
          if x12 = 0 then
            (gR h6 3 o 0).bind fun a13 =>
            cv h6 0 a13 <| (m_X0_paint a13 x5 x10 h6).bind fun h14 =>
            cv h14 3 o <| (m_X3_advance o h14).bind fun h15 =>
            some (true, h15)
          else
            cv h6 3 o <| b2 (m_X3_fail o (-5 : Int32) h6) fun bb16 h17 =>
            some (bb16, h17)
        else
          cv h6 3 o <| b2 (m_X3_fail o (-3 : Int32) h6) fun bb19 h20 =>
          some (bb19, h20)
      else
        cv h6 3 o <| b2 (m_X3_fail o (-2 : Int32) h6) fun bb22 h23 =>
        some (bb22, h23)
  else
    some (false, h2)
def m_X3_readPass (o : Nat) (h : Hp) : Option (Bool × Hp) :=
  (gR h 3 o 0).bind fun a1 =>
  (gI h 0 a1 3).bind fun x2 =>
  if x2 = 0 then
    cv h 3 o <| b2 (m_X3_fail o (-5 : Int32) h) fun bb7 h8 =>
    some (bb7, h8)
  else
    (gR h 3 o 0).bind fun a3 =>
    cv h 0 a3 <| (m_X0_spendPass a3 h).bind fun h4 =>
    cv h4 3 o <| b2 (m_X3_readWord o 5 h4) fun bb5 h6 =>
    some (bb5, h6)
def m_X3_readVertices_L7 (u3 : Nat) (k7_37 : Bool → Hp → Option (Bool × Hp)) : Nat → Bool → Int32 → Hp → Option (Bool × Hp)
  | 0, _, _, _ => none
  | f + 1, w4, w5, h =>
    if (9 : Int32) ≤ w5 then
      k7_37 w4 h
    else
      if w4 = true then
        cv h 3 u3 <| (m_X3_atWord u3 2 h).bind fun bb8 =>
        if bb8 = true then
          cv h 3 u3 <| b2 (m_X3_readVertex u3 h) fun bb9 h10 =>
          nm (w5 + 1) fun x11 =>
          m_X3_readVertices_L7 u3 k7_37 f bb9 x11 h10
        else
          k7_37 w4 h
      else
        k7_37 w4 h
def m_X3_readVertices (o : Nat) (h : Hp) : Option (Bool × Hp) :=
  cv h 3 o <| b2 (m_X3_readVertex o h) fun bb1 h2 =>
  m_X3_readVertices_L7  o
    (fun v6 h7 => (
      some (v6, h7)
    ))
    LF bb1 (0 : Int32) h2
def m_X3_readEdges_L4 (u1 : Nat) (k4_36 : Bool → Hp → Option (Bool × Hp)) : Nat → Bool → Int32 → Hp → Option (Bool × Hp)
  | 0, _, _, _ => none
  | f + 1, w2, w3, h =>
    (gI h 3 u1 4).bind fun x6 =>
    if x6 ≤ w3 then
      k4_36 w2 h
    else
      if w2 = true then
        cv h 3 u1 <| (m_X3_atWord u1 3 h).bind fun bb7 =>
        if bb7 = true then
          cv h 3 u1 <| b2 (m_X3_readEdge u1 h) fun bb8 h9 =>
          nm (w3 + 1) fun x10 =>
          m_X3_readEdges_L4 u1 k4_36 f bb8 x10 h9
        else
          k4_36 w2 h
      else
        k4_36 w2 h
def m_X3_readEdges (o : Nat) (h : Hp) : Option (Bool × Hp) :=
  m_X3_readEdges_L4  o
    (fun v4 h5 => (
      some (v4, h5)
    ))
    LF true (0 : Int32) h
def m_X3_readMoves_L4 (u1 : Nat) (k4_79 : Bool → Hp → Option (Bool × Hp)) : Nat → Bool → Int32 → Hp → Option (Bool × Hp)
  | 0, _, _, _ => none
  | f + 1, w2, w3, h =>
    (gI h 3 u1 4).bind fun x6 =>
    if x6 ≤ w3 then
      k4_79 w2 h
    else
      if w2 = true then
        cv h 3 u1 <| (m_X3_atWord u1 4 h).bind fun bb7 =>
        jK (κ := Option (Bool × Hp)) (
          cv h 3 u1 <| (m_X3_atWord u1 4 h).bind fun bb9 =>
          jK (κ := Bool → Hp → Option (Bool × Hp)) (fun v10 h11 => (
            nm (w3 + 1) fun x13 =>
            m_X3_readMoves_L4 u1 k4_79 f v10 x13 h11
          )) fun k12 =>
          jK (κ := Hp → Option (Bool × Hp)) (fun h14 => (
            cv h14 3 u1 <| b2 (m_X3_readSemicolon u1 h14) fun bb16 h17 =>
            if bb16 = true then
              k12 true h17
            else
              k12 false h17
          )) fun k15 =>
          if bb9 = true then
            cv h 3 u1 <| b2 (m_X3_readLay u1 h) fun bb22 h23 =>
            if bb22 = true then
              k15 h23
            else
              k12 false h23
          else
            cv h 3 u1 <| b2 (m_X3_readPass u1 h) fun bb19 h20 =>
            if bb19 = true then
              k15 h20
            else
              k12 false h20
        ) fun k8 =>
        if bb7 = true then
          k8
        else
          cv h 3 u1 <| (m_X3_atWord u1 5 h).bind fun bb26 =>
          if bb26 = true then
            k8
          else
            k4_79 w2 h
      else
        k4_79 w2 h
def m_X3_readMoves (o : Nat) (h : Hp) : Option (Bool × Hp) :=
  m_X3_readMoves_L4  o
    (fun v4 h5 => (
      some (v4, h5)
    ))
    LF true (0 : Int32) h
def m_X3_readText (o : Nat) (p1 : Int32) (h : Hp) : Option (Int32 × Hp) :=
  (pV h 3 o 4 (.int p1)).bind fun h1 =>
  (pV h1 3 o 2 (.int (-1))).bind fun h2 =>
  (pV h2 3 o 8 (.int 0)).bind fun h3 =>
  cv h3 3 o <| (m_X3_advance o h3).bind fun h4 =>
  cv h4 3 o <| b2 (m_X3_readHead o h4) fun bb5 h6 =>
  jK (κ := Bool → Hp → Option (Int32 × Hp)) (fun v7 h8 => (
    (pV h8 3 o 1 (.int 0)).bind fun h10 =>
    if v7 = true then
      some ((0 : Int32), h10)
    else
      (gI h10 3 o 5).bind fun x11 =>
      some (x11, h10)
  )) fun k9 =>
  if bb5 = true then
    cv h6 3 o <| b2 (m_X3_readVertices o h6) fun bb13 h14 =>
    if bb13 = true then
      cv h14 3 o <| b2 (m_X3_readEdges o h14) fun bb15 h16 =>
      if bb15 = true then
        cv h16 3 o <| b2 (m_X3_readMoves o h16) fun bb17 h18 =>
        if bb17 = true then
          cv h18 3 o <| b2 (m_X3_readEnd o h18) fun bb19 h20 =>
          if bb19 = true then
            k9 true h20
          else
            k9 false h20
        else
          k9 false h18
      else
        k9 false h16
    else
      k9 false h14
  else
    k9 false h6
def m_X5_load (o : Nat) (p1 : Int32) (h : Hp) : Option ((Int32 ⊕ Nat) × Hp) :=
  if p1 < 0 then
    some (.inr 1, hpush h (.inr (8, [])) 6)
  else
    (gR h 5 o 2).bind fun a1 =>
    (gI h 3 a1 1).bind fun x2 =>
    if p1 ≤ x2 then
      (gR h 5 o 2).bind fun a3 =>
      cv h 3 a3 <| b2 (m_X3_readText a3 p1 h) fun x4 h5 =>
      if x4 = 0 then
        (gR h5 5 o 3).bind fun a6 =>
        (gR h5 5 o 0).bind fun a7 =>
        cv h5 1 a6 <| (m_X1_keep a6 a7 h5).bind fun h8 =>
        (gI h8 5 o 7).bind fun x9 =>
        (pV h8 5 o 7 (.int (x9 + (1 : Int32)))).bind fun h10 =>
        (gR h10 5 o 0).bind fun a11 =>
        (gR h10 5 o 2).bind fun a12 =>
        (gR h10 3 a12 0).bind fun a13 =>
        cv h10 0 a11 <| (m_X0_takeFrom a11 a13 h10).bind fun h14 =>
        (gR h14 5 o 0).bind fun a15 =>
        (gI h14 5 o 7).bind fun x16 =>
        (pV h14 0 a15 0 (.int x16)).bind fun h17 =>
        (gR h17 5 o 0).bind fun a18 =>
        (gI h17 0 a18 2).bind fun x19 =>
        some (.inl x19, h17)
      else
        some (.inl x4, h5)
    else
      some (.inr 1, hpush h (.inr (8, [])) 6)
def m_X6_board_L16 (u2 : Nat) (u6 : Int32) (k16_89 : Int32 → Int32 → Int32 → Hp → Option (Int32 × Hp)) : Nat → Int32 → Int32 → Int32 → Int32 → Hp → Option (Int32 × Hp)
  | 0, _, _, _, _, _ => none
  | f + 1, w3, w4, w5, w7, h =>
    if w7 ≤ 0 then
      k16_89 w3 w4 w5 h
    else
      (m_X6_lowest w7).bind fun x12 =>
      cv h 6 u2 <| (m_X6_reached u2 x12 u6 h).bind fun x13 =>
      (m_X6_lowest x13).bind fun x14 =>
      cv h 6 u2 <| (m_X6_banOf u2 x14 h).bind fun x15 =>
      cv h 6 u2 <| b2 (m_X6_knownOf RD u2 x13 x15 h) fun x16 h17 =>
      nm (w3 ^^^ (x16 &&& (31 : Int32))) fun x18 =>
      nm (w4 + ((x16 >>> ((5 : Int32) &&& 31)) &&& (31 : Int32))) fun x19 =>
      nm (w5 + (x16 >>> ((10 : Int32) &&& 31))) fun x20 =>
      nm (w7 &&& (x13 ^^^ (-1 : Int32))) fun x21 =>
      m_X6_board_L16 u2 u6 k16_89 f x18 x19 x20 x21 h17
def m_X6_board (o : Nat) (h : Hp) : Option (Int32 × Hp) :=
  cv h 6 o <| (m_X6_freeSet o h).bind fun x1 =>
  m_X6_board_L16  o x1
    (fun v8 v9 v10 h11 => (
      some (((v8 ||| (v9 <<< ((5 : Int32) &&& 31))) ||| (v10 <<< ((10 : Int32) &&& 31))), h11)
    ))
    LF (0 : Int32) (0 : Int32) (0 : Int32) x1 h
def m_X6_ofPart (o : Nat) (p1 : Int32) (p2 : Int32) (p3 : Int32) (h : Hp) : Option (Int32 × Hp) :=
  cv h 6 o <| (m_X6_forgets o h).bind fun h1 =>
  cv h1 6 o <| b2 (m_X6_knownOf RD o p1 p2 h1) fun x2 h3 =>
  if p3 = (5 : Int32) then
    some ((x2 &&& (31 : Int32)), h3)
  else
    if p3 = (6 : Int32) then
      some (((x2 >>> ((5 : Int32) &&& 31)) &&& (31 : Int32)), h3)
    else
      some ((x2 >>> ((10 : Int32) &&& 31)), h3)
def m_X6_meanValue_L22 (u5 : Nat) (u6 : Int32) (k22_60 : Int32 → Hp → Option (UInt32 × Hp)) : Nat → Int32 → Int32 → Hp → Option (UInt32 × Hp)
  | 0, _, _, _ => none
  | f + 1, w7, w8, h =>
    if u6 ≤ w8 then
      k22_60 w7 h
    else
      cv h 6 u5 <| (m_X6_partSet u5 w8 h).bind fun x11 =>
      cv h 6 u5 <| (m_X6_partSet u5 w8 h).bind fun x12 =>
      (m_X6_lowest x12).bind fun x13 =>
      cv h 6 u5 <| (m_X6_banOf u5 x13 h).bind fun x14 =>
      cv h 6 u5 <| b2 (m_X6_knownOf RD u5 x11 x14 h) fun x15 h16 =>
      nm (w7 + (x15 &&& (31 : Int32))) fun x17 =>
      nm (w8 + 1) fun x18 =>
      m_X6_meanValue_L22 u5 u6 k22_60 f x17 x18 h16
def m_X6_meanValue (o : Nat) (h : Hp) : Option (UInt32 × Hp) :=
  (pV h 6 o 7 (.int 0)).bind fun h1 =>
  cv h1 6 o <| (m_X6_forgets o h1).bind fun h2 =>
  cv h2 6 o <| (m_X6_freeSet o h2).bind fun x3 =>
  cv h2 6 o <| (m_X6_partsIn o x3 h2).bind fun x4 =>
  m_X6_meanValue_L22  o x4
    (fun v9 h10 => (
      if x4 = 0 then
        some (FP.fconst0, h10)
      else
        (n32 (FP.fdiv (FP.i2f v9) (FP.i2f x4))).bind fun x20 =>
        some (x20, h10)
    ))
    LF (0 : Int32) (0 : Int32) h2
def m_X6_valueNow (o : Nat) (h : Hp) : Option (Int32 × Hp) :=
  cv h 6 o <| b2 (m_X6_board o h) fun x1 h2 =>
  (gR h2 6 o 0).bind fun a3 =>
  (aI h2 0 a3 (2 : Int32)).bind fun x4 =>
  some (((x1 &&& (31 : Int32)) ^^^ (jrem x4 (2 : Int32))), h2)
def m_X6_boardIf_L13 (u3 : Nat) (u4 : Int32) (u5 : Int32) (u6 : Int32) (k13_43 : Hp → Option (Int32 × Hp)) : Nat → Int32 → Hp → Option (Int32 × Hp)
  | 0, _, _ => none
  | f + 1, w7, h =>
    if (9 : Int32) ≤ w7 then
      k13_43 h
    else
      (gR h 6 u3 19).bind fun a9 =>
      (gR h 6 u3 0).bind fun a10 =>
      (aI h 0 a10 ((31 : Int32) + w7)).bind fun x11 =>
      (sI h 0 a9 w7 x11).bind fun h12 =>
      nm (w7 + 1) fun x13 =>
      m_X6_boardIf_L13 u3 u4 u5 u6 k13_43 f x13 h12
def m_X6_boardIf_L46 (u15 : Nat) (u16 : Int32) (u17 : Int32) (u18 : Int32) (k46_86 : Hp → Option (Int32 × Hp)) : Nat → Int32 → Hp → Option (Int32 × Hp)
  | 0, _, _ => none
  | f + 1, w19, h =>
    (gR h 6 u15 0).bind fun a21 =>
    (aI h 0 a21 (0 : Int32)).bind fun x22 =>
    if x22 ≤ w19 then
      k46_86 h
    else
      jK (κ := Hp → Option (Int32 × Hp)) (fun h23 => (
        nm (w19 + 1) fun x25 =>
        m_X6_boardIf_L46 u15 u16 u17 u18 k46_86 f x25 h23
      )) fun k24 =>
      if ((u18 >>> (w19 &&& 31)) &&& (1 : Int32)) = (1 : Int32) then
        (gR h 6 u15 0).bind fun a26 =>
        (sI h 0 a26 ((31 : Int32) + w19) (u17 + (1 : Int32))).bind fun h27 =>
        k24 h27
      else
        k24 h
def m_X6_boardIf_L117 (u36 : Nat) (u37 : Int32) (k117_147 : Hp → Option (Int32 × Hp)) : Nat → Int32 → Hp → Option (Int32 × Hp)
  | 0, _, _ => none
  | f + 1, w38, h =>
    if (9 : Int32) ≤ w38 then
      k117_147 h
    else
      (gR h 6 u36 0).bind fun a40 =>
      (gR h 6 u36 19).bind fun a41 =>
      (aI h 0 a41 w38).bind fun x42 =>
      (sI h 0 a40 ((31 : Int32) + w38) x42).bind fun h43 =>
      nm (w38 + 1) fun x44 =>
      m_X6_boardIf_L117 u36 u37 k117_147 f x44 h43
def m_X6_boardIf (o : Nat) (p1 : Int32) (p2 : Int32) (h : Hp) : Option (Int32 × Hp) :=
  cv h 6 o <| (m_X6_freeSet o h).bind fun x1 =>
  cv h 6 o <| (m_X6_reached o p1 x1 h).bind fun x2 =>
  m_X6_boardIf_L13  o p1 p2 x2
    (fun h8 => (
      m_X6_boardIf_L46  o p1 p2 x2
        (fun h20 => (
          (gR h20 6 o 0).bind fun a30 =>
          (sI h20 0 a30 ((22 : Int32) + p1) (p2 + (1 : Int32))).bind fun h31 =>
          cv h31 6 o <| b2 (m_X6_board o h31) fun x32 h33 =>
          (gR h33 6 o 0).bind fun a34 =>
          (sI h33 0 a34 ((22 : Int32) + p1) (0 : Int32)).bind fun h35 =>
          m_X6_boardIf_L117  o x32
            (fun h39 => (
              some (x32, h39)
            ))
            LF (0 : Int32) h35
        ))
        LF (0 : Int32) h8
    ))
    LF (0 : Int32) h
def m_X6_passWins (o : Nat) (h : Hp) : Option (Bool × Hp) :=
  (gR h 6 o 0).bind fun a1 =>
  (aI h 0 a1 (2 : Int32)).bind fun x2 =>
  if x2 ≤ 0 then
    some (false, h)
  else
    cv h 6 o <| b2 (m_X6_board o h) fun x3 h4 =>
    (gR h4 6 o 0).bind fun a5 =>
    (aI h4 0 a5 (2 : Int32)).bind fun x6 =>
    if ((x3 &&& (31 : Int32)) ^^^ (jrem (x6 - (1 : Int32)) (2 : Int32))) = 0 then
      some (true, h4)
    else
      some (false, h4)
def m_X6_part (o : Nat) (p1 : Int32) (p2 : Int32) (h : Hp) : Option (Int32 × Hp) :=
  jK (κ := Int32 → Option (Int32 × Hp)) (fun v1 => (
    jK (κ := Int32 → Option (Int32 × Hp)) (fun v3 => (
      (pV h 6 o 7 (.int v3)).bind fun h5 =>
      (gI h5 6 o 7).bind fun x6 =>
      if x6 ≤ 0 then
        (m_X6_lowest v1).bind fun x7 =>
        cv h5 6 o <| (m_X6_banOf o x7 h5).bind fun x8 =>
        sw p2 (0) [
          (
            (m_X6_bits v1).bind fun x9 =>
            some (x9, h5)
          ),
          (
            (m_X6_lowest v1).bind fun x10 =>
            some (x10, h5)
          ),
          (
            some (x8, h5)
          ),
          (
            cv h5 6 o <| (m_X6_edgesIn o v1 h5).bind fun x11 =>
            some (x11, h5)
          ),
          (
            cv h5 6 o <| (m_X6_pairsIn o v1 h5).bind fun x12 =>
            some (x12, h5)
          )
        ] (
          cv h5 6 o <| b2 (m_X6_ofPart o v1 x8 p2 h5) fun x13 h14 =>
          some (x13, h14)
        )
      else
        some ((0 : Int32), h5)
    )) fun k4 =>
    if v1 = 0 then
      k4 (1 : Int32)
    else
      (m_X6_isIn p2 (0 : Int32) (7 : Int32)).bind fun bb16 =>
      if bb16 = true then
        k4 (0 : Int32)
      else
        k4 (2 : Int32)
  )) fun k2 =>
  if 0 ≤ p1 then
    cv h 6 o <| (m_X6_partSet o p1 h).bind fun x19 =>
    k2 x19
  else
    k2 (0 : Int32)
def m_X6_longest (o : Nat) (h : Hp) : Option (Int32 × Hp) :=
  (pV h 6 o 7 (.int 0)).bind fun h1 =>
  cv h1 6 o <| (m_X6_forgets o h1).bind fun h2 =>
  cv h2 6 o <| b2 (m_X6_board o h2) fun x3 h4 =>
  (gR h4 6 o 0).bind fun a5 =>
  (aI h4 0 a5 (2 : Int32)).bind fun x6 =>
  some ((((x3 >>> ((5 : Int32) &&& 31)) &&& (31 : Int32)) + x6), h4)
def m_X6_shortest (o : Nat) (h : Hp) : Option (Int32 × Hp) :=
  (pV h 6 o 7 (.int 0)).bind fun h1 =>
  cv h1 6 o <| (m_X6_forgets o h1).bind fun h2 =>
  cv h2 6 o <| b2 (m_X6_board o h2) fun x3 h4 =>
  (gR h4 6 o 0).bind fun a5 =>
  (aI h4 0 a5 (2 : Int32)).bind fun x6 =>
  some (((x3 >>> ((10 : Int32) &&& 31)) + x6), h4)
def m_X6_winningOn_L11 (u2 : Nat) (u3 : Int32) (u4 : Int32) (k11_67 : Int32 → Hp → Option (Int32 × Hp)) : Nat → Int32 → Int32 → Hp → Option (Int32 × Hp)
  | 0, _, _, _ => none
  | f + 1, w5, w6, h =>
    (gR h 6 u2 0).bind fun a9 =>
    (aI h 0 a9 (1 : Int32)).bind fun x10 =>
    if x10 ≤ w6 then
      k11_67 w5 h
    else
      jK (κ := Int32 → Hp → Option (Int32 × Hp)) (fun v11 h12 => (
        nm (w6 + 1) fun x14 =>
        m_X6_winningOn_L11 u2 u3 u4 k11_67 f v11 x14 h12
      )) fun k13 =>
      if ((u4 >>> (w6 &&& 31)) &&& (1 : Int32)) = (1 : Int32) then
        cv h 6 u2 <| b2 (m_X6_boardIf u2 u3 w6 h) fun x15 h16 =>
        (gR h16 6 u2 0).bind fun a17 =>
        (aI h16 0 a17 (2 : Int32)).bind fun x18 =>
        if ((x15 &&& (31 : Int32)) ^^^ (jrem x18 (2 : Int32))) = 0 then
          nm (w5 ||| ((1 : Int32) <<< (w6 &&& 31))) fun x19 =>
          k13 x19 h16
        else
          k13 w5 h16
      else
        k13 w5 h
def m_X6_winningOn (o : Nat) (p1 : Int32) (h : Hp) : Option (Int32 × Hp) :=
  cv h 6 o <| (m_X6_colours o p1 h).bind fun x1 =>
  m_X6_winningOn_L11  o p1 x1
    (fun v7 h8 => (
      some (v7, h8)
    ))
    LF (0 : Int32) (0 : Int32) h
def m_X6_value (o : Nat) (h : Hp) : Option (Int32 × Hp) :=
  (pV h 6 o 7 (.int 0)).bind fun h1 =>
  cv h1 6 o <| (m_X6_forgets o h1).bind fun h2 =>
  cv h2 6 o <| b2 (m_X6_valueNow o h2) fun x3 h4 =>
  some (x3, h4)
def m_X6_valueIf (o : Nat) (p1 : Int32) (p2 : Int32) (h : Hp) : Option (Int32 × Hp) :=
  cv h 6 o <| (m_X6_isVertex o p1 h).bind fun bb1 =>
  jK (κ := Int32 → Option (Int32 × Hp)) (fun v2 => (
    (pV h 6 o 7 (.int v2)).bind fun h4 =>
    (gI h4 6 o 7).bind fun x5 =>
    if x5 ≤ 0 then
      cv h4 6 o <| (m_X6_forgets o h4).bind fun h6 =>
      cv h6 6 o <| b2 (m_X6_boardIf o p1 p2 h6) fun x7 h8 =>
      (gR h8 6 o 0).bind fun a9 =>
      (aI h8 0 a9 (2 : Int32)).bind fun x10 =>
      some (((x7 &&& (31 : Int32)) ^^^ (jrem x10 (2 : Int32))), h8)
    else
      some ((0 : Int32), h4)
  )) fun k3 =>
  if bb1 = true then
    cv h 6 o <| (m_X6_isColour o p2 h).bind fun bb12 =>
    if bb12 = true then
      cv h 6 o <| (m_X6_whyNot o p1 p2 h).bind fun x13 =>
      if x13 ≤ 0 then
        k3 (0 : Int32)
      else
        k3 (2 : Int32)
    else
      k3 (1 : Int32)
  else
    k3 (1 : Int32)
def m_X6_valueWithout_L96 (u18 : Nat) (u19 : Int32) (u20 : Int32) (u21 : Int32) (u22 : Int32) (u23 : Int32) (k96_131 : Hp → Option (Int32 × Hp)) : Nat → Int32 → Hp → Option (Int32 × Hp)
  | 0, _, _ => none
  | f + 1, w24, h =>
    (gR h 6 u18 0).bind fun a26 =>
    (aI h 0 a26 (0 : Int32)).bind fun x27 =>
    if x27 ≤ w24 then
      k96_131 h
    else
      (gR h 6 u18 0).bind fun a28 =>
      (aI h 0 a28 ((13 : Int32) + w24)).bind fun x29 =>
      (sI h 0 a28 ((13 : Int32) + w24) (x29 &&& (((1 : Int32) <<< (u19 &&& 31)) ^^^ (-1 : Int32)))).bind fun h30 =>
      nm (w24 + 1) fun x31 =>
      m_X6_valueWithout_L96 u18 u19 u20 u21 u22 u23 k96_131 f x31 h30
def m_X6_valueWithout_L174 (u40 : Nat) (u41 : Int32) (u42 : Int32) (u43 : Int32) (k174_212 : Hp → Option (Int32 × Hp)) : Nat → Int32 → Hp → Option (Int32 × Hp)
  | 0, _, _ => none
  | f + 1, w44, h =>
    (gR h 6 u40 0).bind fun a46 =>
    (aI h 0 a46 (0 : Int32)).bind fun x47 =>
    if x47 ≤ w44 then
      k174_212 h
    else
      (gR h 6 u40 0).bind fun a48 =>
      (aI h 0 a48 ((13 : Int32) + w44)).bind fun x49 =>
      (sI h 0 a48 ((13 : Int32) + w44) (x49 ||| (((u42 >>> (w44 &&& 31)) &&& (1 : Int32)) <<< (u41 &&& 31)))).bind fun h50 =>
      nm (w44 + 1) fun x51 =>
      m_X6_valueWithout_L174 u40 u41 u42 u43 k174_212 f x51 h50
def m_X6_valueWithout (o : Nat) (p1 : Int32) (h : Hp) : Option (Int32 × Hp) :=
  cv h 6 o <| (m_X6_isVertex o p1 h).bind fun bb1 =>
  jK (κ := Int32 → Option (Int32 × Hp)) (fun v2 => (
    (pV h 6 o 7 (.int v2)).bind fun h4 =>
    (gI h4 6 o 7).bind fun x5 =>
    if x5 ≤ 0 then
      cv h4 6 o <| (m_X6_forgets o h4).bind fun h6 =>
      (gR h6 6 o 0).bind fun a7 =>
      (aI h6 0 a7 ((13 : Int32) + p1)).bind fun x8 =>
      cv h6 6 o <| b2 (m_X6_valueNow o h6) fun x9 h10 =>
      cv h10 6 o <| (m_X6_banOf o p1 h10).bind fun x11 =>
      cv h10 6 o <| (m_X6_freeSet o h10).bind fun x12 =>
      cv h10 6 o <| (m_X6_reached o p1 x12 h10).bind fun x13 =>
      cv h10 6 o <| b2 (m_X6_knownOf RD o x13 x11 h10) fun x14 h15 =>
      nm (x9 ^^^ (x14 &&& (31 : Int32))) fun x16 =>
      cv h15 6 o <| (m_X6_forgets o h15).bind fun h17 =>
      m_X6_valueWithout_L96  o p1 x8 x16 x11 x13
        (fun h25 => (
          (gR h25 6 o 0).bind fun a33 =>
          (sI h25 0 a33 ((13 : Int32) + p1) (0 : Int32)).bind fun h34 =>
          cv h34 6 o <| b2 (m_X6_together (m_X6_knownOf RD) o (x13 &&& (((1 : Int32) <<< (p1 &&& 31)) ^^^ (-1 : Int32))) x11 h34) fun x35 h36 =>
          nm (x16 ^^^ (x35 &&& (31 : Int32))) fun x37 =>
          (gR h36 6 o 0).bind fun a38 =>
          (sI h36 0 a38 ((13 : Int32) + p1) x8).bind fun h39 =>
          m_X6_valueWithout_L174  o p1 x8 x37
            (fun h45 => (
              some (x37, h45)
            ))
            LF (0 : Int32) h39
        ))
        LF (0 : Int32) h17
    else
      some ((0 : Int32), h4)
  )) fun k3 =>
  if bb1 = true then
    cv h 6 o <| (m_X6_isFree o p1 h).bind fun bb54 =>
    if bb54 = true then
      k3 (0 : Int32)
    else
      k3 (2 : Int32)
  else
    k3 (1 : Int32)
def m_X6_winningMoves_L24 (u7 : Nat) (k24_51 : Int32 → Hp → Option (Int32 × Hp)) : Nat → Int32 → Int32 → Hp → Option (Int32 × Hp)
  | 0, _, _, _ => none
  | f + 1, w8, w9, h =>
    (gR h 6 u7 0).bind fun a12 =>
    (aI h 0 a12 (0 : Int32)).bind fun x13 =>
    if x13 ≤ w9 then
      k24_51 w8 h
    else
      cv h 6 u7 <| b2 (m_X6_winningOn u7 w9 h) fun x14 h15 =>
      (m_X6_bits x14).bind fun x16 =>
      nm (w8 + x16) fun x17 =>
      nm (w9 + 1) fun x18 =>
      m_X6_winningMoves_L24 u7 k24_51 f x17 x18 h15
def m_X6_winningMoves (o : Nat) (h : Hp) : Option (Int32 × Hp) :=
  (pV h 6 o 7 (.int 0)).bind fun h1 =>
  cv h1 6 o <| (m_X6_forgets o h1).bind fun h2 =>
  cv h2 6 o <| b2 (m_X6_passWins o h2) fun bb3 h4 =>
  jK (κ := Bool → Option (Int32 × Hp)) (fun v5 => (
    m_X6_winningMoves_L24  o
      (fun v10 h11 => (
        some (v10, h11)
      ))
      LF (bI v5) (0 : Int32) h4
  )) fun k6 =>
  if bb3 = true then
    k6 true
  else
    k6 false
def m_X6_winningColours (o : Nat) (p1 : Int32) (h : Hp) : Option (Int32 × Hp) :=
  cv h 6 o <| (m_X6_isVertex o p1 h).bind fun bb1 =>
  jK (κ := Bool → Option (Int32 × Hp)) (fun v2 => (
    (pV h 6 o 7 (.int (bI v2))).bind fun h4 =>
    (gI h4 6 o 7).bind fun x5 =>
    if x5 ≤ 0 then
      cv h4 6 o <| (m_X6_forgets o h4).bind fun h6 =>
      cv h6 6 o <| b2 (m_X6_winningOn o p1 h6) fun x7 h8 =>
      some (x7, h8)
    else
      some ((0 : Int32), h4)
  )) fun k3 =>
  if bb1 = true then
    k3 false
  else
    k3 true
def m_X6_best_L2 (u1 : Nat) (k2_39 : Hp → Option (Int32 × Hp)) (k2_20 : Int32 → Hp → Option (Int32 × Hp)) : Nat → Int32 → Hp → Option (Int32 × Hp)
  | 0, _, _ => none
  | f + 1, w2, h =>
    (gR h 6 u1 0).bind fun a6 =>
    (aI h 0 a6 (0 : Int32)).bind fun x7 =>
    if x7 ≤ w2 then
      k2_39 h
    else
      cv h 6 u1 <| b2 (m_X6_winningOn u1 w2 h) fun x8 h9 =>
      if x8 ≤ 0 then
        nm (w2 + 1) fun x10 =>
        m_X6_best_L2 u1 k2_39 k2_20 f x10 h9
      else
        k2_20 w2 h9
def m_X6_best_L75 (u25 : Nat) (u28 : Int32) (u29 : Int32) (k75_158 : Int32 → Int32 → Hp → Option (Int32 × Hp)) : Nat → Int32 → Int32 → Int32 → Hp → Option (Int32 × Hp)
  | 0, _, _, _, _ => none
  | f + 1, w26, w27, w30, h =>
    (gR h 6 u25 0).bind fun a34 =>
    (aI h 0 a34 (1 : Int32)).bind fun x35 =>
    if x35 ≤ w30 then
      k75_158 w26 w27 h
    else
      jK (κ := Int32 → Hp → Option (Int32 × Hp)) (fun v36 h37 => (
        jK (κ := Int32 → Int32 → Option (Int32 × Hp)) (fun v39 v40 => (
          nm (w30 + 1) fun x42 =>
          m_X6_best_L75 u25 u28 u29 k75_158 f v39 v40 x42 h37
        )) fun k41 =>
        if v36 = (-1 : Int32) then
          k41 w26 w27
        else
          jK (κ := Option (Int32 × Hp)) (
            nm (((4 : Int32) * u28) + w30) fun x44 =>
            k41 x44 v36
          ) fun k43 =>
          if w26 = (-1 : Int32) then
            k43
          else
            if w27 < v36 then
              k43
            else
              k41 w26 w27
      )) fun k38 =>
      if ((u29 >>> (w30 &&& 31)) &&& (1 : Int32)) = (1 : Int32) then
        cv h 6 u25 <| b2 (m_X6_boardIf u25 u28 w30 h) fun x48 h49 =>
        (gR h49 6 u25 0).bind fun a50 =>
        (aI h49 0 a50 (2 : Int32)).bind fun x51 =>
        k38 (((x48 >>> ((5 : Int32) &&& 31)) &&& (31 : Int32)) + x51) h49
      else
        k38 (-1 : Int32) h
def m_X6_best_L55 (u15 : Nat) (k55_164 : Int32 → Int32 → Hp → Option (Int32 × Hp)) : Nat → Int32 → Int32 → Int32 → Hp → Option (Int32 × Hp)
  | 0, _, _, _, _ => none
  | f + 1, w16, w17, w18, h =>
    (gR h 6 u15 0).bind fun a22 =>
    (aI h 0 a22 (0 : Int32)).bind fun x23 =>
    if x23 ≤ w18 then
      k55_164 w16 w17 h
    else
      cv h 6 u15 <| (m_X6_colours u15 w18 h).bind fun x24 =>
      m_X6_best_L75  u15 w18 x24
        (fun v31 v32 h33 => (
          nm (w18 + 1) fun x54 =>
          m_X6_best_L55 u15 k55_164 f v31 v32 x54 h33
        ))
        LF w16 w17 (0 : Int32) h
def m_X6_best (o : Nat) (h : Hp) : Option (Int32 × Hp) :=
  m_X6_best_L2  o
    (fun h3 => (
      cv h3 6 o <| b2 (m_X6_passWins o h3) fun bb13 h14 =>
      if bb13 = true then
        some ((100 : Int32), h14)
      else
        m_X6_best_L55  o
          (fun v19 v20 h21 => (
            (gR h21 6 o 0).bind fun a56 =>
            (aI h21 0 a56 (2 : Int32)).bind fun x57 =>
            if x57 ≤ 0 then
              some (v19, h21)
            else
              jK (κ := Hp → Option (Int32 × Hp)) (fun h58 => (
                some ((100 : Int32), h58)
              )) fun k59 =>
              if v19 = (-1 : Int32) then
                k59 h21
              else
                cv h21 6 o <| b2 (m_X6_board o h21) fun x60 h61 =>
                (gR h61 6 o 0).bind fun a62 =>
                (aI h61 0 a62 (2 : Int32)).bind fun x63 =>
                if ((((x60 >>> ((5 : Int32) &&& 31)) &&& (31 : Int32)) + x63) - (1 : Int32)) ≤ v20 then
                  some (v19, h61)
                else
                  k59 h61
          ))
          LF (-1 : Int32) (0 : Int32) (0 : Int32) h14
    ))
    (fun v4 h5 => (
      cv h5 6 o <| b2 (m_X6_winningOn o v4 h5) fun x68 h69 =>
      (m_X6_lowest x68).bind fun x70 =>
      some ((((4 : Int32) * v4) + x70), h69)
    ))
    LF (0 : Int32) h
def m_X6_bestMove (o : Nat) (h : Hp) : Option (Int32 × Hp) :=
  cv h 6 o <| (m_X6_isOver o h).bind fun bb1 =>
  jK (κ := Bool → Option (Int32 × Hp)) (fun v2 => (
    (pV h 6 o 7 (.int (bI v2))).bind fun h4 =>
    (gI h4 6 o 7).bind fun x5 =>
    if x5 ≤ 0 then
      cv h4 6 o <| (m_X6_forgets o h4).bind fun h6 =>
      cv h6 6 o <| b2 (m_X6_best o h6) fun x7 h8 =>
      some (x7, h8)
    else
      some ((0 : Int32), h4)
  )) fun k3 =>
  if bb1 = true then
    k3 true
  else
    k3 false
def m_X6_playOut_L38 (u8 : Nat) (u9 : Int32) (k38_84 : Int32 → Hp → Option (Int32 × Hp)) : Nat → Int32 → Hp → Option (Int32 × Hp)
  | 0, _, _ => none
  | f + 1, w10, h =>
    if u9 ≤ w10 then
      k38_84 w10 h
    else
      cv h 6 u8 <| (m_X6_isOver u8 h).bind fun bb13 =>
      if bb13 = true then
        k38_84 w10 h
      else
        cv h 6 u8 <| b2 (m_X6_best u8 h) fun x14 h15 =>
        jK (κ := Hp → Option (Int32 × Hp)) (fun h16 => (
          nm (w10 + 1) fun x18 =>
          m_X6_playOut_L38 u8 u9 k38_84 f x18 h16
        )) fun k17 =>
        if x14 = (100 : Int32) then
          cv h15 6 u8 <| (m_X6_passes u8 h15).bind fun h20 =>
          k17 h20
        else
          cv h15 6 u8 <| (m_X6_lays u8 (jdiv x14 (4 : Int32)) (jrem x14 (4 : Int32)) h15).bind fun h19 =>
          k17 h19
def m_X6_playOut (o : Nat) (p1 : Int32) (h : Hp) : Option (Int32 × Hp) :=
  (m_X6_isIn p1 (1 : Int32) (20 : Int32)).bind fun bb1 =>
  jK (κ := Bool → Option (Int32 × Hp)) (fun v2 => (
    (pV h 6 o 7 (.int (bI v2))).bind fun h4 =>
    (gI h4 6 o 7).bind fun x5 =>
    if x5 ≤ 0 then
      cv h4 6 o <| (m_X6_keeps o h4).bind fun h6 =>
      cv h6 6 o <| (m_X6_forgets o h6).bind fun h7 =>
      m_X6_playOut_L38  o p1
        (fun v11 h12 => (
          some (v11, h12)
        ))
        LF (0 : Int32) h7
    else
      some ((0 : Int32), h4)
  )) fun k3 =>
  if bb1 = true then
    k3 false
  else
    k3 true
def m_X4_ofPartsIn_L7 (u1 : Nat) (k7_61 : Int32 → Hp → Option (Int32 × Hp)) : Nat → Int32 → Int32 → Int32 → Hp → Option (Int32 × Hp)
  | 0, _, _, _, _ => none
  | f + 1, w2, w3, w4, h =>
    if (9 : Int32) ≤ w4 then
      k7_61 w2 h
    else
      if w3 = 0 then
        k7_61 w2 h
      else
        (gR h 4 u1 0).bind fun a7 =>
        cv h 0 a7 <| (m_X0_reachable a7 (w3 &&& (-w3)) w3 h).bind fun x8 =>
        cv h 4 u1 <| (m_X4_placeOf u1 x8 h).bind fun x9 =>
        cv h 4 u1 <| b2 (m_X4_ofPlace RD u1 x9 (0 : Int32) h) fun x10 h11 =>
        (m_X5_together w2 x10).bind fun x12 =>
        nm (w3 &&& (x8 ^^^ (-1 : Int32))) fun x13 =>
        nm (w4 + 1) fun x14 =>
        m_X4_ofPartsIn_L7 u1 k7_61 f x12 x13 x14 h11
def m_X4_ofPartsIn (o : Nat) (p1 : Int32) (h : Hp) : Option (Int32 × Hp) :=
  m_X4_ofPartsIn_L7  o
    (fun v5 h6 => (
      some (v5, h6)
    ))
    LF (0 : Int32) p1 (0 : Int32) h
def m_X5_part (o : Nat) (p1 : Int32) (p2 : Int32) (h : Hp) : Option ((Int32 ⊕ Nat) × Hp) :=
  (gR h 5 o 0).bind fun a1 =>
  cv h 0 a1 <| (m_X0_partAt a1 p1 h).bind fun x2 =>
  if x2 = 0 then
    some (.inr 2, hpush h (.inr (9, [])) 6)
  else
    sw p2 (0) [
      (
        (m_J6_bitCount x2).bind fun x3 =>
        some (.inl x3, h)
      ),
      (
        (m_X5_least x2).bind fun x4 =>
        some (.inl x4, h)
      ),
      (
        (gR h 5 o 0).bind fun a5 =>
        cv h 0 a5 <| (m_X0_banOf a5 x2 h).bind fun x6 =>
        some (.inl x6, h)
      ),
      (
        (gR h 5 o 0).bind fun a7 =>
        cv h 0 a7 <| (m_X0_edgesIn a7 x2 h).bind fun x8 =>
        some (.inl x8, h)
      ),
      (
        (gR h 5 o 0).bind fun a9 =>
        cv h 0 a9 <| (m_X0_choicesIn a9 x2 h).bind fun x10 =>
        some (.inl x10, h)
      ),
      (
        (gR h 5 o 1).bind fun a11 =>
        cv h 4 a11 <| b2 (m_X4_ofPartsIn a11 x2 h) fun x12 h13 =>
        (m_X5_valueIn x12).bind fun x14 =>
        some (.inl x14, h13)
      ),
      (
        (gR h 5 o 1).bind fun a15 =>
        cv h 4 a15 <| b2 (m_X4_ofPartsIn a15 x2 h) fun x16 h17 =>
        (m_X5_longestIn x16).bind fun x18 =>
        some (.inl x18, h17)
      ),
      (
        (gR h 5 o 1).bind fun a19 =>
        cv h 4 a19 <| b2 (m_X4_ofPartsIn a19 x2 h) fun x20 h21 =>
        (m_X5_shortestIn x20).bind fun x22 =>
        some (.inl x22, h21)
      )
    ] (
      some (.inr 1, hpush h (.inr (8, [])) 6)
    )
def m_X5_value (o : Nat) (h : Hp) : Option (Int32 × Hp) :=
  (gR h 5 o 1).bind fun a1 =>
  (gR h 5 o 0).bind fun a2 =>
  (gI h 0 a2 4).bind fun x3 =>
  cv h 4 a1 <| b2 (m_X4_ofPartsIn a1 x3 h) fun x4 h5 =>
  (m_X5_valueIn x4).bind fun x6 =>
  (gR h5 5 o 0).bind fun a7 =>
  cv h5 0 a7 <| (m_X0_passValue a7 h5).bind fun x8 =>
  some ((x6 ^^^ x8), h5)
def m_X5_longest (o : Nat) (h : Hp) : Option (Int32 × Hp) :=
  (gR h 5 o 1).bind fun a1 =>
  (gR h 5 o 0).bind fun a2 =>
  (gI h 0 a2 4).bind fun x3 =>
  cv h 4 a1 <| b2 (m_X4_ofPartsIn a1 x3 h) fun x4 h5 =>
  (m_X5_longestIn x4).bind fun x6 =>
  (gR h5 5 o 0).bind fun a7 =>
  (gI h5 0 a7 3).bind fun x8 =>
  some ((x6 + x8), h5)
def m_X5_shortest (o : Nat) (h : Hp) : Option (Int32 × Hp) :=
  (gR h 5 o 1).bind fun a1 =>
  (gR h 5 o 0).bind fun a2 =>
  (gI h 0 a2 4).bind fun x3 =>
  cv h 4 a1 <| b2 (m_X4_ofPartsIn a1 x3 h) fun x4 h5 =>
  (m_X5_shortestIn x4).bind fun x6 =>
  (gR h5 5 o 0).bind fun a7 =>
  (gI h5 0 a7 3).bind fun x8 =>
  some ((x6 + x8), h5)
def m_X5_meanValue_L25 (u5 : Nat) (u6 : Int32) (k25_57 : Int32 → Hp → Option (UInt32 × Hp)) : Nat → Int32 → Int32 → Hp → Option (UInt32 × Hp)
  | 0, _, _, _ => none
  | f + 1, w7, w8, h =>
    if u6 ≤ w8 then
      k25_57 w7 h
    else
      (gR h 5 u5 1).bind fun a11 =>
      (gR h 5 u5 0).bind fun a12 =>
      cv h 0 a12 <| (m_X0_partAt a12 w8 h).bind fun x13 =>
      cv h 4 a11 <| b2 (m_X4_ofPartsIn a11 x13 h) fun x14 h15 =>
      (m_X5_valueIn x14).bind fun x16 =>
      nm (w7 + x16) fun x17 =>
      nm (w8 + 1) fun x18 =>
      m_X5_meanValue_L25 u5 u6 k25_57 f x17 x18 h15
def m_X5_meanValue (o : Nat) (h : Hp) : Option (UInt32 × Hp) :=
  (gR h 5 o 0).bind fun a1 =>
  (gR h 5 o 0).bind fun a2 =>
  (gI h 0 a2 4).bind fun x3 =>
  cv h 0 a1 <| (m_X0_partsIn a1 x3 h).bind fun x4 =>
  if x4 = 0 then
    some (FP.fconst0, h)
  else
    m_X5_meanValue_L25  o x4
      (fun v9 h10 => (
        (n32 (FP.fdiv (FP.i2f v9) (FP.i2f x4))).bind fun x20 =>
        some (x20, h10)
      ))
      LF (0 : Int32) (0 : Int32) h
def m_X5_passWins (o : Nat) (h : Hp) : Option (Bool × Hp) :=
  (gR h 5 o 1).bind fun a1 =>
  (gR h 5 o 0).bind fun a2 =>
  (gI h 0 a2 4).bind fun x3 =>
  cv h 4 a1 <| b2 (m_X4_ofPartsIn a1 x3 h) fun x4 h5 =>
  (m_X5_valueIn x4).bind fun x6 =>
  (gR h5 5 o 0).bind fun a7 =>
  cv h5 0 a7 <| (m_X0_passValue a7 h5).bind fun x8 =>
  nm ((x6 ^^^ x8) ^^^ (1 : Int32)) fun x9 =>
  (gR h5 5 o 0).bind fun a10 =>
  (gI h5 0 a10 3).bind fun x11 =>
  if x11 ≤ 0 then
    some (false, h5)
  else
    if x9 = 0 then
      some (true, h5)
    else
      some (false, h5)
def m_X4_behindLay (o : Nat) (p1 : Int32) (p2 : Int32) (h : Hp) : Option (Int32 × Hp) :=
  (gR h 4 o 0).bind fun a1 =>
  cv h 0 a1 <| (m_X0_partWith a1 p1 h).bind fun x2 =>
  cv h 4 o <| (m_X4_placeOf o x2 h).bind fun x3 =>
  cv h 4 o <| (m_X4_behind o x3 p1 p2 h).bind fun x4 =>
  (gR h 4 o 0).bind fun a5 =>
  (gI h 0 a5 4).bind fun x6 =>
  cv h 4 o <| b2 (m_X4_ofPartsIn o (x6 &&& (x2 ^^^ (-1 : Int32))) h) fun x7 h8 =>
  cv h8 4 o <| b2 (m_X4_ofPieces (m_X4_ofPlace RD) o x4 (0 : Int32) h8) fun x9 h10 =>
  (m_X5_together x7 x9).bind fun x11 =>
  some (x11, h10)
def m_X4_without (o : Nat) (p1 : Int32) (h : Hp) : Option (Int32 × Hp) :=
  (gR h 4 o 0).bind fun a1 =>
  cv h 0 a1 <| (m_X0_partWith a1 p1 h).bind fun x2 =>
  cv h 4 o <| (m_X4_placeOf o x2 h).bind fun x3 =>
  nm (x3 &&& ((jlshl 134480385 p1) ^^^ (-1))) fun x4 =>
  (gR h 4 o 0).bind fun a5 =>
  (gI h 0 a5 4).bind fun x6 =>
  cv h 4 o <| b2 (m_X4_ofPartsIn o (x6 &&& (x2 ^^^ (-1 : Int32))) h) fun x7 h8 =>
  cv h8 4 o <| b2 (m_X4_ofPieces (m_X4_ofPlace RD) o x4 (0 : Int32) h8) fun x9 h10 =>
  (m_X5_together x7 x9).bind fun x11 =>
  some (x11, h10)
def m_X5_valueIf (o : Nat) (p1 : Int32) (p2 : Int32) (h : Hp) : Option ((Int32 ⊕ Nat) × Hp) :=
  (gR h 5 o 0).bind fun a1 =>
  cv h 0 a1 <| (m_X0_hasPair a1 p1 p2 h).bind fun bb2 =>
  if bb2 = true then
    (gR h 5 o 0).bind fun a3 =>
    cv h 0 a3 <| (m_X0_whyNot a3 p1 p2 h).bind fun x4 =>
    if x4 = 0 then
      (gR h 5 o 1).bind fun a5 =>
      cv h 4 a5 <| b2 (m_X4_behindLay a5 p1 p2 h) fun x6 h7 =>
      (m_X5_valueIn x6).bind fun x8 =>
      (gR h7 5 o 0).bind fun a9 =>
      cv h7 0 a9 <| (m_X0_passValue a9 h7).bind fun x10 =>
      some (.inl (x8 ^^^ x10), h7)
    else
      some (.inr 3, hpush h (.inr (10, [])) 6)
  else
    some (.inr 2, hpush h (.inr (9, [])) 6)
def m_X5_valueWithout (o : Nat) (p1 : Int32) (h : Hp) : Option ((Int32 ⊕ Nat) × Hp) :=
  (gR h 5 o 0).bind fun a1 =>
  cv h 0 a1 <| (m_X0_hasVertex a1 p1 h).bind fun bb2 =>
  if bb2 = true then
    (gR h 5 o 0).bind fun a3 =>
    cv h 0 a3 <| (m_X0_isFree a3 p1 h).bind fun bb4 =>
    if bb4 = true then
      (gR h 5 o 1).bind fun a5 =>
      cv h 4 a5 <| b2 (m_X4_without a5 p1 h) fun x6 h7 =>
      (m_X5_valueIn x6).bind fun x8 =>
      (gR h7 5 o 0).bind fun a9 =>
      cv h7 0 a9 <| (m_X0_passValue a9 h7).bind fun x10 =>
      some (.inl (x8 ^^^ x10), h7)
    else
      some (.inr 3, hpush h (.inr (10, [])) 6)
  else
    some (.inr 2, hpush h (.inr (9, [])) 6)
def m_X5_winnersOn_L14 (u3 : Nat) (u4 : Int32) (u5 : Int32) (k14_65 : Int32 → Hp → Option (Int32 × Hp)) : Nat → Int32 → Int32 → Hp → Option (Int32 × Hp)
  | 0, _, _, _ => none
  | f + 1, w6, w7, h =>
    if (3 : Int32) ≤ w7 then
      k14_65 w6 h
    else
      (m_X5_has u5 w7).bind fun bb10 =>
      jK (κ := Int32 → Hp → Option (Int32 × Hp)) (fun v11 h12 => (
        nm (w7 + 1) fun x14 =>
        m_X5_winnersOn_L14 u3 u4 u5 k14_65 f v11 x14 h12
      )) fun k13 =>
      if bb10 = true then
        (gR h 5 u3 1).bind fun a15 =>
        cv h 4 a15 <| b2 (m_X4_behindLay a15 u4 w7 h) fun x16 h17 =>
        (m_X5_valueIn x16).bind fun x18 =>
        (gR h17 5 u3 0).bind fun a19 =>
        cv h17 0 a19 <| (m_X0_passValue a19 h17).bind fun x20 =>
        if x18 = x20 then
          nm (w6 ||| ((1 : Int32) <<< (w7 &&& 31))) fun x21 =>
          k13 x21 h17
        else
          k13 w6 h17
      else
        k13 w6 h
def m_X5_winnersOn (o : Nat) (p1 : Int32) (h : Hp) : Option (Int32 × Hp) :=
  (gR h 5 o 0).bind fun a1 =>
  cv h 0 a1 <| (m_X0_choicesOn a1 p1 h).bind fun x2 =>
  m_X5_winnersOn_L14  o p1 x2
    (fun v8 h9 => (
      some (v8, h9)
    ))
    LF (0 : Int32) (0 : Int32) h
def m_X5_chosenMove_L31 (u15 : Nat) (u18 : Int32) (u19 : Int32) (k31_125 : Int32 → Int32 → Hp → Option (Int32 × Hp)) (k31_74 : Int32 → Hp → Option (Int32 × Hp)) : Nat → Int32 → Int32 → Int32 → Hp → Option (Int32 × Hp)
  | 0, _, _, _, _ => none
  | f + 1, w16, w17, w20, h =>
    if (3 : Int32) ≤ w20 then
      k31_125 w16 w17 h
    else
      (m_X5_has u19 w20).bind fun bb26 =>
      jK (κ := Int32 → Int32 → Hp → Option (Int32 × Hp)) (fun v27 v28 h29 => (
        nm (w20 + 1) fun x31 =>
        m_X5_chosenMove_L31 u15 u18 u19 k31_125 k31_74 f v27 v28 x31 h29
      )) fun k30 =>
      if bb26 = true then
        (gR h 5 u15 1).bind fun a32 =>
        cv h 4 a32 <| b2 (m_X4_behindLay a32 u18 w20 h) fun x33 h34 =>
        (m_X5_valueIn x33).bind fun x35 =>
        (gR h34 5 u15 0).bind fun a36 =>
        cv h34 0 a36 <| (m_X0_passValue a36 h34).bind fun x37 =>
        if x35 = x37 then
          k31_74 w20 h34
        else
          (m_X5_longestIn x33).bind fun x38 =>
          (gR h34 5 u15 0).bind fun a39 =>
          (gI h34 0 a39 3).bind fun x40 =>
          if (x38 + x40) ≤ w17 then
            k30 w16 w17 h34
          else
            (m_X5_longestIn x33).bind fun x41 =>
            (gR h34 5 u15 0).bind fun a42 =>
            (gI h34 0 a42 3).bind fun x43 =>
            nm (x41 + x43) fun x44 =>
            nm (((4 : Int32) * u18) + w20) fun x45 =>
            k30 x45 x44 h34
      else
        k30 w16 w17 h
def m_X5_chosenMove_L7 (u1 : Nat) (k7_131 : Int32 → Int32 → Hp → Option (Int32 × Hp)) (k7_74 : Int32 → Int32 → Hp → Option (Int32 × Hp)) : Nat → Int32 → Int32 → Int32 → Hp → Option (Int32 × Hp)
  | 0, _, _, _, _ => none
  | f + 1, w2, w3, w4, h =>
    (gR h 5 u1 0).bind fun a11 =>
    (gI h 0 a11 2).bind fun x12 =>
    if x12 ≤ w4 then
      k7_131 w2 w3 h
    else
      (gR h 5 u1 0).bind fun a13 =>
      cv h 0 a13 <| (m_X0_choicesOn a13 w4 h).bind fun x14 =>
      m_X5_chosenMove_L31  u1 w4 x14
        (fun v21 v22 h23 => (
          nm (w4 + 1) fun x50 =>
          m_X5_chosenMove_L7 u1 k7_131 k7_74 f v21 v22 x50 h23
        ))
        (fun v24 h25 => (
          k7_74 w4 v24 h25
        ))
        LF w2 w3 (0 : Int32) h
def m_X5_chosenMove (o : Nat) (h : Hp) : Option (Int32 × Hp) :=
  m_X5_chosenMove_L7  o
    (fun v5 v6 h7 => (
      cv h7 5 o <| b2 (m_X5_passWins o h7) fun bb52 h53 =>
      jK (κ := Bool → Hp → Option (Int32 × Hp)) (fun v54 h55 => (
        (gR h55 5 o 0).bind fun a57 =>
        (gI h55 0 a57 3).bind fun x58 =>
        if x58 ≤ 0 then
          some (v5, h55)
        else
          if v54 = true then
            some ((100 : Int32), h55)
          else
            some (v5, h55)
      )) fun k56 =>
      if bb52 = true then
        k56 true h53
      else
        cv h53 5 o <| b2 (m_X5_longest o h53) fun x61 h62 =>
        if (x61 - (1 : Int32)) ≤ v6 then
          k56 false h62
        else
          k56 true h62
    ))
    (fun v8 v9 h10 => (
      some ((((4 : Int32) * v8) + v9), h10)
    ))
    LF (100 : Int32) (-1 : Int32) (0 : Int32) h
def m_X5_winningMoves_L15 (u5 : Nat) (k15_43 : Int32 → Hp → Option (Int32 × Hp)) : Nat → Int32 → Int32 → Hp → Option (Int32 × Hp)
  | 0, _, _, _ => none
  | f + 1, w6, w7, h =>
    (gR h 5 u5 0).bind fun a10 =>
    (gI h 0 a10 2).bind fun x11 =>
    if x11 ≤ w7 then
      k15_43 w6 h
    else
      cv h 5 u5 <| b2 (m_X5_winnersOn u5 w7 h) fun x12 h13 =>
      (m_J6_bitCount x12).bind fun x14 =>
      nm (w6 + x14) fun x15 =>
      nm (w7 + 1) fun x16 =>
      m_X5_winningMoves_L15 u5 k15_43 f x15 x16 h13
def m_X5_winningMoves (o : Nat) (h : Hp) : Option (Int32 × Hp) :=
  cv h 5 o <| b2 (m_X5_passWins o h) fun bb1 h2 =>
  jK (κ := Bool → Option (Int32 × Hp)) (fun v3 => (
    m_X5_winningMoves_L15  o
      (fun v8 h9 => (
        some (v8, h9)
      ))
      LF (bI v3) (0 : Int32) h2
  )) fun k4 =>
  if bb1 = true then
    k4 true
  else
    k4 false
def m_X5_bestMove (o : Nat) (h : Hp) : Option ((Int32 ⊕ Nat) × Hp) :=
  (gR h 5 o 0).bind fun a1 =>
  cv h 0 a1 <| (m_X0_isOver a1 h).bind fun bb2 =>
  if bb2 = true then
    some (.inr 3, hpush h (.inr (10, [])) 6)
  else
    cv h 5 o <| b2 (m_X5_chosenMove o h) fun x3 h4 =>
    some (.inl x3, h4)
def m_X5_winningColours (o : Nat) (p1 : Int32) (h : Hp) : Option ((Int32 ⊕ Nat) × Hp) :=
  (gR h 5 o 0).bind fun a1 =>
  cv h 0 a1 <| (m_X0_hasVertex a1 p1 h).bind fun bb2 =>
  if bb2 = true then
    cv h 5 o <| b2 (m_X5_winnersOn o p1 h) fun x3 h4 =>
    some (.inl x3, h4)
  else
    some (.inr 2, hpush h (.inr (9, [])) 6)
def m_X5_playOut_L34 (u4 : Nat) (u5 : Int32) (k34_89 : Int32 → Hp → Option ((Int32 ⊕ Nat) × Hp)) : Nat → Int32 → Hp → Option ((Int32 ⊕ Nat) × Hp)
  | 0, _, _ => none
  | f + 1, w6, h =>
    if u5 ≤ w6 then
      k34_89 w6 h
    else
      (gR h 5 u4 0).bind fun a9 =>
      cv h 0 a9 <| (m_X0_isOver a9 h).bind fun bb10 =>
      if bb10 = true then
        k34_89 w6 h
      else
        cv h 5 u4 <| b2 (m_X5_chosenMove u4 h) fun x11 h12 =>
        jK (κ := Hp → Option ((Int32 ⊕ Nat) × Hp)) (fun h13 => (
          nm (w6 + 1) fun x15 =>
          m_X5_playOut_L34 u4 u5 k34_89 f x15 h13
        )) fun k14 =>
        if x11 = (100 : Int32) then
          (gR h12 5 u4 0).bind fun a18 =>
          cv h12 0 a18 <| (m_X0_spendPass a18 h12).bind fun h19 =>
          k14 h19
        else
          (gR h12 5 u4 0).bind fun a16 =>
          cv h12 0 a16 <| (m_X0_paint a16 (jdiv x11 (4 : Int32)) (jrem x11 (4 : Int32)) h12).bind fun h17 =>
          k14 h17
def m_X5_playOut (o : Nat) (p1 : Int32) (h : Hp) : Option ((Int32 ⊕ Nat) × Hp) :=
  if p1 < (1 : Int32) then
    some (.inr 1, hpush h (.inr (8, [])) 6)
  else
    if p1 ≤ (20 : Int32) then
      (gR h 5 o 3).bind fun a1 =>
      (gR h 5 o 0).bind fun a2 =>
      cv h 1 a1 <| (m_X1_keep a1 a2 h).bind fun h3 =>
      m_X5_playOut_L34  o p1
        (fun v7 h8 => (
          some (.inl v7, h8)
        ))
        LF (0 : Int32) h3
    else
      some (.inr 1, hpush h (.inr (8, [])) 6)
