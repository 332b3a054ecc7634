/-! printed by wip/whole/emit2.py: the law -/
def m_L_law_L23 (G : Gx) (u9 : Nat) (u10 : Nat) (u11 : Nat) (k23_1567 : Hp → Option (Bool × Hp)) : Nat → Int32 → Hp → Option (Bool × Hp)
  | 0, _, _ => none
  | f + 1, w12, h =>
    if ((Int32.ofNat G.2.2.2.2.1) - (6 : Int32)) < w12 then
      k23_1567 h
    else
      (xg G w12).bind fun x14 =>
      jK (κ := Hp → Option (Bool × Hp)) (fun h15 => (
        nm (w12 + 6) fun x17 =>
        m_L_law_L23 G u9 u10 u11 k23_1567 f x17 h15
      )) fun k16 =>
      sw (x14 &&& (31 : Int32)) (0) [
        (
          (xg G (w12 + (1 : Int32))).bind fun x18 =>
          (xg G (w12 + (2 : Int32))).bind fun x19 =>
          (xg G (w12 + (3 : Int32))).bind fun x20 =>
          (xg G (w12 + (4 : Int32))).bind fun x21 =>
          (xg G (w12 + (5 : Int32))).bind fun x22 =>
          b2 (m_L_append u9 x18 x19 x20 x21 x22 u11 h) fun x23 h24 =>
          (xg G (w12 + (1 : Int32))).bind fun x25 =>
          (xg G (w12 + (2 : Int32))).bind fun x26 =>
          (xg G (w12 + (3 : Int32))).bind fun x27 =>
          (xg G (w12 + (4 : Int32))).bind fun x28 =>
          (xg G (w12 + (5 : Int32))).bind fun x29 =>
          cv h24 6 u10 <| b2 (m_X6_append u10 x25 x26 x27 x28 x29 h24) fun x30 h31 =>
          cv h31 6 u10 <| (m_X6_thrown u10 h31).bind fun x32 =>
          if x32 = x23 then
            if x23 = 0 then
              (aL h31 1 u11 (0 : Int32)).bind fun x33 =>
              if (lg_cmp x33 (Int32.toInt64 x30)) = 0 then
                k16 h31
              else
                some (false, h31)
            else
              k16 h31
          else
            some (false, h31)
        ),
        (
          (xg G (w12 + (1 : Int32))).bind fun x37 =>
          b2 (m_L_load u9 x37 u11 h) fun x38 h39 =>
          (xg G (w12 + (1 : Int32))).bind fun x40 =>
          cv h39 6 u10 <| b2 (m_X6_load u10 x40 h39) fun x41 h42 =>
          cv h42 6 u10 <| (m_X6_thrown u10 h42).bind fun x43 =>
          if x43 = x38 then
            if x38 = 0 then
              (aL h42 1 u11 (0 : Int32)).bind fun x44 =>
              if (lg_cmp x44 (Int32.toInt64 x41)) = 0 then
                k16 h42
              else
                some (false, h42)
            else
              k16 h42
          else
            some (false, h42)
        ),
        (
          cv h 5 u9 <| (m_X5_errorPosition u9 h).bind fun x48 =>
          cv h 6 u10 <| b2 (m_X6_errorPosition u10 h) fun x49 h50 =>
          if x48 = x49 then
            k16 h50
          else
            some (false, h50)
        ),
        (
          (xg G (w12 + (1 : Int32))).bind fun x52 =>
          b2 (m_L_count u9 x52 u11 h) fun x53 h54 =>
          (xg G (w12 + (1 : Int32))).bind fun x55 =>
          cv h54 6 u10 <| b2 (m_X6_count u10 x55 h54) fun x56 h57 =>
          cv h57 6 u10 <| (m_X6_thrown u10 h57).bind fun x58 =>
          if x58 = x53 then
            if x53 = 0 then
              (aL h57 1 u11 (0 : Int32)).bind fun x59 =>
              if (lg_cmp x59 (Int32.toInt64 x56)) = 0 then
                k16 h57
              else
                some (false, h57)
            else
              k16 h57
          else
            some (false, h57)
        ),
        (
          (xg G (w12 + (1 : Int32))).bind fun x63 =>
          (xg G (w12 + (2 : Int32))).bind fun x64 =>
          b2 (m_L_vertex u9 x63 x64 u11 h) fun x65 h66 =>
          (xg G (w12 + (1 : Int32))).bind fun x67 =>
          (xg G (w12 + (2 : Int32))).bind fun x68 =>
          cv h66 6 u10 <| b2 (m_X6_vertex u10 x67 x68 h66) fun x69 h70 =>
          cv h70 6 u10 <| (m_X6_thrown u10 h70).bind fun x71 =>
          if x71 = x65 then
            if x65 = 0 then
              (aL h70 1 u11 (0 : Int32)).bind fun x72 =>
              if (lg_cmp x72 (Int32.toInt64 x69)) = 0 then
                k16 h70
              else
                some (false, h70)
            else
              k16 h70
          else
            some (false, h70)
        ),
        (
          (xg G (w12 + (1 : Int32))).bind fun x76 =>
          (xg G (w12 + (2 : Int32))).bind fun x77 =>
          b2 (m_L_reason u9 x76 x77 u11 h) fun x78 h79 =>
          (xg G (w12 + (1 : Int32))).bind fun x80 =>
          (xg G (w12 + (2 : Int32))).bind fun x81 =>
          cv h79 6 u10 <| b2 (m_X6_reason u10 x80 x81 h79) fun x82 h83 =>
          cv h83 6 u10 <| (m_X6_thrown u10 h83).bind fun x84 =>
          if x84 = x78 then
            if x78 = 0 then
              (aL h83 1 u11 (0 : Int32)).bind fun x85 =>
              if (lg_cmp x85 (Int32.toInt64 x82)) = 0 then
                k16 h83
              else
                some (false, h83)
            else
              k16 h83
          else
            some (false, h83)
        ),
        (
          (xg G (w12 + (1 : Int32))).bind fun x89 =>
          (xg G (w12 + (2 : Int32))).bind fun x90 =>
          b2 (m_L_part u9 x89 x90 u11 h) fun x91 h92 =>
          (xg G (w12 + (1 : Int32))).bind fun x93 =>
          (xg G (w12 + (2 : Int32))).bind fun x94 =>
          cv h92 6 u10 <| b2 (m_X6_part u10 x93 x94 h92) fun x95 h96 =>
          cv h96 6 u10 <| (m_X6_thrown u10 h96).bind fun x97 =>
          if x97 = x91 then
            if x91 = 0 then
              (aL h96 1 u11 (0 : Int32)).bind fun x98 =>
              if (lg_cmp x98 (Int32.toInt64 x95)) = 0 then
                k16 h96
              else
                some (false, h96)
            else
              k16 h96
          else
            some (false, h96)
        ),
        (
          cv h 5 u9 <| b2 (m_X5_value u9 h) fun x102 h103 =>
          cv h103 6 u10 <| b2 (m_X6_value u10 h103) fun x104 h105 =>
          if x102 = x104 then
            k16 h105
          else
            some (false, h105)
        ),
        (
          (xg G (w12 + (1 : Int32))).bind fun x107 =>
          (xg G (w12 + (2 : Int32))).bind fun x108 =>
          b2 (m_L_valueIf u9 x107 x108 u11 h) fun x109 h110 =>
          (xg G (w12 + (1 : Int32))).bind fun x111 =>
          (xg G (w12 + (2 : Int32))).bind fun x112 =>
          cv h110 6 u10 <| b2 (m_X6_valueIf u10 x111 x112 h110) fun x113 h114 =>
          cv h114 6 u10 <| (m_X6_thrown u10 h114).bind fun x115 =>
          if x115 = x109 then
            if x109 = 0 then
              (aL h114 1 u11 (0 : Int32)).bind fun x116 =>
              if (lg_cmp x116 (Int32.toInt64 x113)) = 0 then
                k16 h114
              else
                some (false, h114)
            else
              k16 h114
          else
            some (false, h114)
        ),
        (
          cv h 5 u9 <| b2 (m_X5_winningMoves u9 h) fun x120 h121 =>
          cv h121 6 u10 <| b2 (m_X6_winningMoves u10 h121) fun x122 h123 =>
          if x120 = x122 then
            k16 h123
          else
            some (false, h123)
        ),
        (
          b2 (m_L_bestMove u9 u11 h) fun x125 h126 =>
          cv h126 6 u10 <| b2 (m_X6_bestMove u10 h126) fun x127 h128 =>
          cv h128 6 u10 <| (m_X6_thrown u10 h128).bind fun x129 =>
          if x129 = x125 then
            if x125 = 0 then
              (aL h128 1 u11 (0 : Int32)).bind fun x130 =>
              if (lg_cmp x130 (Int32.toInt64 x127)) = 0 then
                k16 h128
              else
                some (false, h128)
            else
              k16 h128
          else
            some (false, h128)
        ),
        (
          cv h 5 u9 <| b2 (m_X5_longest u9 h) fun x134 h135 =>
          cv h135 6 u10 <| b2 (m_X6_longest u10 h135) fun x136 h137 =>
          if x134 = x136 then
            k16 h137
          else
            some (false, h137)
        ),
        (
          cv h 5 u9 <| b2 (m_X5_shortest u9 h) fun x139 h140 =>
          cv h140 6 u10 <| b2 (m_X6_shortest u10 h140) fun x141 h142 =>
          if x139 = x141 then
            k16 h142
          else
            some (false, h142)
        ),
        (
          cv h 5 u9 <| b2 (m_X5_meanValue u9 h) fun x144 h145 =>
          (n64 (FP.f2d x144)).bind fun x146 =>
          cv h145 6 u10 <| b2 (m_X6_meanValue u10 h145) fun x147 h148 =>
          (n64 (FP.f2d x147)).bind fun x149 =>
          if (Op.cmpValue (FP.dcmp x146 x149) .l) = 0 then
            k16 h148
          else
            if (Op.cmpValue (FP.dcmp x146 x146) .l) = 0 then
              some (false, h148)
            else
              if (Op.cmpValue (FP.dcmp x149 x149) .l) = 0 then
                some (false, h148)
              else
                k16 h148
        ),
        (
          (xg G (w12 + (1 : Int32))).bind fun x153 =>
          b2 (m_L_winningColours u9 x153 u11 h) fun x154 h155 =>
          (xg G (w12 + (1 : Int32))).bind fun x156 =>
          cv h155 6 u10 <| b2 (m_X6_winningColours u10 x156 h155) fun x157 h158 =>
          cv h158 6 u10 <| (m_X6_thrown u10 h158).bind fun x159 =>
          if x159 = x154 then
            if x154 = 0 then
              (aL h158 1 u11 (0 : Int32)).bind fun x160 =>
              if (lg_cmp x160 (Int32.toInt64 x157)) = 0 then
                k16 h158
              else
                some (false, h158)
            else
              k16 h158
          else
            some (false, h158)
        ),
        (
          (xg G (w12 + (1 : Int32))).bind fun x164 =>
          b2 (m_L_falls u9 x164 u11 h) fun x165 h166 =>
          (xg G (w12 + (1 : Int32))).bind fun x167 =>
          cv h166 6 u10 <| b2 (m_X6_falls u10 x167 h166) fun x168 h169 =>
          cv h169 6 u10 <| (m_X6_thrown u10 h169).bind fun x170 =>
          if x170 = x165 then
            if x165 = 0 then
              (aL h169 1 u11 (0 : Int32)).bind fun x171 =>
              if (lg_cmp x171 (Int32.toInt64 x168)) = 0 then
                k16 h169
              else
                some (false, h169)
            else
              k16 h169
          else
            some (false, h169)
        ),
        (
          (xg G (w12 + (1 : Int32))).bind fun x175 =>
          b2 (m_L_valueWithout u9 x175 u11 h) fun x176 h177 =>
          (xg G (w12 + (1 : Int32))).bind fun x178 =>
          cv h177 6 u10 <| b2 (m_X6_valueWithout u10 x178 h177) fun x179 h180 =>
          cv h180 6 u10 <| (m_X6_thrown u10 h180).bind fun x181 =>
          if x181 = x176 then
            if x176 = 0 then
              (aL h180 1 u11 (0 : Int32)).bind fun x182 =>
              if (lg_cmp x182 (Int32.toInt64 x179)) = 0 then
                k16 h180
              else
                some (false, h180)
            else
              k16 h180
          else
            some (false, h180)
        ),
        (
          (xg G (w12 + (1 : Int32))).bind fun x186 =>
          (xg G (w12 + (2 : Int32))).bind fun x187 =>
          b2 (m_L_lay u9 x186 x187 u11 h) fun x188 h189 =>
          (xg G (w12 + (1 : Int32))).bind fun x190 =>
          (xg G (w12 + (2 : Int32))).bind fun x191 =>
          cv h189 6 u10 <| b2 (m_X6_lay u10 x190 x191 h189) fun x192 h193 =>
          cv h193 6 u10 <| (m_X6_thrown u10 h193).bind fun x194 =>
          if x194 = x188 then
            if x188 = 0 then
              (aL h193 1 u11 (0 : Int32)).bind fun x195 =>
              if (lg_cmp x195 (Int32.toInt64 x192)) = 0 then
                k16 h193
              else
                some (false, h193)
            else
              k16 h193
          else
            some (false, h193)
        ),
        (
          b2 (m_L_pass u9 u11 h) fun x199 h200 =>
          cv h200 6 u10 <| b2 (m_X6_pass u10 h200) fun x201 h202 =>
          cv h202 6 u10 <| (m_X6_thrown u10 h202).bind fun x203 =>
          if x203 = x199 then
            if x199 = 0 then
              (aL h202 1 u11 (0 : Int32)).bind fun x204 =>
              if (lg_cmp x204 (Int32.toInt64 x201)) = 0 then
                k16 h202
              else
                some (false, h202)
            else
              k16 h202
          else
            some (false, h202)
        ),
        (
          (xg G (w12 + (1 : Int32))).bind fun x208 =>
          b2 (m_L_playOut u9 x208 u11 h) fun x209 h210 =>
          (xg G (w12 + (1 : Int32))).bind fun x211 =>
          cv h210 6 u10 <| b2 (m_X6_playOut u10 x211 h210) fun x212 h213 =>
          cv h213 6 u10 <| (m_X6_thrown u10 h213).bind fun x214 =>
          if x214 = x209 then
            if x209 = 0 then
              (aL h213 1 u11 (0 : Int32)).bind fun x215 =>
              if (lg_cmp x215 (Int32.toInt64 x212)) = 0 then
                k16 h213
              else
                some (false, h213)
            else
              k16 h213
          else
            some (false, h213)
        ),
        (
          (xg G (w12 + (1 : Int32))).bind fun x219 =>
          b2 (m_L_setPasses u9 x219 u11 h) fun x220 h221 =>
          (xg G (w12 + (1 : Int32))).bind fun x222 =>
          cv h221 6 u10 <| b2 (m_X6_setPasses u10 x222 h221) fun x223 h224 =>
          cv h224 6 u10 <| (m_X6_thrown u10 h224).bind fun x225 =>
          if x225 = x220 then
            if x220 = 0 then
              (aL h224 1 u11 (0 : Int32)).bind fun x226 =>
              if (lg_cmp x226 (Int32.toInt64 x223)) = 0 then
                k16 h224
              else
                some (false, h224)
            else
              k16 h224
          else
            some (false, h224)
        ),
        (
          (xg G (w12 + (1 : Int32))).bind fun x230 =>
          (xg G (w12 + (2 : Int32))).bind fun x231 =>
          b2 (m_L_move u9 x230 x231 u11 h) fun x232 h233 =>
          (xg G (w12 + (1 : Int32))).bind fun x234 =>
          (xg G (w12 + (2 : Int32))).bind fun x235 =>
          cv h233 6 u10 <| b2 (m_X6_move u10 x234 x235 h233) fun x236 h237 =>
          cv h237 6 u10 <| (m_X6_thrown u10 h237).bind fun x238 =>
          if x238 = x232 then
            if x232 = 0 then
              (aL h237 1 u11 (0 : Int32)).bind fun x239 =>
              if (lg_cmp x239 (Int32.toInt64 x236)) = 0 then
                k16 h237
              else
                some (false, h237)
            else
              k16 h237
          else
            some (false, h237)
        ),
        (
          (xg G (w12 + (1 : Int32))).bind fun x243 =>
          (xg G (w12 + (2 : Int32))).bind fun x244 =>
          b2 (m_L_account u9 x243 x244 u11 h) fun x245 h246 =>
          (xg G (w12 + (1 : Int32))).bind fun x247 =>
          (xg G (w12 + (2 : Int32))).bind fun x248 =>
          cv h246 6 u10 <| b2 (m_X6_account u10 x247 x248 h246) fun x249 h250 =>
          cv h250 6 u10 <| (m_X6_thrown u10 h250).bind fun x251 =>
          if x251 = x245 then
            if x245 = 0 then
              (aL h250 1 u11 (0 : Int32)).bind fun x252 =>
              if (lg_cmp x252 (Int32.toInt64 x249)) = 0 then
                k16 h250
              else
                some (false, h250)
            else
              k16 h250
          else
            some (false, h250)
        ),
        (
          cv h 5 u9 <| b2 (m_X5_writeBoard u9 h) fun x256 h257 =>
          cv h257 6 u10 <| b2 (m_X6_writeBoard u10 h257) fun x258 h259 =>
          if x256 = x258 then
            k16 h259
          else
            some (false, h259)
        ),
        (
          (xg G (w12 + (1 : Int32))).bind fun x261 =>
          b2 (m_L_writtenByte u9 x261 u11 h) fun x262 h263 =>
          (xg G (w12 + (1 : Int32))).bind fun x264 =>
          cv h263 6 u10 <| b2 (m_X6_writtenByte u10 x264 h263) fun x265 h266 =>
          cv h266 6 u10 <| (m_X6_thrown u10 h266).bind fun x267 =>
          if x267 = x262 then
            if x262 = 0 then
              (aL h266 1 u11 (0 : Int32)).bind fun x268 =>
              if (lg_cmp x268 (Int32.toInt64 x265)) = 0 then
                k16 h266
              else
                some (false, h266)
            else
              k16 h266
          else
            some (false, h266)
        ),
        (
          b2 (m_L_undo u9 u11 h) fun x272 h273 =>
          cv h273 6 u10 <| b2 (m_X6_undo u10 h273) fun x274 h275 =>
          cv h275 6 u10 <| (m_X6_thrown u10 h275).bind fun x276 =>
          if x276 = x272 then
            if x272 = 0 then
              (aL h275 1 u11 (0 : Int32)).bind fun x277 =>
              if (lg_cmp x277 (Int32.toInt64 x274)) = 0 then
                k16 h275
              else
                some (false, h275)
            else
              k16 h275
          else
            some (false, h275)
        ),
        (
          (xg G (w12 + (1 : Int32))).bind fun x281 =>
          b2 (m_L_save u9 x281 u11 h) fun x282 h283 =>
          (xg G (w12 + (1 : Int32))).bind fun x284 =>
          cv h283 6 u10 <| b2 (m_X6_save u10 x284 h283) fun x285 h286 =>
          cv h286 6 u10 <| (m_X6_thrown u10 h286).bind fun x287 =>
          if x287 = x282 then
            if x282 = 0 then
              (aL h286 1 u11 (0 : Int32)).bind fun x288 =>
              if (lg_cmp x288 (Int32.toInt64 x285)) = 0 then
                k16 h286
              else
                some (false, h286)
            else
              k16 h286
          else
            some (false, h286)
        ),
        (
          (xg G (w12 + (1 : Int32))).bind fun x292 =>
          b2 (m_L_restore u9 x292 u11 h) fun x293 h294 =>
          (xg G (w12 + (1 : Int32))).bind fun x295 =>
          cv h294 6 u10 <| b2 (m_X6_restore u10 x295 h294) fun x296 h297 =>
          cv h297 6 u10 <| (m_X6_thrown u10 h297).bind fun x298 =>
          if x298 = x293 then
            if x293 = 0 then
              (aL h297 1 u11 (0 : Int32)).bind fun x299 =>
              if (lg_cmp x299 (Int32.toInt64 x296)) = 0 then
                k16 h297
              else
                some (false, h297)
            else
              k16 h297
          else
            some (false, h297)
        )
      ] (
        k16 h
      )
def m_L_law (G : Gx)  (h : Hp) : Option (Bool × Hp) :=
  nw h (.inr (5, [.null, .null, .null, .null, .null, .null, .int 0, .int 0])) 8 fun a1 h2 =>
  (m_X5_init a1 h2).bind fun h3 =>
  nw h3 (.inr (6, [.null, .null, .null, .null, .null, .null, .int 0, .int 0, .null, .int 0, .int 0, .int 0, .int 0, .int 0, .int 0, .int 0, .int 0, .int 0, .null, .null, .null, .int 0])) 22 fun a4 h5 =>
  (m_X6_init a4 h5).bind fun h6 =>
  nw h6 (.inl (1, 1, .inr (.inl fun _ => 0))) 1 fun a7 h8 =>
  m_L_law_L23 G  a1 a4 a7
    (fun h13 => (
      some (true, h13)
    ))
    LF (0 : Int32) h8
section
variable {l : Launch} {G : Gx}
set_option maxRecDepth 20000 in
set_option maxHeartbeats 4000000 in
theorem sl_L_law_L23 (hs : l.stackTraces = false) (u9 : Nat) (u10 : Nat) (u11 : Nat) (k23_1567 : Hp → Option (Bool × Hp)) (hk23_1567 : ∀ (h13 : Hp), Sim l G 188 M_L_law (fun p : Bool × Hp => ((.inl (some (.int (bI p.1))) : Oc), p.2)) 1567 [] [] h13 (k23_1567 h13)) : ∀ (f : Nat) (w12 : Int32) (h : Hp), Sim l G 188 M_L_law (fun p : Bool × Hp => ((.inl (some (.int (bI p.1))) : Oc), p.2)) 23 [(0, .retAddr 5000), (1, .ref u9), (2, .ref u10), (3, .ref u11), (4, .int w12)] [] h (m_L_law_L23 G u9 u10 u11 k23_1567 f w12 h) := by
  intro f
  induction f with
  | zero => intro w12 h; exact S_none rfl
  | succ f ih =>
    intro w12 h
    rw [m_L_law_L23]
    refine S_iload 4 dL_law_23 rfl ?_
    refine S_sload_n 0 dL_law_25 rfl rfl ?_
    refine S_xlen rfl dL_law_26 ?_
    refine S_bipush 6 dL_law_27 (by decide) ?_
    refine S_isub dL_law_29 ?_
    refine S_icmp_gt 1567 dL_law_30 (by decide) (fun c303 => ?_) (fun c303 => ?_)
    · exact Sim.sub [] rfl (hk23_1567 h)
    · refine S_sload_n 0 dL_law_33 rfl rfl ?_
      refine S_iload 4 dL_law_34 rfl ?_
      refine S_xld rfl dL_law_36 (fun x14 => ?_)
      refine S_bipush 31 dL_law_37 (by decide) ?_
      refine S_iand dL_law_39 ?_
      refine S_jK (fun (k16 : Hp → Option (Bool × Hp)) => ∀ (h15 : Hp), Sim l G 188 M_L_law (fun p : Bool × Hp => ((.inl (some (.int (bI p.1))) : Oc), p.2)) 1561 [(0, .retAddr 5000), (1, .ref u9), (2, .ref u10), (3, .ref u11), (4, .int w12)] [] h15 (k16 h15)) ?_ (fun k16 hk16 => ?_)
      · intro h15
        refine S_iincN (c := 6) 4 (fun x17 => [(4, .int x17), (0, .retAddr 5000), (1, .ref u9), (2, .ref u10), (3, .ref u11)]) dL_law_1561 rfl (by decide) (Nat.le_of_ble_eq_true rfl) (fun _ => rfl) (fun x17 => ?_)
        refine S_goto 23 dL_law_1564 (by decide) ?_
        exact Sim.sub [1, 2, 3, 4, 0] rfl (ih x17 h15)
      refine S_sw 1561 [168, 272, 328, 341, 397, 465, 533, 601, 614, 682, 695, 739, 752, 765, 808, 864, 920, 976, 1044, 1088, 1144, 1200, 1268, 1336, 1349, 1405, 1449, 1505] dL_law_40 (by decide) (by decide) rfl (by decide) ?_ ⟨?_, ?_, ?_, ?_, ?_, ?_, ?_, ?_, ?_, ?_, ?_, ?_, ?_, ?_, ?_, ?_, ?_, ?_, ?_, ?_, ?_, ?_, ?_, ?_, ?_, ?_, ?_, ?_, trivial⟩
      · exact Sim.sub [0, 1, 2, 3, 4] rfl (hk16 h)
      · refine S_aload_n 1 dL_law_168 rfl rfl ?_
        refine S_sload_n 0 dL_law_169 rfl rfl ?_
        refine S_iload 4 dL_law_170 rfl ?_
        refine S_iconst 1 dL_law_172 (by decide) ?_
        refine S_iadd dL_law_173 ?_
        refine S_xld rfl dL_law_174 (fun x18 => ?_)
        refine S_sload_n 0 dL_law_175 rfl rfl ?_
        refine S_iload 4 dL_law_176 rfl ?_
        refine S_iconst 2 dL_law_178 (by decide) ?_
        refine S_iadd dL_law_179 ?_
        refine S_xld rfl dL_law_180 (fun x19 => ?_)
        refine S_sload_n 0 dL_law_181 rfl rfl ?_
        refine S_iload 4 dL_law_182 rfl ?_
        refine S_iconst 3 dL_law_184 (by decide) ?_
        refine S_iadd dL_law_185 ?_
        refine S_xld rfl dL_law_186 (fun x20 => ?_)
        refine S_sload_n 0 dL_law_187 rfl rfl ?_
        refine S_iload 4 dL_law_188 rfl ?_
        refine S_iconst 4 dL_law_190 (by decide) ?_
        refine S_iadd dL_law_191 ?_
        refine S_xld rfl dL_law_192 (fun x21 => ?_)
        refine S_sload_n 0 dL_law_193 rfl rfl ?_
        refine S_iload 4 dL_law_194 rfl ?_
        refine S_iconst 5 dL_law_196 (by decide) ?_
        refine S_iadd dL_law_197 ?_
        refine S_xld rfl dL_law_198 (fun x22 => ?_)
        refine S_aload_n 3 dL_law_199 rfl rfl ?_
        refine S_callSH (lev' := 2) (My := M_L_append) [.ref u9, .int x18, .int x19, .int x20, .int x21, .int x22, .ref u11] [] K_L_append kw_448 kw_449 dL_law_200 (by decide) rfl (Nat.le_of_ble_eq_true rfl) (fun xx yy ee => sm_L_append hs u9 x18 x19 x20 x21 x22 u11 h xx yy ee) (fun x23 h24 _ => ?_)
        refine S_istore [(5, .int x23), (0, .retAddr 5000), (1, .ref u9), (2, .ref u10), (3, .ref u11), (4, .int w12)] dL_law_203 (Nat.le_of_ble_eq_true rfl) rfl ?_
        refine S_aload_n 3 dL_law_205 rfl rfl ?_
        refine S_sload_n 1 dL_law_206 rfl rfl ?_
        refine S_iload 5 dL_law_207 rfl ?_
        refine S_iconst 1 dL_law_209 (by decide) ?_
        refine S_iadd dL_law_210 ?_
        refine S_xld rfl dL_law_211 (fun x25 => ?_)
        refine S_sload_n 1 dL_law_212 rfl rfl ?_
        refine S_iload 5 dL_law_213 rfl ?_
        refine S_iconst 2 dL_law_215 (by decide) ?_
        refine S_iadd dL_law_216 ?_
        refine S_xld rfl dL_law_217 (fun x26 => ?_)
        refine S_sload_n 1 dL_law_218 rfl rfl ?_
        refine S_iload 5 dL_law_219 rfl ?_
        refine S_iconst 3 dL_law_221 (by decide) ?_
        refine S_iadd dL_law_222 ?_
        refine S_xld rfl dL_law_223 (fun x27 => ?_)
        refine S_sload_n 1 dL_law_224 rfl rfl ?_
        refine S_iload 5 dL_law_225 rfl ?_
        refine S_iconst 4 dL_law_227 (by decide) ?_
        refine S_iadd dL_law_228 ?_
        refine S_xld rfl dL_law_229 (fun x28 => ?_)
        refine S_sload_n 1 dL_law_230 rfl rfl ?_
        refine S_iload 5 dL_law_231 rfl ?_
        refine S_iconst 5 dL_law_233 (by decide) ?_
        refine S_iadd dL_law_234 ?_
        refine S_xld rfl dL_law_235 (fun x29 => ?_)
        refine S_callV_IW (lev' := 0) (My := M_X6_append) [.int x25, .int x26, .int x27, .int x28, .int x29] [] kc6 K_X6_append kw_1119 kw_1120 kw_1121 dL_law_236 (by decide) rfl (Nat.le_of_ble_eq_true rfl) (fun xx yy ee => sm_X6_append hs u10 x25 x26 x27 x28 x29 h24 xx yy ee) (fun x30 h31 _ => ?_)
        refine S_istore [(6, .int x30), (5, .int x23), (0, .retAddr 5000), (1, .ref u9), (2, .ref u10), (3, .ref u11), (4, .int w12)] dL_law_239 (Nat.le_of_ble_eq_true rfl) rfl ?_
        refine S_aload_n 4 dL_law_241 rfl rfl ?_
        refine S_callV_IR (lev' := 0) (My := M_X6_thrown) [] [] kc6 K_X6_thrown kw_1108 kw_1109 kw_1110 dL_law_242 (by decide) rfl (Nat.le_of_ble_eq_true rfl) (fun xx ee => sm_X6_thrown hs u10 h31 xx ee) (fun x32 _ => ?_)
        refine S_iload 1 dL_law_245 rfl ?_
        refine S_icmp_eq 252 dL_law_247 (by decide) (fun c36 => ?_) (fun c36 => ?_)
        · refine S_iload 1 dL_law_252 rfl ?_
          refine S_if_ne 269 dL_law_254 (by decide) (fun c35 => ?_) (fun c35 => ?_)
          · refine S_goto 1561 dL_law_269 (by decide) ?_
            exact Sim.sub [2, 3, 4, 5, 6] rfl (hk16 h31)
          · refine S_aload_n 5 dL_law_257 rfl rfl ?_
            refine S_iconst 0 dL_law_258 (by decide) ?_
            refine S_laload dL_law_259 (fun x33 _ => ?_)
            refine S_iload 0 dL_law_260 rfl ?_
            refine S_i2l dL_law_262 ?_
            refine S_lcmp dL_law_263 ?_
            refine S_if_eq 269 dL_law_264 (by decide) (fun c34 => ?_) (fun c34 => ?_)
            · refine S_goto 1561 dL_law_269 (by decide) ?_
              exact Sim.sub [2, 3, 4, 5, 6] rfl (hk16 h31)
            · refine S_iconst 0 dL_law_267 (by decide) ?_
              exact S_zreturn (b := false) rfl rfl dL_law_268
        · refine S_iconst 0 dL_law_250 (by decide) ?_
          exact S_zreturn (b := false) rfl rfl dL_law_251
      · refine S_aload_n 1 dL_law_272 rfl rfl ?_
        refine S_sload_n 0 dL_law_273 rfl rfl ?_
        refine S_iload 4 dL_law_274 rfl ?_
        refine S_iconst 1 dL_law_276 (by decide) ?_
        refine S_iadd dL_law_277 ?_
        refine S_xld rfl dL_law_278 (fun x37 => ?_)
        refine S_aload_n 3 dL_law_279 rfl rfl ?_
        refine S_callSH (lev' := 14) (My := M_L_load) [.ref u9, .int x37, .ref u11] [] K_L_load kw_528 kw_529 dL_law_280 (by decide) rfl (Nat.le_of_ble_eq_true rfl) (fun xx yy ee => sm_L_load hs u9 x37 u11 h xx yy ee) (fun x38 h39 _ => ?_)
        refine S_istore [(5, .int x38), (0, .retAddr 5000), (1, .ref u9), (2, .ref u10), (3, .ref u11), (4, .int w12)] dL_law_283 (Nat.le_of_ble_eq_true rfl) rfl ?_
        refine S_aload_n 3 dL_law_285 rfl rfl ?_
        refine S_sload_n 1 dL_law_286 rfl rfl ?_
        refine S_iload 5 dL_law_287 rfl ?_
        refine S_iconst 1 dL_law_289 (by decide) ?_
        refine S_iadd dL_law_290 ?_
        refine S_xld rfl dL_law_291 (fun x40 => ?_)
        refine S_callV_IW (lev' := 10) (My := M_X6_load) [.int x40] [] kc6 K_X6_load kw_1123 kw_1124 kw_1125 dL_law_292 (by decide) rfl (Nat.le_of_ble_eq_true rfl) (fun xx yy ee => sm_X6_load hs u10 x40 h39 xx yy ee) (fun x41 h42 _ => ?_)
        refine S_istore [(6, .int x41), (5, .int x38), (0, .retAddr 5000), (1, .ref u9), (2, .ref u10), (3, .ref u11), (4, .int w12)] dL_law_295 (Nat.le_of_ble_eq_true rfl) rfl ?_
        refine S_aload_n 4 dL_law_297 rfl rfl ?_
        refine S_callV_IR (lev' := 0) (My := M_X6_thrown) [] [] kc6 K_X6_thrown kw_1108 kw_1109 kw_1110 dL_law_298 (by decide) rfl (Nat.le_of_ble_eq_true rfl) (fun xx ee => sm_X6_thrown hs u10 h42 xx ee) (fun x43 _ => ?_)
        refine S_iload 1 dL_law_301 rfl ?_
        refine S_icmp_eq 308 dL_law_303 (by decide) (fun c47 => ?_) (fun c47 => ?_)
        · refine S_iload 1 dL_law_308 rfl ?_
          refine S_if_ne 325 dL_law_310 (by decide) (fun c46 => ?_) (fun c46 => ?_)
          · refine S_goto 1561 dL_law_325 (by decide) ?_
            exact Sim.sub [2, 3, 4, 5, 6] rfl (hk16 h42)
          · refine S_aload_n 5 dL_law_313 rfl rfl ?_
            refine S_iconst 0 dL_law_314 (by decide) ?_
            refine S_laload dL_law_315 (fun x44 _ => ?_)
            refine S_iload 0 dL_law_316 rfl ?_
            refine S_i2l dL_law_318 ?_
            refine S_lcmp dL_law_319 ?_
            refine S_if_eq 325 dL_law_320 (by decide) (fun c45 => ?_) (fun c45 => ?_)
            · refine S_goto 1561 dL_law_325 (by decide) ?_
              exact Sim.sub [2, 3, 4, 5, 6] rfl (hk16 h42)
            · refine S_iconst 0 dL_law_323 (by decide) ?_
              exact S_zreturn (b := false) rfl rfl dL_law_324
        · refine S_iconst 0 dL_law_306 (by decide) ?_
          exact S_zreturn (b := false) rfl rfl dL_law_307
      · refine S_aload_n 1 dL_law_328 rfl rfl ?_
        refine S_callV_IR (lev' := 0) (My := M_X5_errorPosition) [] [] kc5 K_X5_errorPosition kw_268 kw_269 kw_270 dL_law_329 (by decide) rfl (Nat.le_of_ble_eq_true rfl) (fun xx ee => sm_X5_errorPosition hs u9 h xx ee) (fun x48 _ => ?_)
        refine S_aload_n 2 dL_law_332 rfl rfl ?_
        refine S_callV_IW (lev' := 0) (My := M_X6_errorPosition) [] [.int x48] kc6 K_X6_errorPosition kw_1264 kw_1265 kw_1266 dL_law_333 (by decide) rfl (Nat.le_of_ble_eq_true rfl) (fun xx yy ee => sm_X6_errorPosition hs u10 h xx yy ee) (fun x49 h50 _ => ?_)
        refine S_icmp_eq 1561 dL_law_336 (by decide) (fun c51 => ?_) (fun c51 => ?_)
        · exact Sim.sub [0, 1, 2, 3, 4] rfl (hk16 h50)
        · refine S_iconst 0 dL_law_339 (by decide) ?_
          exact S_zreturn (b := false) rfl rfl dL_law_340
      · refine S_aload_n 1 dL_law_341 rfl rfl ?_
        refine S_sload_n 0 dL_law_342 rfl rfl ?_
        refine S_iload 4 dL_law_343 rfl ?_
        refine S_iconst 1 dL_law_345 (by decide) ?_
        refine S_iadd dL_law_346 ?_
        refine S_xld rfl dL_law_347 (fun x52 => ?_)
        refine S_aload_n 3 dL_law_348 rfl rfl ?_
        refine S_callSH (lev' := 7) (My := M_L_count) [.ref u9, .int x52, .ref u11] [] K_L_count kw_769 kw_770 dL_law_349 (by decide) rfl (Nat.le_of_ble_eq_true rfl) (fun xx yy ee => sm_L_count hs u9 x52 u11 h xx yy ee) (fun x53 h54 _ => ?_)
        refine S_istore [(5, .int x53), (0, .retAddr 5000), (1, .ref u9), (2, .ref u10), (3, .ref u11), (4, .int w12)] dL_law_352 (Nat.le_of_ble_eq_true rfl) rfl ?_
        refine S_aload_n 3 dL_law_354 rfl rfl ?_
        refine S_sload_n 1 dL_law_355 rfl rfl ?_
        refine S_iload 5 dL_law_356 rfl ?_
        refine S_iconst 1 dL_law_358 (by decide) ?_
        refine S_iadd dL_law_359 ?_
        refine S_xld rfl dL_law_360 (fun x55 => ?_)
        refine S_callV_IW (lev' := 6) (My := M_X6_count) [.int x55] [] kc6 K_X6_count kw_1268 kw_1269 kw_1270 dL_law_361 (by decide) rfl (Nat.le_of_ble_eq_true rfl) (fun xx yy ee => sm_X6_count hs u10 x55 h54 xx yy ee) (fun x56 h57 _ => ?_)
        refine S_istore [(6, .int x56), (5, .int x53), (0, .retAddr 5000), (1, .ref u9), (2, .ref u10), (3, .ref u11), (4, .int w12)] dL_law_364 (Nat.le_of_ble_eq_true rfl) rfl ?_
        refine S_aload_n 4 dL_law_366 rfl rfl ?_
        refine S_callV_IR (lev' := 0) (My := M_X6_thrown) [] [] kc6 K_X6_thrown kw_1108 kw_1109 kw_1110 dL_law_367 (by decide) rfl (Nat.le_of_ble_eq_true rfl) (fun xx ee => sm_X6_thrown hs u10 h57 xx ee) (fun x58 _ => ?_)
        refine S_iload 1 dL_law_370 rfl ?_
        refine S_icmp_eq 377 dL_law_372 (by decide) (fun c62 => ?_) (fun c62 => ?_)
        · refine S_iload 1 dL_law_377 rfl ?_
          refine S_if_ne 394 dL_law_379 (by decide) (fun c61 => ?_) (fun c61 => ?_)
          · refine S_goto 1561 dL_law_394 (by decide) ?_
            exact Sim.sub [2, 3, 4, 5, 6] rfl (hk16 h57)
          · refine S_aload_n 5 dL_law_382 rfl rfl ?_
            refine S_iconst 0 dL_law_383 (by decide) ?_
            refine S_laload dL_law_384 (fun x59 _ => ?_)
            refine S_iload 0 dL_law_385 rfl ?_
            refine S_i2l dL_law_387 ?_
            refine S_lcmp dL_law_388 ?_
            refine S_if_eq 394 dL_law_389 (by decide) (fun c60 => ?_) (fun c60 => ?_)
            · refine S_goto 1561 dL_law_394 (by decide) ?_
              exact Sim.sub [2, 3, 4, 5, 6] rfl (hk16 h57)
            · refine S_iconst 0 dL_law_392 (by decide) ?_
              exact S_zreturn (b := false) rfl rfl dL_law_393
        · refine S_iconst 0 dL_law_375 (by decide) ?_
          exact S_zreturn (b := false) rfl rfl dL_law_376
      · refine S_aload_n 1 dL_law_397 rfl rfl ?_
        refine S_sload_n 0 dL_law_398 rfl rfl ?_
        refine S_iload 4 dL_law_399 rfl ?_
        refine S_iconst 1 dL_law_401 (by decide) ?_
        refine S_iadd dL_law_402 ?_
        refine S_xld rfl dL_law_403 (fun x63 => ?_)
        refine S_sload_n 0 dL_law_404 rfl rfl ?_
        refine S_iload 4 dL_law_405 rfl ?_
        refine S_iconst 2 dL_law_407 (by decide) ?_
        refine S_iadd dL_law_408 ?_
        refine S_xld rfl dL_law_409 (fun x64 => ?_)
        refine S_aload_n 3 dL_law_410 rfl rfl ?_
        refine S_callSH (lev' := 5) (My := M_L_vertex) [.ref u9, .int x63, .int x64, .ref u11] [] K_L_vertex kw_799 kw_800 dL_law_411 (by decide) rfl (Nat.le_of_ble_eq_true rfl) (fun xx yy ee => sm_L_vertex hs u9 x63 x64 u11 h xx yy ee) (fun x65 h66 _ => ?_)
        refine S_istore [(5, .int x65), (0, .retAddr 5000), (1, .ref u9), (2, .ref u10), (3, .ref u11), (4, .int w12)] dL_law_414 (Nat.le_of_ble_eq_true rfl) rfl ?_
        refine S_aload_n 3 dL_law_416 rfl rfl ?_
        refine S_sload_n 1 dL_law_417 rfl rfl ?_
        refine S_iload 5 dL_law_418 rfl ?_
        refine S_iconst 1 dL_law_420 (by decide) ?_
        refine S_iadd dL_law_421 ?_
        refine S_xld rfl dL_law_422 (fun x67 => ?_)
        refine S_sload_n 1 dL_law_423 rfl rfl ?_
        refine S_iload 5 dL_law_424 rfl ?_
        refine S_iconst 2 dL_law_426 (by decide) ?_
        refine S_iadd dL_law_427 ?_
        refine S_xld rfl dL_law_428 (fun x68 => ?_)
        refine S_callV_IW (lev' := 4) (My := M_X6_vertex) [.int x67, .int x68] [] kc6 K_X6_vertex kw_1288 kw_1289 kw_1290 dL_law_429 (by decide) rfl (Nat.le_of_ble_eq_true rfl) (fun xx yy ee => sm_X6_vertex hs u10 x67 x68 h66 xx yy ee) (fun x69 h70 _ => ?_)
        refine S_istore [(6, .int x69), (5, .int x65), (0, .retAddr 5000), (1, .ref u9), (2, .ref u10), (3, .ref u11), (4, .int w12)] dL_law_432 (Nat.le_of_ble_eq_true rfl) rfl ?_
        refine S_aload_n 4 dL_law_434 rfl rfl ?_
        refine S_callV_IR (lev' := 0) (My := M_X6_thrown) [] [] kc6 K_X6_thrown kw_1108 kw_1109 kw_1110 dL_law_435 (by decide) rfl (Nat.le_of_ble_eq_true rfl) (fun xx ee => sm_X6_thrown hs u10 h70 xx ee) (fun x71 _ => ?_)
        refine S_iload 1 dL_law_438 rfl ?_
        refine S_icmp_eq 445 dL_law_440 (by decide) (fun c75 => ?_) (fun c75 => ?_)
        · refine S_iload 1 dL_law_445 rfl ?_
          refine S_if_ne 462 dL_law_447 (by decide) (fun c74 => ?_) (fun c74 => ?_)
          · refine S_goto 1561 dL_law_462 (by decide) ?_
            exact Sim.sub [2, 3, 4, 5, 6] rfl (hk16 h70)
          · refine S_aload_n 5 dL_law_450 rfl rfl ?_
            refine S_iconst 0 dL_law_451 (by decide) ?_
            refine S_laload dL_law_452 (fun x72 _ => ?_)
            refine S_iload 0 dL_law_453 rfl ?_
            refine S_i2l dL_law_455 ?_
            refine S_lcmp dL_law_456 ?_
            refine S_if_eq 462 dL_law_457 (by decide) (fun c73 => ?_) (fun c73 => ?_)
            · refine S_goto 1561 dL_law_462 (by decide) ?_
              exact Sim.sub [2, 3, 4, 5, 6] rfl (hk16 h70)
            · refine S_iconst 0 dL_law_460 (by decide) ?_
              exact S_zreturn (b := false) rfl rfl dL_law_461
        · refine S_iconst 0 dL_law_443 (by decide) ?_
          exact S_zreturn (b := false) rfl rfl dL_law_444
      · refine S_aload_n 1 dL_law_465 rfl rfl ?_
        refine S_sload_n 0 dL_law_466 rfl rfl ?_
        refine S_iload 4 dL_law_467 rfl ?_
        refine S_iconst 1 dL_law_469 (by decide) ?_
        refine S_iadd dL_law_470 ?_
        refine S_xld rfl dL_law_471 (fun x76 => ?_)
        refine S_sload_n 0 dL_law_472 rfl rfl ?_
        refine S_iload 4 dL_law_473 rfl ?_
        refine S_iconst 2 dL_law_475 (by decide) ?_
        refine S_iadd dL_law_476 ?_
        refine S_xld rfl dL_law_477 (fun x77 => ?_)
        refine S_aload_n 3 dL_law_478 rfl rfl ?_
        refine S_callSH (lev' := 4) (My := M_L_reason) [.ref u9, .int x76, .int x77, .ref u11] [] K_L_reason kw_838 kw_839 dL_law_479 (by decide) rfl (Nat.le_of_ble_eq_true rfl) (fun xx yy ee => sm_L_reason hs u9 x76 x77 u11 h xx yy ee) (fun x78 h79 _ => ?_)
        refine S_istore [(5, .int x78), (0, .retAddr 5000), (1, .ref u9), (2, .ref u10), (3, .ref u11), (4, .int w12)] dL_law_482 (Nat.le_of_ble_eq_true rfl) rfl ?_
        refine S_aload_n 3 dL_law_484 rfl rfl ?_
        refine S_sload_n 1 dL_law_485 rfl rfl ?_
        refine S_iload 5 dL_law_486 rfl ?_
        refine S_iconst 1 dL_law_488 (by decide) ?_
        refine S_iadd dL_law_489 ?_
        refine S_xld rfl dL_law_490 (fun x80 => ?_)
        refine S_sload_n 1 dL_law_491 rfl rfl ?_
        refine S_iload 5 dL_law_492 rfl ?_
        refine S_iconst 2 dL_law_494 (by decide) ?_
        refine S_iadd dL_law_495 ?_
        refine S_xld rfl dL_law_496 (fun x81 => ?_)
        refine S_callV_IW (lev' := 5) (My := M_X6_reason) [.int x80, .int x81] [] kc6 K_X6_reason kw_1300 kw_1301 kw_1302 dL_law_497 (by decide) rfl (Nat.le_of_ble_eq_true rfl) (fun xx yy ee => sm_X6_reason hs u10 x80 x81 h79 xx yy ee) (fun x82 h83 _ => ?_)
        refine S_istore [(6, .int x82), (5, .int x78), (0, .retAddr 5000), (1, .ref u9), (2, .ref u10), (3, .ref u11), (4, .int w12)] dL_law_500 (Nat.le_of_ble_eq_true rfl) rfl ?_
        refine S_aload_n 4 dL_law_502 rfl rfl ?_
        refine S_callV_IR (lev' := 0) (My := M_X6_thrown) [] [] kc6 K_X6_thrown kw_1108 kw_1109 kw_1110 dL_law_503 (by decide) rfl (Nat.le_of_ble_eq_true rfl) (fun xx ee => sm_X6_thrown hs u10 h83 xx ee) (fun x84 _ => ?_)
        refine S_iload 1 dL_law_506 rfl ?_
        refine S_icmp_eq 513 dL_law_508 (by decide) (fun c88 => ?_) (fun c88 => ?_)
        · refine S_iload 1 dL_law_513 rfl ?_
          refine S_if_ne 530 dL_law_515 (by decide) (fun c87 => ?_) (fun c87 => ?_)
          · refine S_goto 1561 dL_law_530 (by decide) ?_
            exact Sim.sub [2, 3, 4, 5, 6] rfl (hk16 h83)
          · refine S_aload_n 5 dL_law_518 rfl rfl ?_
            refine S_iconst 0 dL_law_519 (by decide) ?_
            refine S_laload dL_law_520 (fun x85 _ => ?_)
            refine S_iload 0 dL_law_521 rfl ?_
            refine S_i2l dL_law_523 ?_
            refine S_lcmp dL_law_524 ?_
            refine S_if_eq 530 dL_law_525 (by decide) (fun c86 => ?_) (fun c86 => ?_)
            · refine S_goto 1561 dL_law_530 (by decide) ?_
              exact Sim.sub [2, 3, 4, 5, 6] rfl (hk16 h83)
            · refine S_iconst 0 dL_law_528 (by decide) ?_
              exact S_zreturn (b := false) rfl rfl dL_law_529
        · refine S_iconst 0 dL_law_511 (by decide) ?_
          exact S_zreturn (b := false) rfl rfl dL_law_512
      · refine S_aload_n 1 dL_law_533 rfl rfl ?_
        refine S_sload_n 0 dL_law_534 rfl rfl ?_
        refine S_iload 4 dL_law_535 rfl ?_
        refine S_iconst 1 dL_law_537 (by decide) ?_
        refine S_iadd dL_law_538 ?_
        refine S_xld rfl dL_law_539 (fun x89 => ?_)
        refine S_sload_n 0 dL_law_540 rfl rfl ?_
        refine S_iload 4 dL_law_541 rfl ?_
        refine S_iconst 2 dL_law_543 (by decide) ?_
        refine S_iadd dL_law_544 ?_
        refine S_xld rfl dL_law_545 (fun x90 => ?_)
        refine S_aload_n 3 dL_law_546 rfl rfl ?_
        refine S_callSH (lev' := 185) (My := M_L_part) [.ref u9, .int x89, .int x90, .ref u11] [] K_L_part kw_852 kw_853 dL_law_547 (by decide) rfl (Nat.le_of_ble_eq_true rfl) (fun xx yy ee => sm_L_part hs u9 x89 x90 u11 h xx yy ee) (fun x91 h92 _ => ?_)
        refine S_istore [(5, .int x91), (0, .retAddr 5000), (1, .ref u9), (2, .ref u10), (3, .ref u11), (4, .int w12)] dL_law_550 (Nat.le_of_ble_eq_true rfl) rfl ?_
        refine S_aload_n 3 dL_law_552 rfl rfl ?_
        refine S_sload_n 1 dL_law_553 rfl rfl ?_
        refine S_iload 5 dL_law_554 rfl ?_
        refine S_iconst 1 dL_law_556 (by decide) ?_
        refine S_iadd dL_law_557 ?_
        refine S_xld rfl dL_law_558 (fun x93 => ?_)
        refine S_sload_n 1 dL_law_559 rfl rfl ?_
        refine S_iload 5 dL_law_560 rfl ?_
        refine S_iconst 2 dL_law_562 (by decide) ?_
        refine S_iadd dL_law_563 ?_
        refine S_xld rfl dL_law_564 (fun x94 => ?_)
        refine S_callV_IW (lev' := 125) (My := M_X6_part) [.int x93, .int x94] [] kc6 K_X6_part kw_1308 kw_1309 kw_1310 dL_law_565 (by decide) rfl (Nat.le_of_ble_eq_true rfl) (fun xx yy ee => sm_X6_part hs u10 x93 x94 h92 xx yy ee) (fun x95 h96 _ => ?_)
        refine S_istore [(6, .int x95), (5, .int x91), (0, .retAddr 5000), (1, .ref u9), (2, .ref u10), (3, .ref u11), (4, .int w12)] dL_law_568 (Nat.le_of_ble_eq_true rfl) rfl ?_
        refine S_aload_n 4 dL_law_570 rfl rfl ?_
        refine S_callV_IR (lev' := 0) (My := M_X6_thrown) [] [] kc6 K_X6_thrown kw_1108 kw_1109 kw_1110 dL_law_571 (by decide) rfl (Nat.le_of_ble_eq_true rfl) (fun xx ee => sm_X6_thrown hs u10 h96 xx ee) (fun x97 _ => ?_)
        refine S_iload 1 dL_law_574 rfl ?_
        refine S_icmp_eq 581 dL_law_576 (by decide) (fun c101 => ?_) (fun c101 => ?_)
        · refine S_iload 1 dL_law_581 rfl ?_
          refine S_if_ne 598 dL_law_583 (by decide) (fun c100 => ?_) (fun c100 => ?_)
          · refine S_goto 1561 dL_law_598 (by decide) ?_
            exact Sim.sub [2, 3, 4, 5, 6] rfl (hk16 h96)
          · refine S_aload_n 5 dL_law_586 rfl rfl ?_
            refine S_iconst 0 dL_law_587 (by decide) ?_
            refine S_laload dL_law_588 (fun x98 _ => ?_)
            refine S_iload 0 dL_law_589 rfl ?_
            refine S_i2l dL_law_591 ?_
            refine S_lcmp dL_law_592 ?_
            refine S_if_eq 598 dL_law_593 (by decide) (fun c99 => ?_) (fun c99 => ?_)
            · refine S_goto 1561 dL_law_598 (by decide) ?_
              exact Sim.sub [2, 3, 4, 5, 6] rfl (hk16 h96)
            · refine S_iconst 0 dL_law_596 (by decide) ?_
              exact S_zreturn (b := false) rfl rfl dL_law_597
        · refine S_iconst 0 dL_law_579 (by decide) ?_
          exact S_zreturn (b := false) rfl rfl dL_law_580
      · refine S_aload_n 1 dL_law_601 rfl rfl ?_
        refine S_callV_IW (lev' := 184) (My := M_X5_value) [] [] kc5 K_X5_value kw_272 kw_273 kw_274 dL_law_602 (by decide) rfl (Nat.le_of_ble_eq_true rfl) (fun xx yy ee => sm_X5_value hs u9 h xx yy ee) (fun x102 h103 _ => ?_)
        refine S_aload_n 2 dL_law_605 rfl rfl ?_
        refine S_callV_IW (lev' := 126) (My := M_X6_value) [] [.int x102] kc6 K_X6_value kw_1340 kw_1341 kw_1342 dL_law_606 (by decide) rfl (Nat.le_of_ble_eq_true rfl) (fun xx yy ee => sm_X6_value hs u10 h103 xx yy ee) (fun x104 h105 _ => ?_)
        refine S_icmp_eq 1561 dL_law_609 (by decide) (fun c106 => ?_) (fun c106 => ?_)
        · exact Sim.sub [0, 1, 2, 3, 4] rfl (hk16 h105)
        · refine S_iconst 0 dL_law_612 (by decide) ?_
          exact S_zreturn (b := false) rfl rfl dL_law_613
      · refine S_aload_n 1 dL_law_614 rfl rfl ?_
        refine S_sload_n 0 dL_law_615 rfl rfl ?_
        refine S_iload 4 dL_law_616 rfl ?_
        refine S_iconst 1 dL_law_618 (by decide) ?_
        refine S_iadd dL_law_619 ?_
        refine S_xld rfl dL_law_620 (fun x107 => ?_)
        refine S_sload_n 0 dL_law_621 rfl rfl ?_
        refine S_iload 4 dL_law_622 rfl ?_
        refine S_iconst 2 dL_law_624 (by decide) ?_
        refine S_iadd dL_law_625 ?_
        refine S_xld rfl dL_law_626 (fun x108 => ?_)
        refine S_aload_n 3 dL_law_627 rfl rfl ?_
        refine S_callSH (lev' := 186) (My := M_L_valueIf) [.ref u9, .int x107, .int x108, .ref u11] [] K_L_valueIf kw_863 kw_864 dL_law_628 (by decide) rfl (Nat.le_of_ble_eq_true rfl) (fun xx yy ee => sm_L_valueIf hs u9 x107 x108 u11 h xx yy ee) (fun x109 h110 _ => ?_)
        refine S_istore [(5, .int x109), (0, .retAddr 5000), (1, .ref u9), (2, .ref u10), (3, .ref u11), (4, .int w12)] dL_law_631 (Nat.le_of_ble_eq_true rfl) rfl ?_
        refine S_aload_n 3 dL_law_633 rfl rfl ?_
        refine S_sload_n 1 dL_law_634 rfl rfl ?_
        refine S_iload 5 dL_law_635 rfl ?_
        refine S_iconst 1 dL_law_637 (by decide) ?_
        refine S_iadd dL_law_638 ?_
        refine S_xld rfl dL_law_639 (fun x111 => ?_)
        refine S_sload_n 1 dL_law_640 rfl rfl ?_
        refine S_iload 5 dL_law_641 rfl ?_
        refine S_iconst 2 dL_law_643 (by decide) ?_
        refine S_iadd dL_law_644 ?_
        refine S_xld rfl dL_law_645 (fun x112 => ?_)
        refine S_callV_IW (lev' := 126) (My := M_X6_valueIf) [.int x111, .int x112] [] kc6 K_X6_valueIf kw_1352 kw_1353 kw_1354 dL_law_646 (by decide) rfl (Nat.le_of_ble_eq_true rfl) (fun xx yy ee => sm_X6_valueIf hs u10 x111 x112 h110 xx yy ee) (fun x113 h114 _ => ?_)
        refine S_istore [(6, .int x113), (5, .int x109), (0, .retAddr 5000), (1, .ref u9), (2, .ref u10), (3, .ref u11), (4, .int w12)] dL_law_649 (Nat.le_of_ble_eq_true rfl) rfl ?_
        refine S_aload_n 4 dL_law_651 rfl rfl ?_
        refine S_callV_IR (lev' := 0) (My := M_X6_thrown) [] [] kc6 K_X6_thrown kw_1108 kw_1109 kw_1110 dL_law_652 (by decide) rfl (Nat.le_of_ble_eq_true rfl) (fun xx ee => sm_X6_thrown hs u10 h114 xx ee) (fun x115 _ => ?_)
        refine S_iload 1 dL_law_655 rfl ?_
        refine S_icmp_eq 662 dL_law_657 (by decide) (fun c119 => ?_) (fun c119 => ?_)
        · refine S_iload 1 dL_law_662 rfl ?_
          refine S_if_ne 679 dL_law_664 (by decide) (fun c118 => ?_) (fun c118 => ?_)
          · refine S_goto 1561 dL_law_679 (by decide) ?_
            exact Sim.sub [2, 3, 4, 5, 6] rfl (hk16 h114)
          · refine S_aload_n 5 dL_law_667 rfl rfl ?_
            refine S_iconst 0 dL_law_668 (by decide) ?_
            refine S_laload dL_law_669 (fun x116 _ => ?_)
            refine S_iload 0 dL_law_670 rfl ?_
            refine S_i2l dL_law_672 ?_
            refine S_lcmp dL_law_673 ?_
            refine S_if_eq 679 dL_law_674 (by decide) (fun c117 => ?_) (fun c117 => ?_)
            · refine S_goto 1561 dL_law_679 (by decide) ?_
              exact Sim.sub [2, 3, 4, 5, 6] rfl (hk16 h114)
            · refine S_iconst 0 dL_law_677 (by decide) ?_
              exact S_zreturn (b := false) rfl rfl dL_law_678
        · refine S_iconst 0 dL_law_660 (by decide) ?_
          exact S_zreturn (b := false) rfl rfl dL_law_661
      · refine S_aload_n 1 dL_law_682 rfl rfl ?_
        refine S_callV_IW (lev' := 186) (My := M_X5_winningMoves) [] [] kc5 K_X5_winningMoves kw_367 kw_368 kw_369 dL_law_683 (by decide) rfl (Nat.le_of_ble_eq_true rfl) (fun xx yy ee => sm_X5_winningMoves hs u9 h xx yy ee) (fun x120 h121 _ => ?_)
        refine S_aload_n 2 dL_law_686 rfl rfl ?_
        refine S_callV_IW (lev' := 127) (My := M_X6_winningMoves) [] [.int x120] kc6 K_X6_winningMoves kw_1360 kw_1361 kw_1362 dL_law_687 (by decide) rfl (Nat.le_of_ble_eq_true rfl) (fun xx yy ee => sm_X6_winningMoves hs u10 h121 xx yy ee) (fun x122 h123 _ => ?_)
        refine S_icmp_eq 1561 dL_law_690 (by decide) (fun c124 => ?_) (fun c124 => ?_)
        · exact Sim.sub [0, 1, 2, 3, 4] rfl (hk16 h123)
        · refine S_iconst 0 dL_law_693 (by decide) ?_
          exact S_zreturn (b := false) rfl rfl dL_law_694
      · refine S_aload_n 1 dL_law_695 rfl rfl ?_
        refine S_aload_n 3 dL_law_696 rfl rfl ?_
        refine S_callSH (lev' := 187) (My := M_L_bestMove) [.ref u9, .ref u11] [] K_L_bestMove kw_887 kw_888 dL_law_697 (by decide) rfl (Nat.le_of_ble_eq_true rfl) (fun xx yy ee => sm_L_bestMove hs u9 u11 h xx yy ee) (fun x125 h126 _ => ?_)
        refine S_istore [(5, .int x125), (0, .retAddr 5000), (1, .ref u9), (2, .ref u10), (3, .ref u11), (4, .int w12)] dL_law_700 (Nat.le_of_ble_eq_true rfl) rfl ?_
        refine S_aload_n 3 dL_law_702 rfl rfl ?_
        refine S_callV_IW (lev' := 128) (My := M_X6_bestMove) [] [] kc6 K_X6_bestMove kw_1376 kw_1377 kw_1378 dL_law_703 (by decide) rfl (Nat.le_of_ble_eq_true rfl) (fun xx yy ee => sm_X6_bestMove hs u10 h126 xx yy ee) (fun x127 h128 _ => ?_)
        refine S_istore [(6, .int x127), (5, .int x125), (0, .retAddr 5000), (1, .ref u9), (2, .ref u10), (3, .ref u11), (4, .int w12)] dL_law_706 (Nat.le_of_ble_eq_true rfl) rfl ?_
        refine S_aload_n 4 dL_law_708 rfl rfl ?_
        refine S_callV_IR (lev' := 0) (My := M_X6_thrown) [] [] kc6 K_X6_thrown kw_1108 kw_1109 kw_1110 dL_law_709 (by decide) rfl (Nat.le_of_ble_eq_true rfl) (fun xx ee => sm_X6_thrown hs u10 h128 xx ee) (fun x129 _ => ?_)
        refine S_iload 1 dL_law_712 rfl ?_
        refine S_icmp_eq 719 dL_law_714 (by decide) (fun c133 => ?_) (fun c133 => ?_)
        · refine S_iload 1 dL_law_719 rfl ?_
          refine S_if_ne 736 dL_law_721 (by decide) (fun c132 => ?_) (fun c132 => ?_)
          · refine S_goto 1561 dL_law_736 (by decide) ?_
            exact Sim.sub [2, 3, 4, 5, 6] rfl (hk16 h128)
          · refine S_aload_n 5 dL_law_724 rfl rfl ?_
            refine S_iconst 0 dL_law_725 (by decide) ?_
            refine S_laload dL_law_726 (fun x130 _ => ?_)
            refine S_iload 0 dL_law_727 rfl ?_
            refine S_i2l dL_law_729 ?_
            refine S_lcmp dL_law_730 ?_
            refine S_if_eq 736 dL_law_731 (by decide) (fun c131 => ?_) (fun c131 => ?_)
            · refine S_goto 1561 dL_law_736 (by decide) ?_
              exact Sim.sub [2, 3, 4, 5, 6] rfl (hk16 h128)
            · refine S_iconst 0 dL_law_734 (by decide) ?_
              exact S_zreturn (b := false) rfl rfl dL_law_735
        · refine S_iconst 0 dL_law_717 (by decide) ?_
          exact S_zreturn (b := false) rfl rfl dL_law_718
      · refine S_aload_n 1 dL_law_739 rfl rfl ?_
        refine S_callV_IW (lev' := 184) (My := M_X5_longest) [] [] kc5 K_X5_longest kw_404 kw_405 kw_406 dL_law_740 (by decide) rfl (Nat.le_of_ble_eq_true rfl) (fun xx yy ee => sm_X5_longest hs u9 h xx yy ee) (fun x134 h135 _ => ?_)
        refine S_aload_n 2 dL_law_743 rfl rfl ?_
        refine S_callV_IW (lev' := 125) (My := M_X6_longest) [] [.int x134] kc6 K_X6_longest kw_1384 kw_1385 kw_1386 dL_law_744 (by decide) rfl (Nat.le_of_ble_eq_true rfl) (fun xx yy ee => sm_X6_longest hs u10 h135 xx yy ee) (fun x136 h137 _ => ?_)
        refine S_icmp_eq 1561 dL_law_747 (by decide) (fun c138 => ?_) (fun c138 => ?_)
        · exact Sim.sub [0, 1, 2, 3, 4] rfl (hk16 h137)
        · refine S_iconst 0 dL_law_750 (by decide) ?_
          exact S_zreturn (b := false) rfl rfl dL_law_751
      · refine S_aload_n 1 dL_law_752 rfl rfl ?_
        refine S_callV_IW (lev' := 184) (My := M_X5_shortest) [] [] kc5 K_X5_shortest kw_409 kw_410 kw_411 dL_law_753 (by decide) rfl (Nat.le_of_ble_eq_true rfl) (fun xx yy ee => sm_X5_shortest hs u9 h xx yy ee) (fun x139 h140 _ => ?_)
        refine S_aload_n 2 dL_law_756 rfl rfl ?_
        refine S_callV_IW (lev' := 125) (My := M_X6_shortest) [] [.int x139] kc6 K_X6_shortest kw_1388 kw_1389 kw_1390 dL_law_757 (by decide) rfl (Nat.le_of_ble_eq_true rfl) (fun xx yy ee => sm_X6_shortest hs u10 h140 xx yy ee) (fun x141 h142 _ => ?_)
        refine S_icmp_eq 1561 dL_law_760 (by decide) (fun c143 => ?_) (fun c143 => ?_)
        · exact Sim.sub [0, 1, 2, 3, 4] rfl (hk16 h142)
        · refine S_iconst 0 dL_law_763 (by decide) ?_
          exact S_zreturn (b := false) rfl rfl dL_law_764
      · refine S_aload_n 1 dL_law_765 rfl rfl ?_
        refine S_callV_FW (lev' := 184) (My := M_X5_meanValue) [] [] kc5 K_X5_meanValue kw_414 kw_415 kw_416 dL_law_766 (by decide) rfl (Nat.le_of_ble_eq_true rfl) (fun xx yy ee => sm_X5_meanValue hs u9 h xx yy ee) (fun x144 h145 _ => ?_)
        refine S_f2d dL_law_769 (fun x146 _ => ?_)
        refine S_dstore [(5, .double x146), (0, .retAddr 5000), (1, .ref u9), (2, .ref u10), (3, .ref u11), (4, .int w12)] dL_law_770 (Nat.le_of_ble_eq_true rfl) rfl ?_
        refine S_aload_n 3 dL_law_772 rfl rfl ?_
        refine S_callV_FW (lev' := 124) (My := M_X6_meanValue) [] [] kc6 K_X6_meanValue kw_1392 kw_1393 kw_1394 dL_law_773 (by decide) rfl (Nat.le_of_ble_eq_true rfl) (fun xx yy ee => sm_X6_meanValue hs u10 h145 xx yy ee) (fun x147 h148 _ => ?_)
        refine S_f2d dL_law_776 (fun x149 _ => ?_)
        refine S_dstore [(7, .double x149), (5, .double x146), (0, .retAddr 5000), (1, .ref u9), (2, .ref u10), (3, .ref u11), (4, .int w12)] dL_law_777 (Nat.le_of_ble_eq_true rfl) rfl ?_
        refine S_dload 1 dL_law_779 rfl ?_
        refine S_dload 0 dL_law_781 rfl ?_
        refine S_dcmp dL_law_783 ?_
        refine S_if_eq 805 dL_law_784 (by decide) (fun c152 => ?_) (fun c152 => ?_)
        · refine S_goto 1561 dL_law_805 (by decide) ?_
          exact Sim.sub [2, 3, 4, 5, 6] rfl (hk16 h148)
        · refine S_dload 1 dL_law_787 rfl ?_
          refine S_dload 1 dL_law_789 rfl ?_
          refine S_dcmp dL_law_791 ?_
          refine S_if_eq 803 dL_law_792 (by decide) (fun c151 => ?_) (fun c151 => ?_)
          · refine S_iconst 0 dL_law_803 (by decide) ?_
            exact S_zreturn (b := false) rfl rfl dL_law_804
          · refine S_dload 0 dL_law_795 rfl ?_
            refine S_dload 0 dL_law_797 rfl ?_
            refine S_dcmp dL_law_799 ?_
            refine S_if_ne 805 dL_law_800 (by decide) (fun c150 => ?_) (fun c150 => ?_)
            · refine S_goto 1561 dL_law_805 (by decide) ?_
              exact Sim.sub [2, 3, 4, 5, 6] rfl (hk16 h148)
            · refine S_iconst 0 dL_law_803 (by decide) ?_
              exact S_zreturn (b := false) rfl rfl dL_law_804
      · refine S_aload_n 1 dL_law_808 rfl rfl ?_
        refine S_sload_n 0 dL_law_809 rfl rfl ?_
        refine S_iload 4 dL_law_810 rfl ?_
        refine S_iconst 1 dL_law_812 (by decide) ?_
        refine S_iadd dL_law_813 ?_
        refine S_xld rfl dL_law_814 (fun x153 => ?_)
        refine S_aload_n 3 dL_law_815 rfl rfl ?_
        refine S_callSH (lev' := 187) (My := M_L_winningColours) [.ref u9, .int x153, .ref u11] [] K_L_winningColours kw_900 kw_901 dL_law_816 (by decide) rfl (Nat.le_of_ble_eq_true rfl) (fun xx yy ee => sm_L_winningColours hs u9 x153 u11 h xx yy ee) (fun x154 h155 _ => ?_)
        refine S_istore [(5, .int x154), (0, .retAddr 5000), (1, .ref u9), (2, .ref u10), (3, .ref u11), (4, .int w12)] dL_law_819 (Nat.le_of_ble_eq_true rfl) rfl ?_
        refine S_aload_n 3 dL_law_821 rfl rfl ?_
        refine S_sload_n 1 dL_law_822 rfl rfl ?_
        refine S_iload 5 dL_law_823 rfl ?_
        refine S_iconst 1 dL_law_825 (by decide) ?_
        refine S_iadd dL_law_826 ?_
        refine S_xld rfl dL_law_827 (fun x156 => ?_)
        refine S_callV_IW (lev' := 127) (My := M_X6_winningColours) [.int x156] [] kc6 K_X6_winningColours kw_1372 kw_1373 kw_1374 dL_law_828 (by decide) rfl (Nat.le_of_ble_eq_true rfl) (fun xx yy ee => sm_X6_winningColours hs u10 x156 h155 xx yy ee) (fun x157 h158 _ => ?_)
        refine S_istore [(6, .int x157), (5, .int x154), (0, .retAddr 5000), (1, .ref u9), (2, .ref u10), (3, .ref u11), (4, .int w12)] dL_law_831 (Nat.le_of_ble_eq_true rfl) rfl ?_
        refine S_aload_n 4 dL_law_833 rfl rfl ?_
        refine S_callV_IR (lev' := 0) (My := M_X6_thrown) [] [] kc6 K_X6_thrown kw_1108 kw_1109 kw_1110 dL_law_834 (by decide) rfl (Nat.le_of_ble_eq_true rfl) (fun xx ee => sm_X6_thrown hs u10 h158 xx ee) (fun x159 _ => ?_)
        refine S_iload 1 dL_law_837 rfl ?_
        refine S_icmp_eq 844 dL_law_839 (by decide) (fun c163 => ?_) (fun c163 => ?_)
        · refine S_iload 1 dL_law_844 rfl ?_
          refine S_if_ne 861 dL_law_846 (by decide) (fun c162 => ?_) (fun c162 => ?_)
          · refine S_goto 1561 dL_law_861 (by decide) ?_
            exact Sim.sub [2, 3, 4, 5, 6] rfl (hk16 h158)
          · refine S_aload_n 5 dL_law_849 rfl rfl ?_
            refine S_iconst 0 dL_law_850 (by decide) ?_
            refine S_laload dL_law_851 (fun x160 _ => ?_)
            refine S_iload 0 dL_law_852 rfl ?_
            refine S_i2l dL_law_854 ?_
            refine S_lcmp dL_law_855 ?_
            refine S_if_eq 861 dL_law_856 (by decide) (fun c161 => ?_) (fun c161 => ?_)
            · refine S_goto 1561 dL_law_861 (by decide) ?_
              exact Sim.sub [2, 3, 4, 5, 6] rfl (hk16 h158)
            · refine S_iconst 0 dL_law_859 (by decide) ?_
              exact S_zreturn (b := false) rfl rfl dL_law_860
        · refine S_iconst 0 dL_law_842 (by decide) ?_
          exact S_zreturn (b := false) rfl rfl dL_law_843
      · refine S_aload_n 1 dL_law_864 rfl rfl ?_
        refine S_sload_n 0 dL_law_865 rfl rfl ?_
        refine S_iload 4 dL_law_866 rfl ?_
        refine S_iconst 1 dL_law_868 (by decide) ?_
        refine S_iadd dL_law_869 ?_
        refine S_xld rfl dL_law_870 (fun x164 => ?_)
        refine S_aload_n 3 dL_law_871 rfl rfl ?_
        refine S_callSH (lev' := 4) (My := M_L_falls) [.ref u9, .int x164, .ref u11] [] K_L_falls kw_907 kw_908 dL_law_872 (by decide) rfl (Nat.le_of_ble_eq_true rfl) (fun xx yy ee => sm_L_falls hs u9 x164 u11 h xx yy ee) (fun x165 h166 _ => ?_)
        refine S_istore [(5, .int x165), (0, .retAddr 5000), (1, .ref u9), (2, .ref u10), (3, .ref u11), (4, .int w12)] dL_law_875 (Nat.le_of_ble_eq_true rfl) rfl ?_
        refine S_aload_n 3 dL_law_877 rfl rfl ?_
        refine S_sload_n 1 dL_law_878 rfl rfl ?_
        refine S_iload 5 dL_law_879 rfl ?_
        refine S_iconst 1 dL_law_881 (by decide) ?_
        refine S_iadd dL_law_882 ?_
        refine S_xld rfl dL_law_883 (fun x167 => ?_)
        refine S_callV_IW (lev' := 2) (My := M_X6_falls) [.int x167] [] kc6 K_X6_falls kw_1396 kw_1397 kw_1398 dL_law_884 (by decide) rfl (Nat.le_of_ble_eq_true rfl) (fun xx yy ee => sm_X6_falls hs u10 x167 h166 xx yy ee) (fun x168 h169 _ => ?_)
        refine S_istore [(6, .int x168), (5, .int x165), (0, .retAddr 5000), (1, .ref u9), (2, .ref u10), (3, .ref u11), (4, .int w12)] dL_law_887 (Nat.le_of_ble_eq_true rfl) rfl ?_
        refine S_aload_n 4 dL_law_889 rfl rfl ?_
        refine S_callV_IR (lev' := 0) (My := M_X6_thrown) [] [] kc6 K_X6_thrown kw_1108 kw_1109 kw_1110 dL_law_890 (by decide) rfl (Nat.le_of_ble_eq_true rfl) (fun xx ee => sm_X6_thrown hs u10 h169 xx ee) (fun x170 _ => ?_)
        refine S_iload 1 dL_law_893 rfl ?_
        refine S_icmp_eq 900 dL_law_895 (by decide) (fun c174 => ?_) (fun c174 => ?_)
        · refine S_iload 1 dL_law_900 rfl ?_
          refine S_if_ne 917 dL_law_902 (by decide) (fun c173 => ?_) (fun c173 => ?_)
          · refine S_goto 1561 dL_law_917 (by decide) ?_
            exact Sim.sub [2, 3, 4, 5, 6] rfl (hk16 h169)
          · refine S_aload_n 5 dL_law_905 rfl rfl ?_
            refine S_iconst 0 dL_law_906 (by decide) ?_
            refine S_laload dL_law_907 (fun x171 _ => ?_)
            refine S_iload 0 dL_law_908 rfl ?_
            refine S_i2l dL_law_910 ?_
            refine S_lcmp dL_law_911 ?_
            refine S_if_eq 917 dL_law_912 (by decide) (fun c172 => ?_) (fun c172 => ?_)
            · refine S_goto 1561 dL_law_917 (by decide) ?_
              exact Sim.sub [2, 3, 4, 5, 6] rfl (hk16 h169)
            · refine S_iconst 0 dL_law_915 (by decide) ?_
              exact S_zreturn (b := false) rfl rfl dL_law_916
        · refine S_iconst 0 dL_law_898 (by decide) ?_
          exact S_zreturn (b := false) rfl rfl dL_law_899
      · refine S_aload_n 1 dL_law_920 rfl rfl ?_
        refine S_sload_n 0 dL_law_921 rfl rfl ?_
        refine S_iload 4 dL_law_922 rfl ?_
        refine S_iconst 1 dL_law_924 (by decide) ?_
        refine S_iadd dL_law_925 ?_
        refine S_xld rfl dL_law_926 (fun x175 => ?_)
        refine S_aload_n 3 dL_law_927 rfl rfl ?_
        refine S_callSH (lev' := 186) (My := M_L_valueWithout) [.ref u9, .int x175, .ref u11] [] K_L_valueWithout kw_916 kw_917 dL_law_928 (by decide) rfl (Nat.le_of_ble_eq_true rfl) (fun xx yy ee => sm_L_valueWithout hs u9 x175 u11 h xx yy ee) (fun x176 h177 _ => ?_)
        refine S_istore [(5, .int x176), (0, .retAddr 5000), (1, .ref u9), (2, .ref u10), (3, .ref u11), (4, .int w12)] dL_law_931 (Nat.le_of_ble_eq_true rfl) rfl ?_
        refine S_aload_n 3 dL_law_933 rfl rfl ?_
        refine S_sload_n 1 dL_law_934 rfl rfl ?_
        refine S_iload 5 dL_law_935 rfl ?_
        refine S_iconst 1 dL_law_937 (by decide) ?_
        refine S_iadd dL_law_938 ?_
        refine S_xld rfl dL_law_939 (fun x178 => ?_)
        refine S_callV_IW (lev' := 126) (My := M_X6_valueWithout) [.int x178] [] kc6 K_X6_valueWithout kw_1400 kw_1401 kw_1402 dL_law_940 (by decide) rfl (Nat.le_of_ble_eq_true rfl) (fun xx yy ee => sm_X6_valueWithout hs u10 x178 h177 xx yy ee) (fun x179 h180 _ => ?_)
        refine S_istore [(6, .int x179), (5, .int x176), (0, .retAddr 5000), (1, .ref u9), (2, .ref u10), (3, .ref u11), (4, .int w12)] dL_law_943 (Nat.le_of_ble_eq_true rfl) rfl ?_
        refine S_aload_n 4 dL_law_945 rfl rfl ?_
        refine S_callV_IR (lev' := 0) (My := M_X6_thrown) [] [] kc6 K_X6_thrown kw_1108 kw_1109 kw_1110 dL_law_946 (by decide) rfl (Nat.le_of_ble_eq_true rfl) (fun xx ee => sm_X6_thrown hs u10 h180 xx ee) (fun x181 _ => ?_)
        refine S_iload 1 dL_law_949 rfl ?_
        refine S_icmp_eq 956 dL_law_951 (by decide) (fun c185 => ?_) (fun c185 => ?_)
        · refine S_iload 1 dL_law_956 rfl ?_
          refine S_if_ne 973 dL_law_958 (by decide) (fun c184 => ?_) (fun c184 => ?_)
          · refine S_goto 1561 dL_law_973 (by decide) ?_
            exact Sim.sub [2, 3, 4, 5, 6] rfl (hk16 h180)
          · refine S_aload_n 5 dL_law_961 rfl rfl ?_
            refine S_iconst 0 dL_law_962 (by decide) ?_
            refine S_laload dL_law_963 (fun x182 _ => ?_)
            refine S_iload 0 dL_law_964 rfl ?_
            refine S_i2l dL_law_966 ?_
            refine S_lcmp dL_law_967 ?_
            refine S_if_eq 973 dL_law_968 (by decide) (fun c183 => ?_) (fun c183 => ?_)
            · refine S_goto 1561 dL_law_973 (by decide) ?_
              exact Sim.sub [2, 3, 4, 5, 6] rfl (hk16 h180)
            · refine S_iconst 0 dL_law_971 (by decide) ?_
              exact S_zreturn (b := false) rfl rfl dL_law_972
        · refine S_iconst 0 dL_law_954 (by decide) ?_
          exact S_zreturn (b := false) rfl rfl dL_law_955
      · refine S_aload_n 1 dL_law_976 rfl rfl ?_
        refine S_sload_n 0 dL_law_977 rfl rfl ?_
        refine S_iload 4 dL_law_978 rfl ?_
        refine S_iconst 1 dL_law_980 (by decide) ?_
        refine S_iadd dL_law_981 ?_
        refine S_xld rfl dL_law_982 (fun x186 => ?_)
        refine S_sload_n 0 dL_law_983 rfl rfl ?_
        refine S_iload 4 dL_law_984 rfl ?_
        refine S_iconst 2 dL_law_986 (by decide) ?_
        refine S_iadd dL_law_987 ?_
        refine S_xld rfl dL_law_988 (fun x187 => ?_)
        refine S_aload_n 3 dL_law_989 rfl rfl ?_
        refine S_callSH (lev' := 5) (My := M_L_lay) [.ref u9, .int x186, .int x187, .ref u11] [] K_L_lay kw_927 kw_928 dL_law_990 (by decide) rfl (Nat.le_of_ble_eq_true rfl) (fun xx yy ee => sm_L_lay hs u9 x186 x187 u11 h xx yy ee) (fun x188 h189 _ => ?_)
        refine S_istore [(5, .int x188), (0, .retAddr 5000), (1, .ref u9), (2, .ref u10), (3, .ref u11), (4, .int w12)] dL_law_993 (Nat.le_of_ble_eq_true rfl) rfl ?_
        refine S_aload_n 3 dL_law_995 rfl rfl ?_
        refine S_sload_n 1 dL_law_996 rfl rfl ?_
        refine S_iload 5 dL_law_997 rfl ?_
        refine S_iconst 1 dL_law_999 (by decide) ?_
        refine S_iadd dL_law_1000 ?_
        refine S_xld rfl dL_law_1001 (fun x190 => ?_)
        refine S_sload_n 1 dL_law_1002 rfl rfl ?_
        refine S_iload 5 dL_law_1003 rfl ?_
        refine S_iconst 2 dL_law_1005 (by decide) ?_
        refine S_iadd dL_law_1006 ?_
        refine S_xld rfl dL_law_1007 (fun x191 => ?_)
        refine S_callV_IW (lev' := 5) (My := M_X6_lay) [.int x190, .int x191] [] kc6 K_X6_lay kw_1404 kw_1405 kw_1406 dL_law_1008 (by decide) rfl (Nat.le_of_ble_eq_true rfl) (fun xx yy ee => sm_X6_lay hs u10 x190 x191 h189 xx yy ee) (fun x192 h193 _ => ?_)
        refine S_istore [(6, .int x192), (5, .int x188), (0, .retAddr 5000), (1, .ref u9), (2, .ref u10), (3, .ref u11), (4, .int w12)] dL_law_1011 (Nat.le_of_ble_eq_true rfl) rfl ?_
        refine S_aload_n 4 dL_law_1013 rfl rfl ?_
        refine S_callV_IR (lev' := 0) (My := M_X6_thrown) [] [] kc6 K_X6_thrown kw_1108 kw_1109 kw_1110 dL_law_1014 (by decide) rfl (Nat.le_of_ble_eq_true rfl) (fun xx ee => sm_X6_thrown hs u10 h193 xx ee) (fun x194 _ => ?_)
        refine S_iload 1 dL_law_1017 rfl ?_
        refine S_icmp_eq 1024 dL_law_1019 (by decide) (fun c198 => ?_) (fun c198 => ?_)
        · refine S_iload 1 dL_law_1024 rfl ?_
          refine S_if_ne 1041 dL_law_1026 (by decide) (fun c197 => ?_) (fun c197 => ?_)
          · refine S_goto 1561 dL_law_1041 (by decide) ?_
            exact Sim.sub [2, 3, 4, 5, 6] rfl (hk16 h193)
          · refine S_aload_n 5 dL_law_1029 rfl rfl ?_
            refine S_iconst 0 dL_law_1030 (by decide) ?_
            refine S_laload dL_law_1031 (fun x195 _ => ?_)
            refine S_iload 0 dL_law_1032 rfl ?_
            refine S_i2l dL_law_1034 ?_
            refine S_lcmp dL_law_1035 ?_
            refine S_if_eq 1041 dL_law_1036 (by decide) (fun c196 => ?_) (fun c196 => ?_)
            · refine S_goto 1561 dL_law_1041 (by decide) ?_
              exact Sim.sub [2, 3, 4, 5, 6] rfl (hk16 h193)
            · refine S_iconst 0 dL_law_1039 (by decide) ?_
              exact S_zreturn (b := false) rfl rfl dL_law_1040
        · refine S_iconst 0 dL_law_1022 (by decide) ?_
          exact S_zreturn (b := false) rfl rfl dL_law_1023
      · refine S_aload_n 1 dL_law_1044 rfl rfl ?_
        refine S_aload_n 3 dL_law_1045 rfl rfl ?_
        refine S_callSH (lev' := 5) (My := M_L_pass) [.ref u9, .ref u11] [] K_L_pass kw_935 kw_936 dL_law_1046 (by decide) rfl (Nat.le_of_ble_eq_true rfl) (fun xx yy ee => sm_L_pass hs u9 u11 h xx yy ee) (fun x199 h200 _ => ?_)
        refine S_istore [(5, .int x199), (0, .retAddr 5000), (1, .ref u9), (2, .ref u10), (3, .ref u11), (4, .int w12)] dL_law_1049 (Nat.le_of_ble_eq_true rfl) rfl ?_
        refine S_aload_n 3 dL_law_1051 rfl rfl ?_
        refine S_callV_IW (lev' := 4) (My := M_X6_pass) [] [] kc6 K_X6_pass kw_1408 kw_1409 kw_1410 dL_law_1052 (by decide) rfl (Nat.le_of_ble_eq_true rfl) (fun xx yy ee => sm_X6_pass hs u10 h200 xx yy ee) (fun x201 h202 _ => ?_)
        refine S_istore [(6, .int x201), (5, .int x199), (0, .retAddr 5000), (1, .ref u9), (2, .ref u10), (3, .ref u11), (4, .int w12)] dL_law_1055 (Nat.le_of_ble_eq_true rfl) rfl ?_
        refine S_aload_n 4 dL_law_1057 rfl rfl ?_
        refine S_callV_IR (lev' := 0) (My := M_X6_thrown) [] [] kc6 K_X6_thrown kw_1108 kw_1109 kw_1110 dL_law_1058 (by decide) rfl (Nat.le_of_ble_eq_true rfl) (fun xx ee => sm_X6_thrown hs u10 h202 xx ee) (fun x203 _ => ?_)
        refine S_iload 1 dL_law_1061 rfl ?_
        refine S_icmp_eq 1068 dL_law_1063 (by decide) (fun c207 => ?_) (fun c207 => ?_)
        · refine S_iload 1 dL_law_1068 rfl ?_
          refine S_if_ne 1085 dL_law_1070 (by decide) (fun c206 => ?_) (fun c206 => ?_)
          · refine S_goto 1561 dL_law_1085 (by decide) ?_
            exact Sim.sub [2, 3, 4, 5, 6] rfl (hk16 h202)
          · refine S_aload_n 5 dL_law_1073 rfl rfl ?_
            refine S_iconst 0 dL_law_1074 (by decide) ?_
            refine S_laload dL_law_1075 (fun x204 _ => ?_)
            refine S_iload 0 dL_law_1076 rfl ?_
            refine S_i2l dL_law_1078 ?_
            refine S_lcmp dL_law_1079 ?_
            refine S_if_eq 1085 dL_law_1080 (by decide) (fun c205 => ?_) (fun c205 => ?_)
            · refine S_goto 1561 dL_law_1085 (by decide) ?_
              exact Sim.sub [2, 3, 4, 5, 6] rfl (hk16 h202)
            · refine S_iconst 0 dL_law_1083 (by decide) ?_
              exact S_zreturn (b := false) rfl rfl dL_law_1084
        · refine S_iconst 0 dL_law_1066 (by decide) ?_
          exact S_zreturn (b := false) rfl rfl dL_law_1067
      · refine S_aload_n 1 dL_law_1088 rfl rfl ?_
        refine S_sload_n 0 dL_law_1089 rfl rfl ?_
        refine S_iload 4 dL_law_1090 rfl ?_
        refine S_iconst 1 dL_law_1092 (by decide) ?_
        refine S_iadd dL_law_1093 ?_
        refine S_xld rfl dL_law_1094 (fun x208 => ?_)
        refine S_aload_n 3 dL_law_1095 rfl rfl ?_
        refine S_callSH (lev' := 187) (My := M_L_playOut) [.ref u9, .int x208, .ref u11] [] K_L_playOut kw_944 kw_945 dL_law_1096 (by decide) rfl (Nat.le_of_ble_eq_true rfl) (fun xx yy ee => sm_L_playOut hs u9 x208 u11 h xx yy ee) (fun x209 h210 _ => ?_)
        refine S_istore [(5, .int x209), (0, .retAddr 5000), (1, .ref u9), (2, .ref u10), (3, .ref u11), (4, .int w12)] dL_law_1099 (Nat.le_of_ble_eq_true rfl) rfl ?_
        refine S_aload_n 3 dL_law_1101 rfl rfl ?_
        refine S_sload_n 1 dL_law_1102 rfl rfl ?_
        refine S_iload 5 dL_law_1103 rfl ?_
        refine S_iconst 1 dL_law_1105 (by decide) ?_
        refine S_iadd dL_law_1106 ?_
        refine S_xld rfl dL_law_1107 (fun x211 => ?_)
        refine S_callV_IW (lev' := 128) (My := M_X6_playOut) [.int x211] [] kc6 K_X6_playOut kw_1412 kw_1413 kw_1414 dL_law_1108 (by decide) rfl (Nat.le_of_ble_eq_true rfl) (fun xx yy ee => sm_X6_playOut hs u10 x211 h210 xx yy ee) (fun x212 h213 _ => ?_)
        refine S_istore [(6, .int x212), (5, .int x209), (0, .retAddr 5000), (1, .ref u9), (2, .ref u10), (3, .ref u11), (4, .int w12)] dL_law_1111 (Nat.le_of_ble_eq_true rfl) rfl ?_
        refine S_aload_n 4 dL_law_1113 rfl rfl ?_
        refine S_callV_IR (lev' := 0) (My := M_X6_thrown) [] [] kc6 K_X6_thrown kw_1108 kw_1109 kw_1110 dL_law_1114 (by decide) rfl (Nat.le_of_ble_eq_true rfl) (fun xx ee => sm_X6_thrown hs u10 h213 xx ee) (fun x214 _ => ?_)
        refine S_iload 1 dL_law_1117 rfl ?_
        refine S_icmp_eq 1124 dL_law_1119 (by decide) (fun c218 => ?_) (fun c218 => ?_)
        · refine S_iload 1 dL_law_1124 rfl ?_
          refine S_if_ne 1141 dL_law_1126 (by decide) (fun c217 => ?_) (fun c217 => ?_)
          · refine S_goto 1561 dL_law_1141 (by decide) ?_
            exact Sim.sub [2, 3, 4, 5, 6] rfl (hk16 h213)
          · refine S_aload_n 5 dL_law_1129 rfl rfl ?_
            refine S_iconst 0 dL_law_1130 (by decide) ?_
            refine S_laload dL_law_1131 (fun x215 _ => ?_)
            refine S_iload 0 dL_law_1132 rfl ?_
            refine S_i2l dL_law_1134 ?_
            refine S_lcmp dL_law_1135 ?_
            refine S_if_eq 1141 dL_law_1136 (by decide) (fun c216 => ?_) (fun c216 => ?_)
            · refine S_goto 1561 dL_law_1141 (by decide) ?_
              exact Sim.sub [2, 3, 4, 5, 6] rfl (hk16 h213)
            · refine S_iconst 0 dL_law_1139 (by decide) ?_
              exact S_zreturn (b := false) rfl rfl dL_law_1140
        · refine S_iconst 0 dL_law_1122 (by decide) ?_
          exact S_zreturn (b := false) rfl rfl dL_law_1123
      · refine S_aload_n 1 dL_law_1144 rfl rfl ?_
        refine S_sload_n 0 dL_law_1145 rfl rfl ?_
        refine S_iload 4 dL_law_1146 rfl ?_
        refine S_iconst 1 dL_law_1148 (by decide) ?_
        refine S_iadd dL_law_1149 ?_
        refine S_xld rfl dL_law_1150 (fun x219 => ?_)
        refine S_aload_n 3 dL_law_1151 rfl rfl ?_
        refine S_callSH (lev' := 5) (My := M_L_setPasses) [.ref u9, .int x219, .ref u11] [] K_L_setPasses kw_952 kw_953 dL_law_1152 (by decide) rfl (Nat.le_of_ble_eq_true rfl) (fun xx yy ee => sm_L_setPasses hs u9 x219 u11 h xx yy ee) (fun x220 h221 _ => ?_)
        refine S_istore [(5, .int x220), (0, .retAddr 5000), (1, .ref u9), (2, .ref u10), (3, .ref u11), (4, .int w12)] dL_law_1155 (Nat.le_of_ble_eq_true rfl) rfl ?_
        refine S_aload_n 3 dL_law_1157 rfl rfl ?_
        refine S_sload_n 1 dL_law_1158 rfl rfl ?_
        refine S_iload 5 dL_law_1159 rfl ?_
        refine S_iconst 1 dL_law_1161 (by decide) ?_
        refine S_iadd dL_law_1162 ?_
        refine S_xld rfl dL_law_1163 (fun x222 => ?_)
        refine S_callV_IW (lev' := 2) (My := M_X6_setPasses) [.int x222] [] kc6 K_X6_setPasses kw_1416 kw_1417 kw_1418 dL_law_1164 (by decide) rfl (Nat.le_of_ble_eq_true rfl) (fun xx yy ee => sm_X6_setPasses hs u10 x222 h221 xx yy ee) (fun x223 h224 _ => ?_)
        refine S_istore [(6, .int x223), (5, .int x220), (0, .retAddr 5000), (1, .ref u9), (2, .ref u10), (3, .ref u11), (4, .int w12)] dL_law_1167 (Nat.le_of_ble_eq_true rfl) rfl ?_
        refine S_aload_n 4 dL_law_1169 rfl rfl ?_
        refine S_callV_IR (lev' := 0) (My := M_X6_thrown) [] [] kc6 K_X6_thrown kw_1108 kw_1109 kw_1110 dL_law_1170 (by decide) rfl (Nat.le_of_ble_eq_true rfl) (fun xx ee => sm_X6_thrown hs u10 h224 xx ee) (fun x225 _ => ?_)
        refine S_iload 1 dL_law_1173 rfl ?_
        refine S_icmp_eq 1180 dL_law_1175 (by decide) (fun c229 => ?_) (fun c229 => ?_)
        · refine S_iload 1 dL_law_1180 rfl ?_
          refine S_if_ne 1197 dL_law_1182 (by decide) (fun c228 => ?_) (fun c228 => ?_)
          · refine S_goto 1561 dL_law_1197 (by decide) ?_
            exact Sim.sub [2, 3, 4, 5, 6] rfl (hk16 h224)
          · refine S_aload_n 5 dL_law_1185 rfl rfl ?_
            refine S_iconst 0 dL_law_1186 (by decide) ?_
            refine S_laload dL_law_1187 (fun x226 _ => ?_)
            refine S_iload 0 dL_law_1188 rfl ?_
            refine S_i2l dL_law_1190 ?_
            refine S_lcmp dL_law_1191 ?_
            refine S_if_eq 1197 dL_law_1192 (by decide) (fun c227 => ?_) (fun c227 => ?_)
            · refine S_goto 1561 dL_law_1197 (by decide) ?_
              exact Sim.sub [2, 3, 4, 5, 6] rfl (hk16 h224)
            · refine S_iconst 0 dL_law_1195 (by decide) ?_
              exact S_zreturn (b := false) rfl rfl dL_law_1196
        · refine S_iconst 0 dL_law_1178 (by decide) ?_
          exact S_zreturn (b := false) rfl rfl dL_law_1179
      · refine S_aload_n 1 dL_law_1200 rfl rfl ?_
        refine S_sload_n 0 dL_law_1201 rfl rfl ?_
        refine S_iload 4 dL_law_1202 rfl ?_
        refine S_iconst 1 dL_law_1204 (by decide) ?_
        refine S_iadd dL_law_1205 ?_
        refine S_xld rfl dL_law_1206 (fun x230 => ?_)
        refine S_sload_n 0 dL_law_1207 rfl rfl ?_
        refine S_iload 4 dL_law_1208 rfl ?_
        refine S_iconst 2 dL_law_1210 (by decide) ?_
        refine S_iadd dL_law_1211 ?_
        refine S_xld rfl dL_law_1212 (fun x231 => ?_)
        refine S_aload_n 3 dL_law_1213 rfl rfl ?_
        refine S_callSH (lev' := 2) (My := M_L_move) [.ref u9, .int x230, .int x231, .ref u11] [] K_L_move kw_960 kw_961 dL_law_1214 (by decide) rfl (Nat.le_of_ble_eq_true rfl) (fun xx yy ee => sm_L_move hs u9 x230 x231 u11 h xx yy ee) (fun x232 h233 _ => ?_)
        refine S_istore [(5, .int x232), (0, .retAddr 5000), (1, .ref u9), (2, .ref u10), (3, .ref u11), (4, .int w12)] dL_law_1217 (Nat.le_of_ble_eq_true rfl) rfl ?_
        refine S_aload_n 3 dL_law_1219 rfl rfl ?_
        refine S_sload_n 1 dL_law_1220 rfl rfl ?_
        refine S_iload 5 dL_law_1221 rfl ?_
        refine S_iconst 1 dL_law_1223 (by decide) ?_
        refine S_iadd dL_law_1224 ?_
        refine S_xld rfl dL_law_1225 (fun x234 => ?_)
        refine S_sload_n 1 dL_law_1226 rfl rfl ?_
        refine S_iload 5 dL_law_1227 rfl ?_
        refine S_iconst 2 dL_law_1229 (by decide) ?_
        refine S_iadd dL_law_1230 ?_
        refine S_xld rfl dL_law_1231 (fun x235 => ?_)
        refine S_callV_IW (lev' := 1) (My := M_X6_move) [.int x234, .int x235] [] kc6 K_X6_move kw_1420 kw_1421 kw_1422 dL_law_1232 (by decide) rfl (Nat.le_of_ble_eq_true rfl) (fun xx yy ee => sm_X6_move hs u10 x234 x235 h233 xx yy ee) (fun x236 h237 _ => ?_)
        refine S_istore [(6, .int x236), (5, .int x232), (0, .retAddr 5000), (1, .ref u9), (2, .ref u10), (3, .ref u11), (4, .int w12)] dL_law_1235 (Nat.le_of_ble_eq_true rfl) rfl ?_
        refine S_aload_n 4 dL_law_1237 rfl rfl ?_
        refine S_callV_IR (lev' := 0) (My := M_X6_thrown) [] [] kc6 K_X6_thrown kw_1108 kw_1109 kw_1110 dL_law_1238 (by decide) rfl (Nat.le_of_ble_eq_true rfl) (fun xx ee => sm_X6_thrown hs u10 h237 xx ee) (fun x238 _ => ?_)
        refine S_iload 1 dL_law_1241 rfl ?_
        refine S_icmp_eq 1248 dL_law_1243 (by decide) (fun c242 => ?_) (fun c242 => ?_)
        · refine S_iload 1 dL_law_1248 rfl ?_
          refine S_if_ne 1265 dL_law_1250 (by decide) (fun c241 => ?_) (fun c241 => ?_)
          · refine S_goto 1561 dL_law_1265 (by decide) ?_
            exact Sim.sub [2, 3, 4, 5, 6] rfl (hk16 h237)
          · refine S_aload_n 5 dL_law_1253 rfl rfl ?_
            refine S_iconst 0 dL_law_1254 (by decide) ?_
            refine S_laload dL_law_1255 (fun x239 _ => ?_)
            refine S_iload 0 dL_law_1256 rfl ?_
            refine S_i2l dL_law_1258 ?_
            refine S_lcmp dL_law_1259 ?_
            refine S_if_eq 1265 dL_law_1260 (by decide) (fun c240 => ?_) (fun c240 => ?_)
            · refine S_goto 1561 dL_law_1265 (by decide) ?_
              exact Sim.sub [2, 3, 4, 5, 6] rfl (hk16 h237)
            · refine S_iconst 0 dL_law_1263 (by decide) ?_
              exact S_zreturn (b := false) rfl rfl dL_law_1264
        · refine S_iconst 0 dL_law_1246 (by decide) ?_
          exact S_zreturn (b := false) rfl rfl dL_law_1247
      · refine S_aload_n 1 dL_law_1268 rfl rfl ?_
        refine S_sload_n 0 dL_law_1269 rfl rfl ?_
        refine S_iload 4 dL_law_1270 rfl ?_
        refine S_iconst 1 dL_law_1272 (by decide) ?_
        refine S_iadd dL_law_1273 ?_
        refine S_xld rfl dL_law_1274 (fun x243 => ?_)
        refine S_sload_n 0 dL_law_1275 rfl rfl ?_
        refine S_iload 4 dL_law_1276 rfl ?_
        refine S_iconst 2 dL_law_1278 (by decide) ?_
        refine S_iadd dL_law_1279 ?_
        refine S_xld rfl dL_law_1280 (fun x244 => ?_)
        refine S_aload_n 3 dL_law_1281 rfl rfl ?_
        refine S_callSH (lev' := 3) (My := M_L_account) [.ref u9, .int x243, .int x244, .ref u11] [] K_L_account kw_973 kw_974 dL_law_1282 (by decide) rfl (Nat.le_of_ble_eq_true rfl) (fun xx yy ee => sm_L_account hs u9 x243 x244 u11 h xx yy ee) (fun x245 h246 _ => ?_)
        refine S_istore [(5, .int x245), (0, .retAddr 5000), (1, .ref u9), (2, .ref u10), (3, .ref u11), (4, .int w12)] dL_law_1285 (Nat.le_of_ble_eq_true rfl) rfl ?_
        refine S_aload_n 3 dL_law_1287 rfl rfl ?_
        refine S_sload_n 1 dL_law_1288 rfl rfl ?_
        refine S_iload 5 dL_law_1289 rfl ?_
        refine S_iconst 1 dL_law_1291 (by decide) ?_
        refine S_iadd dL_law_1292 ?_
        refine S_xld rfl dL_law_1293 (fun x247 => ?_)
        refine S_sload_n 1 dL_law_1294 rfl rfl ?_
        refine S_iload 5 dL_law_1295 rfl ?_
        refine S_iconst 2 dL_law_1297 (by decide) ?_
        refine S_iadd dL_law_1298 ?_
        refine S_xld rfl dL_law_1299 (fun x248 => ?_)
        refine S_callV_IW (lev' := 2) (My := M_X6_account) [.int x247, .int x248] [] kc6 K_X6_account kw_1428 kw_1429 kw_1430 dL_law_1300 (by decide) rfl (Nat.le_of_ble_eq_true rfl) (fun xx yy ee => sm_X6_account hs u10 x247 x248 h246 xx yy ee) (fun x249 h250 _ => ?_)
        refine S_istore [(6, .int x249), (5, .int x245), (0, .retAddr 5000), (1, .ref u9), (2, .ref u10), (3, .ref u11), (4, .int w12)] dL_law_1303 (Nat.le_of_ble_eq_true rfl) rfl ?_
        refine S_aload_n 4 dL_law_1305 rfl rfl ?_
        refine S_callV_IR (lev' := 0) (My := M_X6_thrown) [] [] kc6 K_X6_thrown kw_1108 kw_1109 kw_1110 dL_law_1306 (by decide) rfl (Nat.le_of_ble_eq_true rfl) (fun xx ee => sm_X6_thrown hs u10 h250 xx ee) (fun x251 _ => ?_)
        refine S_iload 1 dL_law_1309 rfl ?_
        refine S_icmp_eq 1316 dL_law_1311 (by decide) (fun c255 => ?_) (fun c255 => ?_)
        · refine S_iload 1 dL_law_1316 rfl ?_
          refine S_if_ne 1333 dL_law_1318 (by decide) (fun c254 => ?_) (fun c254 => ?_)
          · refine S_goto 1561 dL_law_1333 (by decide) ?_
            exact Sim.sub [2, 3, 4, 5, 6] rfl (hk16 h250)
          · refine S_aload_n 5 dL_law_1321 rfl rfl ?_
            refine S_iconst 0 dL_law_1322 (by decide) ?_
            refine S_laload dL_law_1323 (fun x252 _ => ?_)
            refine S_iload 0 dL_law_1324 rfl ?_
            refine S_i2l dL_law_1326 ?_
            refine S_lcmp dL_law_1327 ?_
            refine S_if_eq 1333 dL_law_1328 (by decide) (fun c253 => ?_) (fun c253 => ?_)
            · refine S_goto 1561 dL_law_1333 (by decide) ?_
              exact Sim.sub [2, 3, 4, 5, 6] rfl (hk16 h250)
            · refine S_iconst 0 dL_law_1331 (by decide) ?_
              exact S_zreturn (b := false) rfl rfl dL_law_1332
        · refine S_iconst 0 dL_law_1314 (by decide) ?_
          exact S_zreturn (b := false) rfl rfl dL_law_1315
      · refine S_aload_n 1 dL_law_1336 rfl rfl ?_
        refine S_callV_IW (lev' := 3) (My := M_X5_writeBoard) [] [] kc5 K_X5_writeBoard kw_426 kw_427 kw_428 dL_law_1337 (by decide) rfl (Nat.le_of_ble_eq_true rfl) (fun xx yy ee => sm_X5_writeBoard hs u9 h xx yy ee) (fun x256 h257 _ => ?_)
        refine S_aload_n 2 dL_law_1340 rfl rfl ?_
        refine S_callV_IW (lev' := 1) (My := M_X6_writeBoard) [] [.int x256] kc6 K_X6_writeBoard kw_1436 kw_1437 kw_1438 dL_law_1341 (by decide) rfl (Nat.le_of_ble_eq_true rfl) (fun xx yy ee => sm_X6_writeBoard hs u10 h257 xx yy ee) (fun x258 h259 _ => ?_)
        refine S_icmp_eq 1561 dL_law_1344 (by decide) (fun c260 => ?_) (fun c260 => ?_)
        · exact Sim.sub [0, 1, 2, 3, 4] rfl (hk16 h259)
        · refine S_iconst 0 dL_law_1347 (by decide) ?_
          exact S_zreturn (b := false) rfl rfl dL_law_1348
      · refine S_aload_n 1 dL_law_1349 rfl rfl ?_
        refine S_sload_n 0 dL_law_1350 rfl rfl ?_
        refine S_iload 4 dL_law_1351 rfl ?_
        refine S_iconst 1 dL_law_1353 (by decide) ?_
        refine S_iadd dL_law_1354 ?_
        refine S_xld rfl dL_law_1355 (fun x261 => ?_)
        refine S_aload_n 3 dL_law_1356 rfl rfl ?_
        refine S_callSH (lev' := 1) (My := M_L_writtenByte) [.ref u9, .int x261, .ref u11] [] K_L_writtenByte kw_994 kw_995 dL_law_1357 (by decide) rfl (Nat.le_of_ble_eq_true rfl) (fun xx yy ee => sm_L_writtenByte hs u9 x261 u11 h xx yy ee) (fun x262 h263 _ => ?_)
        refine S_istore [(5, .int x262), (0, .retAddr 5000), (1, .ref u9), (2, .ref u10), (3, .ref u11), (4, .int w12)] dL_law_1360 (Nat.le_of_ble_eq_true rfl) rfl ?_
        refine S_aload_n 3 dL_law_1362 rfl rfl ?_
        refine S_sload_n 1 dL_law_1363 rfl rfl ?_
        refine S_iload 5 dL_law_1364 rfl ?_
        refine S_iconst 1 dL_law_1366 (by decide) ?_
        refine S_iadd dL_law_1367 ?_
        refine S_xld rfl dL_law_1368 (fun x264 => ?_)
        refine S_callV_IW (lev' := 1) (My := M_X6_writtenByte) [.int x264] [] kc6 K_X6_writtenByte kw_1444 kw_1445 kw_1446 dL_law_1369 (by decide) rfl (Nat.le_of_ble_eq_true rfl) (fun xx yy ee => sm_X6_writtenByte hs u10 x264 h263 xx yy ee) (fun x265 h266 _ => ?_)
        refine S_istore [(6, .int x265), (5, .int x262), (0, .retAddr 5000), (1, .ref u9), (2, .ref u10), (3, .ref u11), (4, .int w12)] dL_law_1372 (Nat.le_of_ble_eq_true rfl) rfl ?_
        refine S_aload_n 4 dL_law_1374 rfl rfl ?_
        refine S_callV_IR (lev' := 0) (My := M_X6_thrown) [] [] kc6 K_X6_thrown kw_1108 kw_1109 kw_1110 dL_law_1375 (by decide) rfl (Nat.le_of_ble_eq_true rfl) (fun xx ee => sm_X6_thrown hs u10 h266 xx ee) (fun x267 _ => ?_)
        refine S_iload 1 dL_law_1378 rfl ?_
        refine S_icmp_eq 1385 dL_law_1380 (by decide) (fun c271 => ?_) (fun c271 => ?_)
        · refine S_iload 1 dL_law_1385 rfl ?_
          refine S_if_ne 1402 dL_law_1387 (by decide) (fun c270 => ?_) (fun c270 => ?_)
          · refine S_goto 1561 dL_law_1402 (by decide) ?_
            exact Sim.sub [2, 3, 4, 5, 6] rfl (hk16 h266)
          · refine S_aload_n 5 dL_law_1390 rfl rfl ?_
            refine S_iconst 0 dL_law_1391 (by decide) ?_
            refine S_laload dL_law_1392 (fun x268 _ => ?_)
            refine S_iload 0 dL_law_1393 rfl ?_
            refine S_i2l dL_law_1395 ?_
            refine S_lcmp dL_law_1396 ?_
            refine S_if_eq 1402 dL_law_1397 (by decide) (fun c269 => ?_) (fun c269 => ?_)
            · refine S_goto 1561 dL_law_1402 (by decide) ?_
              exact Sim.sub [2, 3, 4, 5, 6] rfl (hk16 h266)
            · refine S_iconst 0 dL_law_1400 (by decide) ?_
              exact S_zreturn (b := false) rfl rfl dL_law_1401
        · refine S_iconst 0 dL_law_1383 (by decide) ?_
          exact S_zreturn (b := false) rfl rfl dL_law_1384
      · refine S_aload_n 1 dL_law_1405 rfl rfl ?_
        refine S_aload_n 3 dL_law_1406 rfl rfl ?_
        refine S_callSH (lev' := 4) (My := M_L_undo) [.ref u9, .ref u11] [] K_L_undo kw_1002 kw_1003 dL_law_1407 (by decide) rfl (Nat.le_of_ble_eq_true rfl) (fun xx yy ee => sm_L_undo hs u9 u11 h xx yy ee) (fun x272 h273 _ => ?_)
        refine S_istore [(5, .int x272), (0, .retAddr 5000), (1, .ref u9), (2, .ref u10), (3, .ref u11), (4, .int w12)] dL_law_1410 (Nat.le_of_ble_eq_true rfl) rfl ?_
        refine S_aload_n 3 dL_law_1412 rfl rfl ?_
        refine S_callV_IW (lev' := 1) (My := M_X6_undo) [] [] kc6 K_X6_undo kw_1112 kw_1113 kw_1114 dL_law_1413 (by decide) rfl (Nat.le_of_ble_eq_true rfl) (fun xx yy ee => sm_X6_undo hs u10 h273 xx yy ee) (fun x274 h275 _ => ?_)
        refine S_istore [(6, .int x274), (5, .int x272), (0, .retAddr 5000), (1, .ref u9), (2, .ref u10), (3, .ref u11), (4, .int w12)] dL_law_1416 (Nat.le_of_ble_eq_true rfl) rfl ?_
        refine S_aload_n 4 dL_law_1418 rfl rfl ?_
        refine S_callV_IR (lev' := 0) (My := M_X6_thrown) [] [] kc6 K_X6_thrown kw_1108 kw_1109 kw_1110 dL_law_1419 (by decide) rfl (Nat.le_of_ble_eq_true rfl) (fun xx ee => sm_X6_thrown hs u10 h275 xx ee) (fun x276 _ => ?_)
        refine S_iload 1 dL_law_1422 rfl ?_
        refine S_icmp_eq 1429 dL_law_1424 (by decide) (fun c280 => ?_) (fun c280 => ?_)
        · refine S_iload 1 dL_law_1429 rfl ?_
          refine S_if_ne 1446 dL_law_1431 (by decide) (fun c279 => ?_) (fun c279 => ?_)
          · refine S_goto 1561 dL_law_1446 (by decide) ?_
            exact Sim.sub [2, 3, 4, 5, 6] rfl (hk16 h275)
          · refine S_aload_n 5 dL_law_1434 rfl rfl ?_
            refine S_iconst 0 dL_law_1435 (by decide) ?_
            refine S_laload dL_law_1436 (fun x277 _ => ?_)
            refine S_iload 0 dL_law_1437 rfl ?_
            refine S_i2l dL_law_1439 ?_
            refine S_lcmp dL_law_1440 ?_
            refine S_if_eq 1446 dL_law_1441 (by decide) (fun c278 => ?_) (fun c278 => ?_)
            · refine S_goto 1561 dL_law_1446 (by decide) ?_
              exact Sim.sub [2, 3, 4, 5, 6] rfl (hk16 h275)
            · refine S_iconst 0 dL_law_1444 (by decide) ?_
              exact S_zreturn (b := false) rfl rfl dL_law_1445
        · refine S_iconst 0 dL_law_1427 (by decide) ?_
          exact S_zreturn (b := false) rfl rfl dL_law_1428
      · refine S_aload_n 1 dL_law_1449 rfl rfl ?_
        refine S_sload_n 0 dL_law_1450 rfl rfl ?_
        refine S_iload 4 dL_law_1451 rfl ?_
        refine S_iconst 1 dL_law_1453 (by decide) ?_
        refine S_iadd dL_law_1454 ?_
        refine S_xld rfl dL_law_1455 (fun x281 => ?_)
        refine S_aload_n 3 dL_law_1456 rfl rfl ?_
        refine S_callSH (lev' := 4) (My := M_L_save) [.ref u9, .int x281, .ref u11] [] K_L_save kw_1015 kw_1016 dL_law_1457 (by decide) rfl (Nat.le_of_ble_eq_true rfl) (fun xx yy ee => sm_L_save hs u9 x281 u11 h xx yy ee) (fun x282 h283 _ => ?_)
        refine S_istore [(5, .int x282), (0, .retAddr 5000), (1, .ref u9), (2, .ref u10), (3, .ref u11), (4, .int w12)] dL_law_1460 (Nat.le_of_ble_eq_true rfl) rfl ?_
        refine S_aload_n 3 dL_law_1462 rfl rfl ?_
        refine S_sload_n 1 dL_law_1463 rfl rfl ?_
        refine S_iload 5 dL_law_1464 rfl ?_
        refine S_iconst 1 dL_law_1466 (by decide) ?_
        refine S_iadd dL_law_1467 ?_
        refine S_xld rfl dL_law_1468 (fun x284 => ?_)
        refine S_callV_IW (lev' := 1) (My := M_X6_save) [.int x284] [] kc6 K_X6_save kw_1448 kw_1449 kw_1450 dL_law_1469 (by decide) rfl (Nat.le_of_ble_eq_true rfl) (fun xx yy ee => sm_X6_save hs u10 x284 h283 xx yy ee) (fun x285 h286 _ => ?_)
        refine S_istore [(6, .int x285), (5, .int x282), (0, .retAddr 5000), (1, .ref u9), (2, .ref u10), (3, .ref u11), (4, .int w12)] dL_law_1472 (Nat.le_of_ble_eq_true rfl) rfl ?_
        refine S_aload_n 4 dL_law_1474 rfl rfl ?_
        refine S_callV_IR (lev' := 0) (My := M_X6_thrown) [] [] kc6 K_X6_thrown kw_1108 kw_1109 kw_1110 dL_law_1475 (by decide) rfl (Nat.le_of_ble_eq_true rfl) (fun xx ee => sm_X6_thrown hs u10 h286 xx ee) (fun x287 _ => ?_)
        refine S_iload 1 dL_law_1478 rfl ?_
        refine S_icmp_eq 1485 dL_law_1480 (by decide) (fun c291 => ?_) (fun c291 => ?_)
        · refine S_iload 1 dL_law_1485 rfl ?_
          refine S_if_ne 1502 dL_law_1487 (by decide) (fun c290 => ?_) (fun c290 => ?_)
          · refine S_goto 1561 dL_law_1502 (by decide) ?_
            exact Sim.sub [2, 3, 4, 5, 6] rfl (hk16 h286)
          · refine S_aload_n 5 dL_law_1490 rfl rfl ?_
            refine S_iconst 0 dL_law_1491 (by decide) ?_
            refine S_laload dL_law_1492 (fun x288 _ => ?_)
            refine S_iload 0 dL_law_1493 rfl ?_
            refine S_i2l dL_law_1495 ?_
            refine S_lcmp dL_law_1496 ?_
            refine S_if_eq 1502 dL_law_1497 (by decide) (fun c289 => ?_) (fun c289 => ?_)
            · refine S_goto 1561 dL_law_1502 (by decide) ?_
              exact Sim.sub [2, 3, 4, 5, 6] rfl (hk16 h286)
            · refine S_iconst 0 dL_law_1500 (by decide) ?_
              exact S_zreturn (b := false) rfl rfl dL_law_1501
        · refine S_iconst 0 dL_law_1483 (by decide) ?_
          exact S_zreturn (b := false) rfl rfl dL_law_1484
      · refine S_aload_n 1 dL_law_1505 rfl rfl ?_
        refine S_sload_n 0 dL_law_1506 rfl rfl ?_
        refine S_iload 4 dL_law_1507 rfl ?_
        refine S_iconst 1 dL_law_1509 (by decide) ?_
        refine S_iadd dL_law_1510 ?_
        refine S_xld rfl dL_law_1511 (fun x292 => ?_)
        refine S_aload_n 3 dL_law_1512 rfl rfl ?_
        refine S_callSH (lev' := 5) (My := M_L_restore) [.ref u9, .int x292, .ref u11] [] K_L_restore kw_1024 kw_1025 dL_law_1513 (by decide) rfl (Nat.le_of_ble_eq_true rfl) (fun xx yy ee => sm_L_restore hs u9 x292 u11 h xx yy ee) (fun x293 h294 _ => ?_)
        refine S_istore [(5, .int x293), (0, .retAddr 5000), (1, .ref u9), (2, .ref u10), (3, .ref u11), (4, .int w12)] dL_law_1516 (Nat.le_of_ble_eq_true rfl) rfl ?_
        refine S_aload_n 3 dL_law_1518 rfl rfl ?_
        refine S_sload_n 1 dL_law_1519 rfl rfl ?_
        refine S_iload 5 dL_law_1520 rfl ?_
        refine S_iconst 1 dL_law_1522 (by decide) ?_
        refine S_iadd dL_law_1523 ?_
        refine S_xld rfl dL_law_1524 (fun x295 => ?_)
        refine S_callV_IW (lev' := 2) (My := M_X6_restore) [.int x295] [] kc6 K_X6_restore kw_1452 kw_1453 kw_1454 dL_law_1525 (by decide) rfl (Nat.le_of_ble_eq_true rfl) (fun xx yy ee => sm_X6_restore hs u10 x295 h294 xx yy ee) (fun x296 h297 _ => ?_)
        refine S_istore [(6, .int x296), (5, .int x293), (0, .retAddr 5000), (1, .ref u9), (2, .ref u10), (3, .ref u11), (4, .int w12)] dL_law_1528 (Nat.le_of_ble_eq_true rfl) rfl ?_
        refine S_aload_n 4 dL_law_1530 rfl rfl ?_
        refine S_callV_IR (lev' := 0) (My := M_X6_thrown) [] [] kc6 K_X6_thrown kw_1108 kw_1109 kw_1110 dL_law_1531 (by decide) rfl (Nat.le_of_ble_eq_true rfl) (fun xx ee => sm_X6_thrown hs u10 h297 xx ee) (fun x298 _ => ?_)
        refine S_iload 1 dL_law_1534 rfl ?_
        refine S_icmp_eq 1541 dL_law_1536 (by decide) (fun c302 => ?_) (fun c302 => ?_)
        · refine S_iload 1 dL_law_1541 rfl ?_
          refine S_if_ne 1558 dL_law_1543 (by decide) (fun c301 => ?_) (fun c301 => ?_)
          · refine S_goto 1561 dL_law_1558 (by decide) ?_
            exact Sim.sub [2, 3, 4, 5, 6] rfl (hk16 h297)
          · refine S_aload_n 5 dL_law_1546 rfl rfl ?_
            refine S_iconst 0 dL_law_1547 (by decide) ?_
            refine S_laload dL_law_1548 (fun x299 _ => ?_)
            refine S_iload 0 dL_law_1549 rfl ?_
            refine S_i2l dL_law_1551 ?_
            refine S_lcmp dL_law_1552 ?_
            refine S_if_eq 1558 dL_law_1553 (by decide) (fun c300 => ?_) (fun c300 => ?_)
            · refine S_goto 1561 dL_law_1558 (by decide) ?_
              exact Sim.sub [2, 3, 4, 5, 6] rfl (hk16 h297)
            · refine S_iconst 0 dL_law_1556 (by decide) ?_
              exact S_zreturn (b := false) rfl rfl dL_law_1557
        · refine S_iconst 0 dL_law_1539 (by decide) ?_
          exact S_zreturn (b := false) rfl rfl dL_law_1540
set_option maxRecDepth 20000 in
set_option maxHeartbeats 4000000 in
theorem ss_L_law (hs : l.stackTraces = false)  (h : Hp) : Sim l G 188 M_L_law (fun p : Bool × Hp => ((.inl (some (.int (bI p.1))) : Oc), p.2)) 0 [(0, .retAddr 5000)] [] h (m_L_law G  h) := by
  rw [m_L_law]
  refine S_newN kc5 rfl kd5 kw_102 kw_103 kw_82 dL_law_0 (fun a1 h2 => ?_)
  refine S_dup dL_law_3 rfl ?_
  refine S_callI_VW (lev' := 2) (My := M_X5_init) [] [.ref a1] K_X5_init rfl rfl kw_104 kw_105 dL_law_4 (by decide) rfl (Nat.le_of_ble_eq_true rfl) (fun xx ee => sm_X5_init hs a1 h2 xx ee) (fun h3 _ => ?_)
  refine S_astore_n [(1, .ref a1), (0, .retAddr 5000)] dL_law_7 rfl (Nat.le_of_ble_eq_true rfl) rfl ?_
  refine S_newN kc6 rfl kd6 kw_1032 kw_1033 kw_87 dL_law_8 (fun a4 h5 => ?_)
  refine S_dup dL_law_11 rfl ?_
  refine S_callI_VW (lev' := 0) (My := M_X6_init) [] [.ref a4] K_X6_init rfl rfl kw_1034 kw_1035 dL_law_12 (by decide) rfl (Nat.le_of_ble_eq_true rfl) (fun xx ee => sm_X6_init hs a4 h5 xx ee) (fun h6 _ => ?_)
  refine S_astore_n [(2, .ref a4), (1, .ref a1), (0, .retAddr 5000)] dL_law_15 rfl (Nat.le_of_ble_eq_true rfl) rfl ?_
  refine S_iconst 1 dL_law_16 (by decide) ?_
  refine S_newarr1 (N := 1) (by decide) (by decide) (by decide) kw_179 dL_law_17 (fun a7 h8 => ?_)
  refine S_astore_n [(3, .ref a7), (2, .ref a4), (1, .ref a1), (0, .retAddr 5000)] dL_law_19 rfl (Nat.le_of_ble_eq_true rfl) rfl ?_
  refine S_iconst 0 dL_law_20 (by decide) ?_
  refine S_istore [(4, .int 0), (3, .ref a7), (2, .ref a4), (1, .ref a1), (0, .retAddr 5000)] dL_law_21 (Nat.le_of_ble_eq_true rfl) rfl ?_
  refine Sim.sub [4, 3, 2, 1, 0] rfl (sl_L_law_L23 hs a1 a4 a7 _ ?_ LF (0 : Int32) h8)
  · intro h13
    refine S_iconst 1 dL_law_1567 (by decide) ?_
    exact S_zreturn (b := true) rfl rfl dL_law_1568
end
