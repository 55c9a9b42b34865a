/-! ===== the law, by program ===== -/
def f_L_law_18 (L : Nat) (xs : Nat → Int32) : Nat → Hea → Nat → Nat → Int32 → Option (Int32 × Hea)
  | 0, _, _, _, _ => none
  | n + 1, h, y1, y2, y3 =>
    if ((Int32.ofNat L) - 4) < y3 then (
      some (1, h)
    ) else (
      (sLd L xs y3).bind fun x1 =>
      if (x1 &&& 63) = 0 then (
        (sLd L xs (y3 + 1)).bind fun x2 =>
        (sLd L xs (y3 + 2)).bind fun x3 =>
        (isO h y1 7).bind fun _ =>
        bind2 (f_X7_house h y1 x2 x3) fun x4 h5 =>
        (sLd L xs (y3 + 1)).bind fun x6 =>
        (sLd L xs (y3 + 2)).bind fun x7 =>
        (isO h5 y2 8).bind fun _ =>
        bind2 (f_X8_house h5 y2 x6 x7) fun x8 h9 =>
        if x4 = x8 then (
          f_L_law_18 L xs n h9 y1 y2 (y3 + 4)
        ) else (
          some (0, h9)
        )
      ) else
      if (x1 &&& 63) = 1 then (
        (sLd L xs (y3 + 1)).bind fun x10 =>
        (sLd L xs (y3 + 2)).bind fun x11 =>
        (isO h y1 7).bind fun _ =>
        bind2 (f_X7_room h y1 x10 x11) fun x12 h13 =>
        (sLd L xs (y3 + 1)).bind fun x14 =>
        (sLd L xs (y3 + 2)).bind fun x15 =>
        (isO h13 y2 8).bind fun _ =>
        bind2 (f_X8_room h13 y2 x14 x15) fun x16 h17 =>
        if x12 = x16 then (
          f_L_law_18 L xs n h17 y1 y2 (y3 + 4)
        ) else (
          some (0, h17)
        )
      ) else
      if (x1 &&& 63) = 2 then (
        (sLd L xs (y3 + 1)).bind fun x18 =>
        (sLd L xs (y3 + 2)).bind fun x19 =>
        (sLd L xs (y3 + 3)).bind fun x20 =>
        (isO h y1 7).bind fun _ =>
        bind2 (f_X7_door h y1 x18 x19 x20) fun x21 h22 =>
        (sLd L xs (y3 + 1)).bind fun x23 =>
        (sLd L xs (y3 + 2)).bind fun x24 =>
        (sLd L xs (y3 + 3)).bind fun x25 =>
        (isO h22 y2 8).bind fun _ =>
        bind2 (f_X8_door h22 y2 x23 x24 x25) fun x26 h27 =>
        if x21 = x26 then (
          f_L_law_18 L xs n h27 y1 y2 (y3 + 4)
        ) else (
          some (0, h27)
        )
      ) else
      if (x1 &&& 63) = 3 then (
        (sLd L xs (y3 + 1)).bind fun x28 =>
        (isO h y1 7).bind fun _ =>
        bind2 (f_X7_list h y1 x28) fun x29 h30 =>
        (sLd L xs (y3 + 1)).bind fun x31 =>
        (isO h30 y2 8).bind fun _ =>
        bind2 (f_X8_list h30 y2 x31) fun x32 h33 =>
        if x29 = x32 then (
          f_L_law_18 L xs n h33 y1 y2 (y3 + 4)
        ) else (
          some (0, h33)
        )
      ) else
      if (x1 &&& 63) = 4 then (
        (sLd L xs (y3 + 1)).bind fun x34 =>
        (isO h y1 7).bind fun _ =>
        bind2 (f_X7_only h y1 x34) fun x35 h36 =>
        (sLd L xs (y3 + 1)).bind fun x37 =>
        (isO h36 y2 8).bind fun _ =>
        bind2 (f_X8_only h36 y2 x37) fun x38 h39 =>
        if x35 = x38 then (
          f_L_law_18 L xs n h39 y1 y2 (y3 + 4)
        ) else (
          some (0, h39)
        )
      ) else
      if (x1 &&& 63) = 5 then (
        (sLd L xs (y3 + 1)).bind fun x40 =>
        (isO h y1 7).bind fun _ =>
        bind2 (f_X7_eyes h y1 x40) fun x41 h42 =>
        (sLd L xs (y3 + 1)).bind fun x43 =>
        (isO h42 y2 8).bind fun _ =>
        bind2 (f_X8_eyes h42 y2 x43) fun x44 h45 =>
        if x41 = x44 then (
          f_L_law_18 L xs n h45 y1 y2 (y3 + 4)
        ) else (
          some (0, h45)
        )
      ) else
      if (x1 &&& 63) = 6 then (
        (sLd L xs (y3 + 1)).bind fun x46 =>
        (sLd L xs (y3 + 2)).bind fun x47 =>
        (sLd L xs (y3 + 3)).bind fun x48 =>
        (isO h y1 7).bind fun _ =>
        bind2 (f_X7_heir h y1 x46 x47 x48) fun x49 h50 =>
        (sLd L xs (y3 + 1)).bind fun x51 =>
        (sLd L xs (y3 + 2)).bind fun x52 =>
        (sLd L xs (y3 + 3)).bind fun x53 =>
        (isO h50 y2 8).bind fun _ =>
        bind2 (f_X8_heir h50 y2 x51 x52 x53) fun x54 h55 =>
        if x49 = x54 then (
          f_L_law_18 L xs n h55 y1 y2 (y3 + 4)
        ) else (
          some (0, h55)
        )
      ) else
      if (x1 &&& 63) = 7 then (
        (sLd L xs (y3 + 1)).bind fun x56 =>
        (isO h y1 7).bind fun _ =>
        bind2 (f_X7_type h y1 x56) fun x57 h58 =>
        (sLd L xs (y3 + 1)).bind fun x59 =>
        (isO h58 y2 8).bind fun _ =>
        bind2 (f_X8_type h58 y2 x59) fun x60 h61 =>
        if x57 = x60 then (
          f_L_law_18 L xs n h61 y1 y2 (y3 + 4)
        ) else (
          some (0, h61)
        )
      ) else
      if (x1 &&& 63) = 8 then (
        (isO h y1 7).bind fun _ =>
        bind2 (f_X7_clear h y1) fun x62 h63 =>
        (isO h63 y2 8).bind fun _ =>
        bind2 (f_X8_clear h63 y2) fun x64 h65 =>
        if x62 = x64 then (
          f_L_law_18 L xs n h65 y1 y2 (y3 + 4)
        ) else (
          some (0, h65)
        )
      ) else
      if (x1 &&& 63) = 9 then (
        (isO h y1 7).bind fun _ =>
        bind2 (f_X7_read h y1) fun x66 h67 =>
        (isO h67 y2 8).bind fun _ =>
        bind2 (f_X8_read h67 y2) fun x68 h69 =>
        if x66 = x68 then (
          f_L_law_18 L xs n h69 y1 y2 (y3 + 4)
        ) else (
          some (0, h69)
        )
      ) else
      if (x1 &&& 63) = 10 then (
        (sLd L xs (y3 + 1)).bind fun x70 =>
        (sLd L xs (y3 + 2)).bind fun x71 =>
        (isO h y1 7).bind fun _ =>
        bind2 (f_X7_move h y1 x70 x71) fun x72 h73 =>
        (sLd L xs (y3 + 1)).bind fun x74 =>
        (sLd L xs (y3 + 2)).bind fun x75 =>
        (isO h73 y2 8).bind fun _ =>
        bind2 (f_X8_move h73 y2 x74 x75) fun x76 h77 =>
        if x72 = x76 then (
          f_L_law_18 L xs n h77 y1 y2 (y3 + 4)
        ) else (
          some (0, h77)
        )
      ) else
      if (x1 &&& 63) = 11 then (
        (isO h y1 7).bind fun _ =>
        bind2 (f_X7_night h y1) fun x78 h79 =>
        (isO h79 y2 8).bind fun _ =>
        bind2 (f_X8_night h79 y2) fun x80 h81 =>
        if x78 = x80 then (
          f_L_law_18 L xs n h81 y1 y2 (y3 + 4)
        ) else (
          some (0, h81)
        )
      ) else
      if (x1 &&& 63) = 12 then (
        (isO h y1 7).bind fun _ =>
        bind2 (f_X7_undo h y1) fun x82 h83 =>
        (isO h83 y2 8).bind fun _ =>
        bind2 (f_X8_undo h83 y2) fun x84 h85 =>
        if x82 = x84 then (
          f_L_law_18 L xs n h85 y1 y2 (y3 + 4)
        ) else (
          some (0, h85)
        )
      ) else
      if (x1 &&& 63) = 13 then (
        (sLd L xs (y3 + 1)).bind fun x86 =>
        (sLd L xs (y3 + 2)).bind fun x87 =>
        (isO h y1 7).bind fun _ =>
        bind2 (f_X7_of h y1 x86 x87) fun x88 h89 =>
        (sLd L xs (y3 + 1)).bind fun x90 =>
        (sLd L xs (y3 + 2)).bind fun x91 =>
        (isO h89 y2 8).bind fun _ =>
        bind2 (f_X8_of h89 y2 x90 x91) fun x92 h93 =>
        if x88 = x92 then (
          f_L_law_18 L xs n h93 y1 y2 (y3 + 4)
        ) else (
          some (0, h93)
        )
      ) else
      if (x1 &&& 63) = 14 then (
        (sLd L xs (y3 + 1)).bind fun x94 =>
        (isO h y1 7).bind fun _ =>
        bind2 (f_X7_looks h y1 x94) fun x95 h96 =>
        (sLd L xs (y3 + 1)).bind fun x97 =>
        (isO h96 y2 8).bind fun _ =>
        bind2 (f_X8_looks h96 y2 x97) fun x98 h99 =>
        if x95 = x98 then (
          f_L_law_18 L xs n h99 y1 y2 (y3 + 4)
        ) else (
          some (0, h99)
        )
      ) else
      if (x1 &&& 63) = 15 then (
        (sLd L xs (y3 + 1)).bind fun x100 =>
        (sLd L xs (y3 + 2)).bind fun x101 =>
        (sLd L xs (y3 + 3)).bind fun x102 =>
        (isO h y1 7).bind fun _ =>
        bind2 (f_X7_byThen h y1 x100 x101 x102) fun x103 h104 =>
        (sLd L xs (y3 + 1)).bind fun x105 =>
        (sLd L xs (y3 + 2)).bind fun x106 =>
        (sLd L xs (y3 + 3)).bind fun x107 =>
        (isO h104 y2 8).bind fun _ =>
        bind2 (f_X8_byThen h104 y2 x105 x106 x107) fun x108 h109 =>
        if x103 = x108 then (
          f_L_law_18 L xs n h109 y1 y2 (y3 + 4)
        ) else (
          some (0, h109)
        )
      ) else
      if (x1 &&& 63) = 16 then (
        (sLd L xs (y3 + 1)).bind fun x110 =>
        (isO h y1 7).bind fun _ =>
        bind2 (f_X7_first h y1 x110) fun x111 h112 =>
        (sLd L xs (y3 + 1)).bind fun x113 =>
        (isO h112 y2 8).bind fun _ =>
        bind2 (f_X8_first h112 y2 x113) fun x114 h115 =>
        if x111 = x114 then (
          f_L_law_18 L xs n h115 y1 y2 (y3 + 4)
        ) else (
          some (0, h115)
        )
      ) else
      if (x1 &&& 63) = 17 then (
        (isO h y1 7).bind fun _ =>
        (f_X7_passed h y1).bind fun x116 =>
        (isO h y2 8).bind fun _ =>
        bind2 (f_X8_passed h y2) fun x117 h118 =>
        if x116 = x117 then (
          f_L_law_18 L xs n h118 y1 y2 (y3 + 4)
        ) else (
          some (0, h118)
        )
      ) else
      if (x1 &&& 63) = 18 then (
        (sLd L xs (y3 + 1)).bind fun x119 =>
        (isO h y1 7).bind fun _ =>
        bind2 (f_X7_hide h y1 x119) fun x120 h121 =>
        (sLd L xs (y3 + 1)).bind fun x122 =>
        (isO h121 y2 8).bind fun _ =>
        bind2 (f_X8_hide h121 y2 x122) fun x123 h124 =>
        if x120 = x123 then (
          f_L_law_18 L xs n h124 y1 y2 (y3 + 4)
        ) else (
          some (0, h124)
        )
      ) else
      if (x1 &&& 63) = 19 then (
        (sLd L xs (y3 + 1)).bind fun x125 =>
        (sLd L xs (y3 + 2)).bind fun x126 =>
        (isO h y1 7).bind fun _ =>
        bind2 (f_X7_way h y1 x125 x126) fun x127 h128 =>
        (sLd L xs (y3 + 1)).bind fun x129 =>
        (sLd L xs (y3 + 2)).bind fun x130 =>
        (isO h128 y2 8).bind fun _ =>
        bind2 (f_X8_way h128 y2 x129 x130) fun x131 h132 =>
        if x127 = x131 then (
          f_L_law_18 L xs n h132 y1 y2 (y3 + 4)
        ) else (
          some (0, h132)
        )
      ) else
      if (x1 &&& 63) = 20 then (
        (sLd L xs (y3 + 1)).bind fun x133 =>
        (sLd L xs (y3 + 2)).bind fun x134 =>
        (isO h y1 7).bind fun _ =>
        bind2 (f_X7_choose h y1 x133 x134) fun x135 h136 =>
        (sLd L xs (y3 + 1)).bind fun x137 =>
        (sLd L xs (y3 + 2)).bind fun x138 =>
        (isO h136 y2 8).bind fun _ =>
        bind2 (f_X8_choose h136 y2 x137 x138) fun x139 h140 =>
        if x135 = x139 then (
          f_L_law_18 L xs n h140 y1 y2 (y3 + 4)
        ) else (
          some (0, h140)
        )
      ) else
      if (x1 &&& 63) = 21 then (
        (sLd L xs (y3 + 1)).bind fun x141 =>
        (isO h y1 7).bind fun _ =>
        bind2 (f_X7_odds h y1 x141) fun x142 h143 =>
        (sLd L xs (y3 + 1)).bind fun x144 =>
        (isO h143 y2 8).bind fun _ =>
        bind2 (f_X8_odds h143 y2 x144) fun x145 h146 =>
        if x142 = x145 then (
          f_L_law_18 L xs n h146 y1 y2 (y3 + 4)
        ) else (
          some (0, h146)
        )
      ) else
      if (x1 &&& 63) = 22 then (
        (sLd L xs (y3 + 1)).bind fun x147 =>
        (sLd L xs (y3 + 2)).bind fun x148 =>
        (sLd L xs (y3 + 3)).bind fun x149 =>
        (isO h y1 7).bind fun _ =>
        bind2 (f_X7_seen h y1 x147 x148 x149) fun x150 h151 =>
        (sLd L xs (y3 + 1)).bind fun x152 =>
        (sLd L xs (y3 + 2)).bind fun x153 =>
        (sLd L xs (y3 + 3)).bind fun x154 =>
        (isO h151 y2 8).bind fun _ =>
        bind2 (f_X8_seen h151 y2 x152 x153 x154) fun x155 h156 =>
        if x150 = x155 then (
          f_L_law_18 L xs n h156 y1 y2 (y3 + 4)
        ) else (
          some (0, h156)
        )
      ) else
      if (x1 &&& 63) = 23 then (
        (isO h y1 7).bind fun _ =>
        bind2 (f_X7_forget h y1) fun x157 h158 =>
        (isO h158 y2 8).bind fun _ =>
        bind2 (f_X8_forget h158 y2) fun x159 h160 =>
        if x157 = x159 then (
          f_L_law_18 L xs n h160 y1 y2 (y3 + 4)
        ) else (
          some (0, h160)
        )
      ) else
      if (x1 &&& 63) = 24 then (
        (sLd L xs (y3 + 1)).bind fun x161 =>
        (isO h y1 7).bind fun _ =>
        bind2 (f_X7_may h y1 x161) fun x162 h163 =>
        (sLd L xs (y3 + 1)).bind fun x164 =>
        (isO h163 y2 8).bind fun _ =>
        bind2 (f_X8_may h163 y2 x164) fun x165 h166 =>
        if x162 = x165 then (
          f_L_law_18 L xs n h166 y1 y2 (y3 + 4)
        ) else (
          some (0, h166)
        )
      ) else
      if (x1 &&& 63) = 25 then (
        (isO h y1 7).bind fun _ =>
        bind2 (f_X7_ways h y1) fun x167 h168 =>
        (isO h168 y2 8).bind fun _ =>
        bind2 (f_X8_ways h168 y2) fun x169 h170 =>
        if (lg_cmp x167 x169) = 0 then (
          f_L_law_18 L xs n h170 y1 y2 (y3 + 4)
        ) else (
          some (0, h170)
        )
      ) else
      if (x1 &&& 63) = 26 then (
        (sLd L xs (y3 + 1)).bind fun x171 =>
        (isO h y1 7).bind fun _ =>
        bind2 (f_X7_peek h y1 x171) fun x172 h173 =>
        (sLd L xs (y3 + 1)).bind fun x174 =>
        (isO h173 y2 8).bind fun _ =>
        bind2 (f_X8_peek h173 y2 x174) fun x175 h176 =>
        if x172 = x175 then (
          f_L_law_18 L xs n h176 y1 y2 (y3 + 4)
        ) else (
          some (0, h176)
        )
      ) else
      if (x1 &&& 63) = 27 then (
        (sLd L xs (y3 + 1)).bind fun x177 =>
        (sLd L xs (y3 + 2)).bind fun x178 =>
        (isO h y1 7).bind fun _ =>
        bind2 (f_X7_nights h y1 x177 x178) fun x179 h180 =>
        (sLd L xs (y3 + 1)).bind fun x181 =>
        (sLd L xs (y3 + 2)).bind fun x182 =>
        (isO h180 y2 8).bind fun _ =>
        bind2 (f_X8_nights h180 y2 x181 x182) fun x183 h184 =>
        if x179 = x183 then (
          f_L_law_18 L xs n h184 y1 y2 (y3 + 4)
        ) else (
          some (0, h184)
        )
      ) else
      if (x1 &&& 63) = 28 then (
        (sLd L xs (y3 + 1)).bind fun x185 =>
        (isO h y1 7).bind fun _ =>
        bind2 (f_X7_part h y1 x185) fun x186 h187 =>
        (sLd L xs (y3 + 1)).bind fun x188 =>
        (isO h187 y2 8).bind fun _ =>
        bind2 (f_X8_part h187 y2 x188) fun x189 h190 =>
        if (lg_cmp x186 x189) = 0 then (
          f_L_law_18 L xs n h190 y1 y2 (y3 + 4)
        ) else (
          some (0, h190)
        )
      ) else
      if (x1 &&& 63) = 29 then (
        (sLd L xs (y3 + 1)).bind fun x191 =>
        (isO h y1 7).bind fun _ =>
        bind2 (f_X7_image h y1 x191) fun x192 h193 =>
        (sLd L xs (y3 + 1)).bind fun x194 =>
        (isO h193 y2 8).bind fun _ =>
        bind2 (f_X8_image h193 y2 x194) fun x195 h196 =>
        if x192 = x195 then (
          f_L_law_18 L xs n h196 y1 y2 (y3 + 4)
        ) else (
          some (0, h196)
        )
      ) else
      if (x1 &&& 63) = 30 then (
        (sLd L xs (y3 + 1)).bind fun x197 =>
        (isO h y1 7).bind fun _ =>
        bind2 (f_X7_from h y1 x197) fun x198 h199 =>
        (sLd L xs (y3 + 1)).bind fun x200 =>
        (isO h199 y2 8).bind fun _ =>
        bind2 (f_X8_from h199 y2 x200) fun x201 h202 =>
        if x198 = x201 then (
          f_L_law_18 L xs n h202 y1 y2 (y3 + 4)
        ) else (
          some (0, h202)
        )
      ) else
      if (x1 &&& 63) = 31 then (
        (sLd L xs (y3 + 1)).bind fun x203 =>
        (isO h y1 7).bind fun _ =>
        bind2 (f_X7_status h y1 x203) fun x204 h205 =>
        (sLd L xs (y3 + 1)).bind fun x206 =>
        (isO h205 y2 8).bind fun _ =>
        bind2 (f_X8_status h205 y2 x206) fun x207 h208 =>
        if x204 = x207 then (
          f_L_law_18 L xs n h208 y1 y2 (y3 + 4)
        ) else (
          some (0, h208)
        )
      ) else
      if (x1 &&& 63) = 32 then (
        (sLd L xs (y3 + 1)).bind fun x209 =>
        (isO h y1 7).bind fun _ =>
        bind2 (f_X7_count h y1 x209) fun x210 h211 =>
        (sLd L xs (y3 + 1)).bind fun x212 =>
        (isO h211 y2 8).bind fun _ =>
        bind2 (f_X8_count h211 y2 x212) fun x213 h214 =>
        if x210 = x213 then (
          f_L_law_18 L xs n h214 y1 y2 (y3 + 4)
        ) else (
          some (0, h214)
        )
      ) else
      if (x1 &&& 63) = 33 then (
        (isO h y1 7).bind fun _ =>
        (f_X7_digest h y1).bind fun x215 =>
        (isO h y2 8).bind fun _ =>
        (f_X8_digest h y2).bind fun x216 =>
        if (lg_cmp x215 x216) = 0 then (
          f_L_law_18 L xs n h y1 y2 (y3 + 4)
        ) else (
          some (0, h)
        )
      ) else
      (
        f_L_law_18 L xs n h y1 y2 (y3 + 4)
      )
    )
def f_L_law (L : Nat) (xs : Nat → Int32) (h : Hea) : Option (Int32 × Hea) :=
  bind2 (nwO h (cO 7 [.null, .null, .null, .null, .null, .null, .null, .null, .null, .null, .null, .int 0, .long 0, .long 0, .int 0, .int 0, .int 0])) fun q1 h2 =>
  (f_X7_init h2 q1).bind fun h3 =>
  bind2 (nwO h3 (cO 8 [.null, .null, .null, .null, .long 0, .long 0, .int 0, .int 0, .null, .null, .null, .null, .null, .null, .null, .null, .null, .null, .null, .null, .int 0, .int 0, .int 0, .int 0, .int 0, .null, .null])) fun q4 h5 =>
  (f_X8_init h5 q4).bind fun h6 =>
  f_L_law_18 L xs lots h6 q1 q4 0
set_option maxRecDepth 100000 in
set_option maxHeartbeats 4000000 in
theorem l_L_law_18 (g : Gx) {nm : String} : ∀ (n : Nat) (h : Hea) (y1 : Nat) (y2 : Nat) (y3 : Int32) (o : Int32) (ho : Hea) (hf : f_L_law_18 (gL g) (gX g) n h y1 y2 y3 = some (o, ho)), AW g RL cL_law (4, some .boolean, nm, 12, 600000, 7302250) (some (.int o), ho) 18 [(0, .ref (gS g)), (1, .ref y1), (2, .ref y2), (3, .int y3)] [] h 258 3821 := by
  intro n
  induction n with
  | zero =>
    intro h y1 y2 y3 o ho hf
    rw [f_L_law_18] at hf
    cases hf
  | succ n ih =>
    intro h y1 y2 y3 o ho hf
    rw [f_L_law_18] at hf
    refine aw_iload_n 3 dL_law_18 rfl ?_
    refine aw_aload_n 0 dL_law_19 rfl ?_
    refine aw_sLen dL_law_20 ?_
    refine aw_iconst (v := 4) dL_law_21 rfl ?_
    refine aw_isub dL_law_22 ?_
    refine aw_icmp_gt (tgt := 1045) dL_law_23 rfl (fun hc => ?_) (fun hc => ?_)
    · have hf := itp0 hc hf
      refine aw_iconst (v := 1) dL_law_1045 rfl ?_
      obtain ⟨rfl, rfl⟩ := so2 hf
      refine aw_widen (k := 600000) (n := 7302250) (Nat.le_of_ble_eq_true rfl) (Nat.le_of_ble_eq_true rfl) ?_
      exact aw_zret dL_law_1046 rfl rfl rfl
    · have hf := itn0 hc hf
      refine aw_aload_n 0 dL_law_26 rfl ?_
      refine aw_iload_n 3 dL_law_27 rfl ?_
      refine aw_sLd dL_law_28 hf (fun x1 hf => ?_)
      refine aw_bipush (v := 63) dL_law_29 rfl ?_
      refine aw_iand dL_law_31 ?_
      by_cases hc0 : x1 &&& 63 = 0
      · have hf := itp0 hc0 hf
        refine aw_tsK (tgt := 184) (off := 152) (k := 0) hc0 rfl dL_law_32 (by decide) (by decide) rfl rfl ?_
        refine aw_aload_n 1 dL_law_184 rfl ?_
        refine aw_aload_n 0 dL_law_185 rfl ?_
        refine aw_iload_n 3 dL_law_186 rfl ?_
        refine aw_iconst (v := 1) dL_law_187 rfl ?_
        refine aw_iadd dL_law_188 ?_
        refine aw_sLd dL_law_189 hf (fun x2 hf => ?_)
        refine aw_aload_n 0 dL_law_190 rfl ?_
        refine aw_iload_n 3 dL_law_191 rfl ?_
        refine aw_iconst (v := 2) dL_law_192 rfl ?_
        refine aw_iadd dL_law_193 ?_
        refine aw_sLd dL_law_194 hf (fun x3 hf => ?_)
        refine aw_cV_wi (st := []) [.int x2, .int x3] wV_RL_13 (ci := 7) rfl (fun xr hr er => c_X7_house g h y1 x2 x3 xr hr er) dL_law_195 rfl rfl (Nat.le_of_ble_eq_true rfl) (Nat.le_of_ble_eq_true rfl) (Nat.le_of_ble_eq_true rfl) (Nat.le_of_ble_eq_true rfl) hf (fun x4 h5 hf => ?_)
        refine aw_aload_n 2 dL_law_198 rfl ?_
        refine aw_aload_n 0 dL_law_199 rfl ?_
        refine aw_iload_n 3 dL_law_200 rfl ?_
        refine aw_iconst (v := 1) dL_law_201 rfl ?_
        refine aw_iadd dL_law_202 ?_
        refine aw_sLd dL_law_203 hf (fun x6 hf => ?_)
        refine aw_aload_n 0 dL_law_204 rfl ?_
        refine aw_iload_n 3 dL_law_205 rfl ?_
        refine aw_iconst (v := 2) dL_law_206 rfl ?_
        refine aw_iadd dL_law_207 ?_
        refine aw_sLd dL_law_208 hf (fun x7 hf => ?_)
        refine aw_cV_wi (st := [.int x4]) [.int x6, .int x7] wV_RL_17 (ci := 8) rfl (fun xr hr er => c_X8_house g h5 y2 x6 x7 xr hr er) dL_law_209 rfl rfl (Nat.le_of_ble_eq_true rfl) (Nat.le_of_ble_eq_true rfl) (Nat.le_of_ble_eq_true rfl) (Nat.le_of_ble_eq_true rfl) hf (fun x8 h9 hf => ?_)
        refine aw_icmp_eq (tgt := 1039) dL_law_212 rfl (fun hc => ?_) (fun hc => ?_)
        · have hf := itp0 hc hf
          refine aw_iinc (y3 + 4) [(3, .int (y3 + 4)), (0, .ref (gS g)), (1, .ref y1), (2, .ref y2)] 3 dL_law_1039 rfl rfl (Nat.le_of_ble_eq_true rfl) rfl ?_
          refine aw_goto (tgt := 18) dL_law_1042 rfl ?_
          refine aw_pick [1, 2, 3, 0] rfl ?_
          exact ih h9 y1 y2 (y3 + 4) o ho hf
        · have hf := itn0 hc hf
          refine aw_iconst (v := 0) dL_law_215 rfl ?_
          obtain ⟨rfl, rfl⟩ := so2 hf
          refine aw_widen (k := 600000) (n := 7302250) (Nat.le_of_ble_eq_true rfl) (Nat.le_of_ble_eq_true rfl) ?_
          exact aw_zret dL_law_216 rfl rfl rfl
      have hf := itn0 hc0 hf
      by_cases hc1 : x1 &&& 63 = 1
      · have hf := itp0 hc1 hf
        refine aw_tsK (tgt := 217) (off := 185) (k := 1) hc1 rfl dL_law_32 (by decide) (by decide) rfl rfl ?_
        refine aw_aload_n 1 dL_law_217 rfl ?_
        refine aw_aload_n 0 dL_law_218 rfl ?_
        refine aw_iload_n 3 dL_law_219 rfl ?_
        refine aw_iconst (v := 1) dL_law_220 rfl ?_
        refine aw_iadd dL_law_221 ?_
        refine aw_sLd dL_law_222 hf (fun x10 hf => ?_)
        refine aw_aload_n 0 dL_law_223 rfl ?_
        refine aw_iload_n 3 dL_law_224 rfl ?_
        refine aw_iconst (v := 2) dL_law_225 rfl ?_
        refine aw_iadd dL_law_226 ?_
        refine aw_sLd dL_law_227 hf (fun x11 hf => ?_)
        refine aw_cV_wi (st := []) [.int x10, .int x11] wV_RL_18 (ci := 7) rfl (fun xr hr er => c_X7_room g h y1 x10 x11 xr hr er) dL_law_228 rfl rfl (Nat.le_of_ble_eq_true rfl) (Nat.le_of_ble_eq_true rfl) (Nat.le_of_ble_eq_true rfl) (Nat.le_of_ble_eq_true rfl) hf (fun x12 h13 hf => ?_)
        refine aw_aload_n 2 dL_law_231 rfl ?_
        refine aw_aload_n 0 dL_law_232 rfl ?_
        refine aw_iload_n 3 dL_law_233 rfl ?_
        refine aw_iconst (v := 1) dL_law_234 rfl ?_
        refine aw_iadd dL_law_235 ?_
        refine aw_sLd dL_law_236 hf (fun x14 hf => ?_)
        refine aw_aload_n 0 dL_law_237 rfl ?_
        refine aw_iload_n 3 dL_law_238 rfl ?_
        refine aw_iconst (v := 2) dL_law_239 rfl ?_
        refine aw_iadd dL_law_240 ?_
        refine aw_sLd dL_law_241 hf (fun x15 hf => ?_)
        refine aw_cV_wi (st := [.int x12]) [.int x14, .int x15] wV_RL_21 (ci := 8) rfl (fun xr hr er => c_X8_room g h13 y2 x14 x15 xr hr er) dL_law_242 rfl rfl (Nat.le_of_ble_eq_true rfl) (Nat.le_of_ble_eq_true rfl) (Nat.le_of_ble_eq_true rfl) (Nat.le_of_ble_eq_true rfl) hf (fun x16 h17 hf => ?_)
        refine aw_icmp_eq (tgt := 1039) dL_law_245 rfl (fun hc => ?_) (fun hc => ?_)
        · have hf := itp0 hc hf
          refine aw_iinc (y3 + 4) [(3, .int (y3 + 4)), (0, .ref (gS g)), (1, .ref y1), (2, .ref y2)] 3 dL_law_1039 rfl rfl (Nat.le_of_ble_eq_true rfl) rfl ?_
          refine aw_goto (tgt := 18) dL_law_1042 rfl ?_
          refine aw_pick [1, 2, 3, 0] rfl ?_
          exact ih h17 y1 y2 (y3 + 4) o ho hf
        · have hf := itn0 hc hf
          refine aw_iconst (v := 0) dL_law_248 rfl ?_
          obtain ⟨rfl, rfl⟩ := so2 hf
          refine aw_widen (k := 600000) (n := 7302250) (Nat.le_of_ble_eq_true rfl) (Nat.le_of_ble_eq_true rfl) ?_
          exact aw_zret dL_law_249 rfl rfl rfl
      have hf := itn0 hc1 hf
      by_cases hc2 : x1 &&& 63 = 2
      · have hf := itp0 hc2 hf
        refine aw_tsK (tgt := 250) (off := 218) (k := 2) hc2 rfl dL_law_32 (by decide) (by decide) rfl rfl ?_
        refine aw_aload_n 1 dL_law_250 rfl ?_
        refine aw_aload_n 0 dL_law_251 rfl ?_
        refine aw_iload_n 3 dL_law_252 rfl ?_
        refine aw_iconst (v := 1) dL_law_253 rfl ?_
        refine aw_iadd dL_law_254 ?_
        refine aw_sLd dL_law_255 hf (fun x18 hf => ?_)
        refine aw_aload_n 0 dL_law_256 rfl ?_
        refine aw_iload_n 3 dL_law_257 rfl ?_
        refine aw_iconst (v := 2) dL_law_258 rfl ?_
        refine aw_iadd dL_law_259 ?_
        refine aw_sLd dL_law_260 hf (fun x19 hf => ?_)
        refine aw_aload_n 0 dL_law_261 rfl ?_
        refine aw_iload_n 3 dL_law_262 rfl ?_
        refine aw_iconst (v := 3) dL_law_263 rfl ?_
        refine aw_iadd dL_law_264 ?_
        refine aw_sLd dL_law_265 hf (fun x20 hf => ?_)
        refine aw_cV_wi (st := []) [.int x18, .int x19, .int x20] wV_RL_22 (ci := 7) rfl (fun xr hr er => c_X7_door g h y1 x18 x19 x20 xr hr er) dL_law_266 rfl rfl (Nat.le_of_ble_eq_true rfl) (Nat.le_of_ble_eq_true rfl) (Nat.le_of_ble_eq_true rfl) (Nat.le_of_ble_eq_true rfl) hf (fun x21 h22 hf => ?_)
        refine aw_aload_n 2 dL_law_269 rfl ?_
        refine aw_aload_n 0 dL_law_270 rfl ?_
        refine aw_iload_n 3 dL_law_271 rfl ?_
        refine aw_iconst (v := 1) dL_law_272 rfl ?_
        refine aw_iadd dL_law_273 ?_
        refine aw_sLd dL_law_274 hf (fun x23 hf => ?_)
        refine aw_aload_n 0 dL_law_275 rfl ?_
        refine aw_iload_n 3 dL_law_276 rfl ?_
        refine aw_iconst (v := 2) dL_law_277 rfl ?_
        refine aw_iadd dL_law_278 ?_
        refine aw_sLd dL_law_279 hf (fun x24 hf => ?_)
        refine aw_aload_n 0 dL_law_280 rfl ?_
        refine aw_iload_n 3 dL_law_281 rfl ?_
        refine aw_iconst (v := 3) dL_law_282 rfl ?_
        refine aw_iadd dL_law_283 ?_
        refine aw_sLd dL_law_284 hf (fun x25 hf => ?_)
        refine aw_cV_wi (st := [.int x21]) [.int x23, .int x24, .int x25] wV_RL_26 (ci := 8) rfl (fun xr hr er => c_X8_door g h22 y2 x23 x24 x25 xr hr er) dL_law_285 rfl rfl (Nat.le_of_ble_eq_true rfl) (Nat.le_of_ble_eq_true rfl) (Nat.le_of_ble_eq_true rfl) (Nat.le_of_ble_eq_true rfl) hf (fun x26 h27 hf => ?_)
        refine aw_icmp_eq (tgt := 1039) dL_law_288 rfl (fun hc => ?_) (fun hc => ?_)
        · have hf := itp0 hc hf
          refine aw_iinc (y3 + 4) [(3, .int (y3 + 4)), (0, .ref (gS g)), (1, .ref y1), (2, .ref y2)] 3 dL_law_1039 rfl rfl (Nat.le_of_ble_eq_true rfl) rfl ?_
          refine aw_goto (tgt := 18) dL_law_1042 rfl ?_
          refine aw_pick [1, 2, 3, 0] rfl ?_
          exact ih h27 y1 y2 (y3 + 4) o ho hf
        · have hf := itn0 hc hf
          refine aw_iconst (v := 0) dL_law_291 rfl ?_
          obtain ⟨rfl, rfl⟩ := so2 hf
          refine aw_widen (k := 600000) (n := 7302250) (Nat.le_of_ble_eq_true rfl) (Nat.le_of_ble_eq_true rfl) ?_
          exact aw_zret dL_law_292 rfl rfl rfl
      have hf := itn0 hc2 hf
      by_cases hc3 : x1 &&& 63 = 3
      · have hf := itp0 hc3 hf
        refine aw_tsK (tgt := 293) (off := 261) (k := 3) hc3 rfl dL_law_32 (by decide) (by decide) rfl rfl ?_
        refine aw_aload_n 1 dL_law_293 rfl ?_
        refine aw_aload_n 0 dL_law_294 rfl ?_
        refine aw_iload_n 3 dL_law_295 rfl ?_
        refine aw_iconst (v := 1) dL_law_296 rfl ?_
        refine aw_iadd dL_law_297 ?_
        refine aw_sLd dL_law_298 hf (fun x28 hf => ?_)
        refine aw_cV_wi (st := []) [.int x28] wV_RL_27 (ci := 7) rfl (fun xr hr er => c_X7_list g h y1 x28 xr hr er) dL_law_299 rfl rfl (Nat.le_of_ble_eq_true rfl) (Nat.le_of_ble_eq_true rfl) (Nat.le_of_ble_eq_true rfl) (Nat.le_of_ble_eq_true rfl) hf (fun x29 h30 hf => ?_)
        refine aw_aload_n 2 dL_law_302 rfl ?_
        refine aw_aload_n 0 dL_law_303 rfl ?_
        refine aw_iload_n 3 dL_law_304 rfl ?_
        refine aw_iconst (v := 1) dL_law_305 rfl ?_
        refine aw_iadd dL_law_306 ?_
        refine aw_sLd dL_law_307 hf (fun x31 hf => ?_)
        refine aw_cV_wi (st := [.int x29]) [.int x31] wV_RL_31 (ci := 8) rfl (fun xr hr er => c_X8_list g h30 y2 x31 xr hr er) dL_law_308 rfl rfl (Nat.le_of_ble_eq_true rfl) (Nat.le_of_ble_eq_true rfl) (Nat.le_of_ble_eq_true rfl) (Nat.le_of_ble_eq_true rfl) hf (fun x32 h33 hf => ?_)
        refine aw_icmp_eq (tgt := 1039) dL_law_311 rfl (fun hc => ?_) (fun hc => ?_)
        · have hf := itp0 hc hf
          refine aw_iinc (y3 + 4) [(3, .int (y3 + 4)), (0, .ref (gS g)), (1, .ref y1), (2, .ref y2)] 3 dL_law_1039 rfl rfl (Nat.le_of_ble_eq_true rfl) rfl ?_
          refine aw_goto (tgt := 18) dL_law_1042 rfl ?_
          refine aw_pick [1, 2, 3, 0] rfl ?_
          exact ih h33 y1 y2 (y3 + 4) o ho hf
        · have hf := itn0 hc hf
          refine aw_iconst (v := 0) dL_law_314 rfl ?_
          obtain ⟨rfl, rfl⟩ := so2 hf
          refine aw_widen (k := 600000) (n := 7302250) (Nat.le_of_ble_eq_true rfl) (Nat.le_of_ble_eq_true rfl) ?_
          exact aw_zret dL_law_315 rfl rfl rfl
      have hf := itn0 hc3 hf
      by_cases hc4 : x1 &&& 63 = 4
      · have hf := itp0 hc4 hf
        refine aw_tsK (tgt := 316) (off := 284) (k := 4) hc4 rfl dL_law_32 (by decide) (by decide) rfl rfl ?_
        refine aw_aload_n 1 dL_law_316 rfl ?_
        refine aw_aload_n 0 dL_law_317 rfl ?_
        refine aw_iload_n 3 dL_law_318 rfl ?_
        refine aw_iconst (v := 1) dL_law_319 rfl ?_
        refine aw_iadd dL_law_320 ?_
        refine aw_sLd dL_law_321 hf (fun x34 hf => ?_)
        refine aw_cV_wi (st := []) [.int x34] wV_RL_32 (ci := 7) rfl (fun xr hr er => c_X7_only g h y1 x34 xr hr er) dL_law_322 rfl rfl (Nat.le_of_ble_eq_true rfl) (Nat.le_of_ble_eq_true rfl) (Nat.le_of_ble_eq_true rfl) (Nat.le_of_ble_eq_true rfl) hf (fun x35 h36 hf => ?_)
        refine aw_aload_n 2 dL_law_325 rfl ?_
        refine aw_aload_n 0 dL_law_326 rfl ?_
        refine aw_iload_n 3 dL_law_327 rfl ?_
        refine aw_iconst (v := 1) dL_law_328 rfl ?_
        refine aw_iadd dL_law_329 ?_
        refine aw_sLd dL_law_330 hf (fun x37 hf => ?_)
        refine aw_cV_wi (st := [.int x35]) [.int x37] wV_RL_35 (ci := 8) rfl (fun xr hr er => c_X8_only g h36 y2 x37 xr hr er) dL_law_331 rfl rfl (Nat.le_of_ble_eq_true rfl) (Nat.le_of_ble_eq_true rfl) (Nat.le_of_ble_eq_true rfl) (Nat.le_of_ble_eq_true rfl) hf (fun x38 h39 hf => ?_)
        refine aw_icmp_eq (tgt := 1039) dL_law_334 rfl (fun hc => ?_) (fun hc => ?_)
        · have hf := itp0 hc hf
          refine aw_iinc (y3 + 4) [(3, .int (y3 + 4)), (0, .ref (gS g)), (1, .ref y1), (2, .ref y2)] 3 dL_law_1039 rfl rfl (Nat.le_of_ble_eq_true rfl) rfl ?_
          refine aw_goto (tgt := 18) dL_law_1042 rfl ?_
          refine aw_pick [1, 2, 3, 0] rfl ?_
          exact ih h39 y1 y2 (y3 + 4) o ho hf
        · have hf := itn0 hc hf
          refine aw_iconst (v := 0) dL_law_337 rfl ?_
          obtain ⟨rfl, rfl⟩ := so2 hf
          refine aw_widen (k := 600000) (n := 7302250) (Nat.le_of_ble_eq_true rfl) (Nat.le_of_ble_eq_true rfl) ?_
          exact aw_zret dL_law_338 rfl rfl rfl
      have hf := itn0 hc4 hf
      by_cases hc5 : x1 &&& 63 = 5
      · have hf := itp0 hc5 hf
        refine aw_tsK (tgt := 339) (off := 307) (k := 5) hc5 rfl dL_law_32 (by decide) (by decide) rfl rfl ?_
        refine aw_aload_n 1 dL_law_339 rfl ?_
        refine aw_aload_n 0 dL_law_340 rfl ?_
        refine aw_iload_n 3 dL_law_341 rfl ?_
        refine aw_iconst (v := 1) dL_law_342 rfl ?_
        refine aw_iadd dL_law_343 ?_
        refine aw_sLd dL_law_344 hf (fun x40 hf => ?_)
        refine aw_cV_wi (st := []) [.int x40] wV_RL_36 (ci := 7) rfl (fun xr hr er => c_X7_eyes g h y1 x40 xr hr er) dL_law_345 rfl rfl (Nat.le_of_ble_eq_true rfl) (Nat.le_of_ble_eq_true rfl) (Nat.le_of_ble_eq_true rfl) (Nat.le_of_ble_eq_true rfl) hf (fun x41 h42 hf => ?_)
        refine aw_aload_n 2 dL_law_348 rfl ?_
        refine aw_aload_n 0 dL_law_349 rfl ?_
        refine aw_iload_n 3 dL_law_350 rfl ?_
        refine aw_iconst (v := 1) dL_law_351 rfl ?_
        refine aw_iadd dL_law_352 ?_
        refine aw_sLd dL_law_353 hf (fun x43 hf => ?_)
        refine aw_cV_wi (st := [.int x41]) [.int x43] wV_RL_39 (ci := 8) rfl (fun xr hr er => c_X8_eyes g h42 y2 x43 xr hr er) dL_law_354 rfl rfl (Nat.le_of_ble_eq_true rfl) (Nat.le_of_ble_eq_true rfl) (Nat.le_of_ble_eq_true rfl) (Nat.le_of_ble_eq_true rfl) hf (fun x44 h45 hf => ?_)
        refine aw_icmp_eq (tgt := 1039) dL_law_357 rfl (fun hc => ?_) (fun hc => ?_)
        · have hf := itp0 hc hf
          refine aw_iinc (y3 + 4) [(3, .int (y3 + 4)), (0, .ref (gS g)), (1, .ref y1), (2, .ref y2)] 3 dL_law_1039 rfl rfl (Nat.le_of_ble_eq_true rfl) rfl ?_
          refine aw_goto (tgt := 18) dL_law_1042 rfl ?_
          refine aw_pick [1, 2, 3, 0] rfl ?_
          exact ih h45 y1 y2 (y3 + 4) o ho hf
        · have hf := itn0 hc hf
          refine aw_iconst (v := 0) dL_law_360 rfl ?_
          obtain ⟨rfl, rfl⟩ := so2 hf
          refine aw_widen (k := 600000) (n := 7302250) (Nat.le_of_ble_eq_true rfl) (Nat.le_of_ble_eq_true rfl) ?_
          exact aw_zret dL_law_361 rfl rfl rfl
      have hf := itn0 hc5 hf
      by_cases hc6 : x1 &&& 63 = 6
      · have hf := itp0 hc6 hf
        refine aw_tsK (tgt := 362) (off := 330) (k := 6) hc6 rfl dL_law_32 (by decide) (by decide) rfl rfl ?_
        refine aw_aload_n 1 dL_law_362 rfl ?_
        refine aw_aload_n 0 dL_law_363 rfl ?_
        refine aw_iload_n 3 dL_law_364 rfl ?_
        refine aw_iconst (v := 1) dL_law_365 rfl ?_
        refine aw_iadd dL_law_366 ?_
        refine aw_sLd dL_law_367 hf (fun x46 hf => ?_)
        refine aw_aload_n 0 dL_law_368 rfl ?_
        refine aw_iload_n 3 dL_law_369 rfl ?_
        refine aw_iconst (v := 2) dL_law_370 rfl ?_
        refine aw_iadd dL_law_371 ?_
        refine aw_sLd dL_law_372 hf (fun x47 hf => ?_)
        refine aw_aload_n 0 dL_law_373 rfl ?_
        refine aw_iload_n 3 dL_law_374 rfl ?_
        refine aw_iconst (v := 3) dL_law_375 rfl ?_
        refine aw_iadd dL_law_376 ?_
        refine aw_sLd dL_law_377 hf (fun x48 hf => ?_)
        refine aw_cV_wi (st := []) [.int x46, .int x47, .int x48] wV_RL_40 (ci := 7) rfl (fun xr hr er => c_X7_heir g h y1 x46 x47 x48 xr hr er) dL_law_378 rfl rfl (Nat.le_of_ble_eq_true rfl) (Nat.le_of_ble_eq_true rfl) (Nat.le_of_ble_eq_true rfl) (Nat.le_of_ble_eq_true rfl) hf (fun x49 h50 hf => ?_)
        refine aw_aload_n 2 dL_law_381 rfl ?_
        refine aw_aload_n 0 dL_law_382 rfl ?_
        refine aw_iload_n 3 dL_law_383 rfl ?_
        refine aw_iconst (v := 1) dL_law_384 rfl ?_
        refine aw_iadd dL_law_385 ?_
        refine aw_sLd dL_law_386 hf (fun x51 hf => ?_)
        refine aw_aload_n 0 dL_law_387 rfl ?_
        refine aw_iload_n 3 dL_law_388 rfl ?_
        refine aw_iconst (v := 2) dL_law_389 rfl ?_
        refine aw_iadd dL_law_390 ?_
        refine aw_sLd dL_law_391 hf (fun x52 hf => ?_)
        refine aw_aload_n 0 dL_law_392 rfl ?_
        refine aw_iload_n 3 dL_law_393 rfl ?_
        refine aw_iconst (v := 3) dL_law_394 rfl ?_
        refine aw_iadd dL_law_395 ?_
        refine aw_sLd dL_law_396 hf (fun x53 hf => ?_)
        refine aw_cV_wi (st := [.int x49]) [.int x51, .int x52, .int x53] wV_RL_43 (ci := 8) rfl (fun xr hr er => c_X8_heir g h50 y2 x51 x52 x53 xr hr er) dL_law_397 rfl rfl (Nat.le_of_ble_eq_true rfl) (Nat.le_of_ble_eq_true rfl) (Nat.le_of_ble_eq_true rfl) (Nat.le_of_ble_eq_true rfl) hf (fun x54 h55 hf => ?_)
        refine aw_icmp_eq (tgt := 1039) dL_law_400 rfl (fun hc => ?_) (fun hc => ?_)
        · have hf := itp0 hc hf
          refine aw_iinc (y3 + 4) [(3, .int (y3 + 4)), (0, .ref (gS g)), (1, .ref y1), (2, .ref y2)] 3 dL_law_1039 rfl rfl (Nat.le_of_ble_eq_true rfl) rfl ?_
          refine aw_goto (tgt := 18) dL_law_1042 rfl ?_
          refine aw_pick [1, 2, 3, 0] rfl ?_
          exact ih h55 y1 y2 (y3 + 4) o ho hf
        · have hf := itn0 hc hf
          refine aw_iconst (v := 0) dL_law_403 rfl ?_
          obtain ⟨rfl, rfl⟩ := so2 hf
          refine aw_widen (k := 600000) (n := 7302250) (Nat.le_of_ble_eq_true rfl) (Nat.le_of_ble_eq_true rfl) ?_
          exact aw_zret dL_law_404 rfl rfl rfl
      have hf := itn0 hc6 hf
      by_cases hc7 : x1 &&& 63 = 7
      · have hf := itp0 hc7 hf
        refine aw_tsK (tgt := 405) (off := 373) (k := 7) hc7 rfl dL_law_32 (by decide) (by decide) rfl rfl ?_
        refine aw_aload_n 1 dL_law_405 rfl ?_
        refine aw_aload_n 0 dL_law_406 rfl ?_
        refine aw_iload_n 3 dL_law_407 rfl ?_
        refine aw_iconst (v := 1) dL_law_408 rfl ?_
        refine aw_iadd dL_law_409 ?_
        refine aw_sLd dL_law_410 hf (fun x56 hf => ?_)
        refine aw_cV_wi (st := []) [.int x56] wV_RL_44 (ci := 7) rfl (fun xr hr er => c_X7_type g h y1 x56 xr hr er) dL_law_411 rfl rfl (Nat.le_of_ble_eq_true rfl) (Nat.le_of_ble_eq_true rfl) (Nat.le_of_ble_eq_true rfl) (Nat.le_of_ble_eq_true rfl) hf (fun x57 h58 hf => ?_)
        refine aw_aload_n 2 dL_law_414 rfl ?_
        refine aw_aload_n 0 dL_law_415 rfl ?_
        refine aw_iload_n 3 dL_law_416 rfl ?_
        refine aw_iconst (v := 1) dL_law_417 rfl ?_
        refine aw_iadd dL_law_418 ?_
        refine aw_sLd dL_law_419 hf (fun x59 hf => ?_)
        refine aw_cV_wi (st := [.int x57]) [.int x59] wV_RL_47 (ci := 8) rfl (fun xr hr er => c_X8_type g h58 y2 x59 xr hr er) dL_law_420 rfl rfl (Nat.le_of_ble_eq_true rfl) (Nat.le_of_ble_eq_true rfl) (Nat.le_of_ble_eq_true rfl) (Nat.le_of_ble_eq_true rfl) hf (fun x60 h61 hf => ?_)
        refine aw_icmp_eq (tgt := 1039) dL_law_423 rfl (fun hc => ?_) (fun hc => ?_)
        · have hf := itp0 hc hf
          refine aw_iinc (y3 + 4) [(3, .int (y3 + 4)), (0, .ref (gS g)), (1, .ref y1), (2, .ref y2)] 3 dL_law_1039 rfl rfl (Nat.le_of_ble_eq_true rfl) rfl ?_
          refine aw_goto (tgt := 18) dL_law_1042 rfl ?_
          refine aw_pick [1, 2, 3, 0] rfl ?_
          exact ih h61 y1 y2 (y3 + 4) o ho hf
        · have hf := itn0 hc hf
          refine aw_iconst (v := 0) dL_law_426 rfl ?_
          obtain ⟨rfl, rfl⟩ := so2 hf
          refine aw_widen (k := 600000) (n := 7302250) (Nat.le_of_ble_eq_true rfl) (Nat.le_of_ble_eq_true rfl) ?_
          exact aw_zret dL_law_427 rfl rfl rfl
      have hf := itn0 hc7 hf
      by_cases hc8 : x1 &&& 63 = 8
      · have hf := itp0 hc8 hf
        refine aw_tsK (tgt := 428) (off := 396) (k := 8) hc8 rfl dL_law_32 (by decide) (by decide) rfl rfl ?_
        refine aw_aload_n 1 dL_law_428 rfl ?_
        refine aw_cV_wi (st := []) [] wV_RL_48 (ci := 7) rfl (fun xr hr er => c_X7_clear g h y1 xr hr er) dL_law_429 rfl rfl (Nat.le_of_ble_eq_true rfl) (Nat.le_of_ble_eq_true rfl) (Nat.le_of_ble_eq_true rfl) (Nat.le_of_ble_eq_true rfl) hf (fun x62 h63 hf => ?_)
        refine aw_aload_n 2 dL_law_432 rfl ?_
        refine aw_cV_wi (st := [.int x62]) [] wV_RL_52 (ci := 8) rfl (fun xr hr er => c_X8_clear g h63 y2 xr hr er) dL_law_433 rfl rfl (Nat.le_of_ble_eq_true rfl) (Nat.le_of_ble_eq_true rfl) (Nat.le_of_ble_eq_true rfl) (Nat.le_of_ble_eq_true rfl) hf (fun x64 h65 hf => ?_)
        refine aw_icmp_eq (tgt := 1039) dL_law_436 rfl (fun hc => ?_) (fun hc => ?_)
        · have hf := itp0 hc hf
          refine aw_iinc (y3 + 4) [(3, .int (y3 + 4)), (0, .ref (gS g)), (1, .ref y1), (2, .ref y2)] 3 dL_law_1039 rfl rfl (Nat.le_of_ble_eq_true rfl) rfl ?_
          refine aw_goto (tgt := 18) dL_law_1042 rfl ?_
          refine aw_pick [1, 2, 3, 0] rfl ?_
          exact ih h65 y1 y2 (y3 + 4) o ho hf
        · have hf := itn0 hc hf
          refine aw_iconst (v := 0) dL_law_439 rfl ?_
          obtain ⟨rfl, rfl⟩ := so2 hf
          refine aw_widen (k := 600000) (n := 7302250) (Nat.le_of_ble_eq_true rfl) (Nat.le_of_ble_eq_true rfl) ?_
          exact aw_zret dL_law_440 rfl rfl rfl
      have hf := itn0 hc8 hf
      by_cases hc9 : x1 &&& 63 = 9
      · have hf := itp0 hc9 hf
        refine aw_tsK (tgt := 441) (off := 409) (k := 9) hc9 rfl dL_law_32 (by decide) (by decide) rfl rfl ?_
        refine aw_aload_n 1 dL_law_441 rfl ?_
        refine aw_cV_wi (st := []) [] wV_RL_53 (ci := 7) rfl (fun xr hr er => c_X7_read g h y1 xr hr er) dL_law_442 rfl rfl (Nat.le_of_ble_eq_true rfl) (Nat.le_of_ble_eq_true rfl) (Nat.le_of_ble_eq_true rfl) (Nat.le_of_ble_eq_true rfl) hf (fun x66 h67 hf => ?_)
        refine aw_aload_n 2 dL_law_445 rfl ?_
        refine aw_cV_wi (st := [.int x66]) [] wV_RL_56 (ci := 8) rfl (fun xr hr er => c_X8_read g h67 y2 xr hr er) dL_law_446 rfl rfl (Nat.le_of_ble_eq_true rfl) (Nat.le_of_ble_eq_true rfl) (Nat.le_of_ble_eq_true rfl) (Nat.le_of_ble_eq_true rfl) hf (fun x68 h69 hf => ?_)
        refine aw_icmp_eq (tgt := 1039) dL_law_449 rfl (fun hc => ?_) (fun hc => ?_)
        · have hf := itp0 hc hf
          refine aw_iinc (y3 + 4) [(3, .int (y3 + 4)), (0, .ref (gS g)), (1, .ref y1), (2, .ref y2)] 3 dL_law_1039 rfl rfl (Nat.le_of_ble_eq_true rfl) rfl ?_
          refine aw_goto (tgt := 18) dL_law_1042 rfl ?_
          refine aw_pick [1, 2, 3, 0] rfl ?_
          exact ih h69 y1 y2 (y3 + 4) o ho hf
        · have hf := itn0 hc hf
          refine aw_iconst (v := 0) dL_law_452 rfl ?_
          obtain ⟨rfl, rfl⟩ := so2 hf
          refine aw_widen (k := 600000) (n := 7302250) (Nat.le_of_ble_eq_true rfl) (Nat.le_of_ble_eq_true rfl) ?_
          exact aw_zret dL_law_453 rfl rfl rfl
      have hf := itn0 hc9 hf
      by_cases hc10 : x1 &&& 63 = 10
      · have hf := itp0 hc10 hf
        refine aw_tsK (tgt := 454) (off := 422) (k := 10) hc10 rfl dL_law_32 (by decide) (by decide) rfl rfl ?_
        refine aw_aload_n 1 dL_law_454 rfl ?_
        refine aw_aload_n 0 dL_law_455 rfl ?_
        refine aw_iload_n 3 dL_law_456 rfl ?_
        refine aw_iconst (v := 1) dL_law_457 rfl ?_
        refine aw_iadd dL_law_458 ?_
        refine aw_sLd dL_law_459 hf (fun x70 hf => ?_)
        refine aw_aload_n 0 dL_law_460 rfl ?_
        refine aw_iload_n 3 dL_law_461 rfl ?_
        refine aw_iconst (v := 2) dL_law_462 rfl ?_
        refine aw_iadd dL_law_463 ?_
        refine aw_sLd dL_law_464 hf (fun x71 hf => ?_)
        refine aw_cV_wi (st := []) [.int x70, .int x71] wV_RL_57 (ci := 7) rfl (fun xr hr er => c_X7_move g h y1 x70 x71 xr hr er) dL_law_465 rfl rfl (Nat.le_of_ble_eq_true rfl) (Nat.le_of_ble_eq_true rfl) (Nat.le_of_ble_eq_true rfl) (Nat.le_of_ble_eq_true rfl) hf (fun x72 h73 hf => ?_)
        refine aw_aload_n 2 dL_law_468 rfl ?_
        refine aw_aload_n 0 dL_law_469 rfl ?_
        refine aw_iload_n 3 dL_law_470 rfl ?_
        refine aw_iconst (v := 1) dL_law_471 rfl ?_
        refine aw_iadd dL_law_472 ?_
        refine aw_sLd dL_law_473 hf (fun x74 hf => ?_)
        refine aw_aload_n 0 dL_law_474 rfl ?_
        refine aw_iload_n 3 dL_law_475 rfl ?_
        refine aw_iconst (v := 2) dL_law_476 rfl ?_
        refine aw_iadd dL_law_477 ?_
        refine aw_sLd dL_law_478 hf (fun x75 hf => ?_)
        refine aw_cV_wi (st := [.int x72]) [.int x74, .int x75] wV_RL_60 (ci := 8) rfl (fun xr hr er => c_X8_move g h73 y2 x74 x75 xr hr er) dL_law_479 rfl rfl (Nat.le_of_ble_eq_true rfl) (Nat.le_of_ble_eq_true rfl) (Nat.le_of_ble_eq_true rfl) (Nat.le_of_ble_eq_true rfl) hf (fun x76 h77 hf => ?_)
        refine aw_icmp_eq (tgt := 1039) dL_law_482 rfl (fun hc => ?_) (fun hc => ?_)
        · have hf := itp0 hc hf
          refine aw_iinc (y3 + 4) [(3, .int (y3 + 4)), (0, .ref (gS g)), (1, .ref y1), (2, .ref y2)] 3 dL_law_1039 rfl rfl (Nat.le_of_ble_eq_true rfl) rfl ?_
          refine aw_goto (tgt := 18) dL_law_1042 rfl ?_
          refine aw_pick [1, 2, 3, 0] rfl ?_
          exact ih h77 y1 y2 (y3 + 4) o ho hf
        · have hf := itn0 hc hf
          refine aw_iconst (v := 0) dL_law_485 rfl ?_
          obtain ⟨rfl, rfl⟩ := so2 hf
          refine aw_widen (k := 600000) (n := 7302250) (Nat.le_of_ble_eq_true rfl) (Nat.le_of_ble_eq_true rfl) ?_
          exact aw_zret dL_law_486 rfl rfl rfl
      have hf := itn0 hc10 hf
      by_cases hc11 : x1 &&& 63 = 11
      · have hf := itp0 hc11 hf
        refine aw_tsK (tgt := 487) (off := 455) (k := 11) hc11 rfl dL_law_32 (by decide) (by decide) rfl rfl ?_
        refine aw_aload_n 1 dL_law_487 rfl ?_
        refine aw_cV_wi (st := []) [] wV_RL_61 (ci := 7) rfl (fun xr hr er => c_X7_night g h y1 xr hr er) dL_law_488 rfl rfl (Nat.le_of_ble_eq_true rfl) (Nat.le_of_ble_eq_true rfl) (Nat.le_of_ble_eq_true rfl) (Nat.le_of_ble_eq_true rfl) hf (fun x78 h79 hf => ?_)
        refine aw_aload_n 2 dL_law_491 rfl ?_
        refine aw_cV_wi (st := [.int x78]) [] wV_RL_64 (ci := 8) rfl (fun xr hr er => c_X8_night g h79 y2 xr hr er) dL_law_492 rfl rfl (Nat.le_of_ble_eq_true rfl) (Nat.le_of_ble_eq_true rfl) (Nat.le_of_ble_eq_true rfl) (Nat.le_of_ble_eq_true rfl) hf (fun x80 h81 hf => ?_)
        refine aw_icmp_eq (tgt := 1039) dL_law_495 rfl (fun hc => ?_) (fun hc => ?_)
        · have hf := itp0 hc hf
          refine aw_iinc (y3 + 4) [(3, .int (y3 + 4)), (0, .ref (gS g)), (1, .ref y1), (2, .ref y2)] 3 dL_law_1039 rfl rfl (Nat.le_of_ble_eq_true rfl) rfl ?_
          refine aw_goto (tgt := 18) dL_law_1042 rfl ?_
          refine aw_pick [1, 2, 3, 0] rfl ?_
          exact ih h81 y1 y2 (y3 + 4) o ho hf
        · have hf := itn0 hc hf
          refine aw_iconst (v := 0) dL_law_498 rfl ?_
          obtain ⟨rfl, rfl⟩ := so2 hf
          refine aw_widen (k := 600000) (n := 7302250) (Nat.le_of_ble_eq_true rfl) (Nat.le_of_ble_eq_true rfl) ?_
          exact aw_zret dL_law_499 rfl rfl rfl
      have hf := itn0 hc11 hf
      by_cases hc12 : x1 &&& 63 = 12
      · have hf := itp0 hc12 hf
        refine aw_tsK (tgt := 500) (off := 468) (k := 12) hc12 rfl dL_law_32 (by decide) (by decide) rfl rfl ?_
        refine aw_aload_n 1 dL_law_500 rfl ?_
        refine aw_cV_wi (st := []) [] wV_RL_65 (ci := 7) rfl (fun xr hr er => c_X7_undo g h y1 xr hr er) dL_law_501 rfl rfl (Nat.le_of_ble_eq_true rfl) (Nat.le_of_ble_eq_true rfl) (Nat.le_of_ble_eq_true rfl) (Nat.le_of_ble_eq_true rfl) hf (fun x82 h83 hf => ?_)
        refine aw_aload_n 2 dL_law_504 rfl ?_
        refine aw_cV_wi (st := [.int x82]) [] wV_RL_68 (ci := 8) rfl (fun xr hr er => c_X8_undo g h83 y2 xr hr er) dL_law_505 rfl rfl (Nat.le_of_ble_eq_true rfl) (Nat.le_of_ble_eq_true rfl) (Nat.le_of_ble_eq_true rfl) (Nat.le_of_ble_eq_true rfl) hf (fun x84 h85 hf => ?_)
        refine aw_icmp_eq (tgt := 1039) dL_law_508 rfl (fun hc => ?_) (fun hc => ?_)
        · have hf := itp0 hc hf
          refine aw_iinc (y3 + 4) [(3, .int (y3 + 4)), (0, .ref (gS g)), (1, .ref y1), (2, .ref y2)] 3 dL_law_1039 rfl rfl (Nat.le_of_ble_eq_true rfl) rfl ?_
          refine aw_goto (tgt := 18) dL_law_1042 rfl ?_
          refine aw_pick [1, 2, 3, 0] rfl ?_
          exact ih h85 y1 y2 (y3 + 4) o ho hf
        · have hf := itn0 hc hf
          refine aw_iconst (v := 0) dL_law_511 rfl ?_
          obtain ⟨rfl, rfl⟩ := so2 hf
          refine aw_widen (k := 600000) (n := 7302250) (Nat.le_of_ble_eq_true rfl) (Nat.le_of_ble_eq_true rfl) ?_
          exact aw_zret dL_law_512 rfl rfl rfl
      have hf := itn0 hc12 hf
      by_cases hc13 : x1 &&& 63 = 13
      · have hf := itp0 hc13 hf
        refine aw_tsK (tgt := 513) (off := 481) (k := 13) hc13 rfl dL_law_32 (by decide) (by decide) rfl rfl ?_
        refine aw_aload_n 1 dL_law_513 rfl ?_
        refine aw_aload_n 0 dL_law_514 rfl ?_
        refine aw_iload_n 3 dL_law_515 rfl ?_
        refine aw_iconst (v := 1) dL_law_516 rfl ?_
        refine aw_iadd dL_law_517 ?_
        refine aw_sLd dL_law_518 hf (fun x86 hf => ?_)
        refine aw_aload_n 0 dL_law_519 rfl ?_
        refine aw_iload_n 3 dL_law_520 rfl ?_
        refine aw_iconst (v := 2) dL_law_521 rfl ?_
        refine aw_iadd dL_law_522 ?_
        refine aw_sLd dL_law_523 hf (fun x87 hf => ?_)
        refine aw_cV_wi (st := []) [.int x86, .int x87] wV_RL_69 (ci := 7) rfl (fun xr hr er => c_X7_of g h y1 x86 x87 xr hr er) dL_law_524 rfl rfl (Nat.le_of_ble_eq_true rfl) (Nat.le_of_ble_eq_true rfl) (Nat.le_of_ble_eq_true rfl) (Nat.le_of_ble_eq_true rfl) hf (fun x88 h89 hf => ?_)
        refine aw_aload_n 2 dL_law_527 rfl ?_
        refine aw_aload_n 0 dL_law_528 rfl ?_
        refine aw_iload_n 3 dL_law_529 rfl ?_
        refine aw_iconst (v := 1) dL_law_530 rfl ?_
        refine aw_iadd dL_law_531 ?_
        refine aw_sLd dL_law_532 hf (fun x90 hf => ?_)
        refine aw_aload_n 0 dL_law_533 rfl ?_
        refine aw_iload_n 3 dL_law_534 rfl ?_
        refine aw_iconst (v := 2) dL_law_535 rfl ?_
        refine aw_iadd dL_law_536 ?_
        refine aw_sLd dL_law_537 hf (fun x91 hf => ?_)
        refine aw_cV_wi (st := [.int x88]) [.int x90, .int x91] wV_RL_72 (ci := 8) rfl (fun xr hr er => c_X8_of g h89 y2 x90 x91 xr hr er) dL_law_538 rfl rfl (Nat.le_of_ble_eq_true rfl) (Nat.le_of_ble_eq_true rfl) (Nat.le_of_ble_eq_true rfl) (Nat.le_of_ble_eq_true rfl) hf (fun x92 h93 hf => ?_)
        refine aw_icmp_eq (tgt := 1039) dL_law_541 rfl (fun hc => ?_) (fun hc => ?_)
        · have hf := itp0 hc hf
          refine aw_iinc (y3 + 4) [(3, .int (y3 + 4)), (0, .ref (gS g)), (1, .ref y1), (2, .ref y2)] 3 dL_law_1039 rfl rfl (Nat.le_of_ble_eq_true rfl) rfl ?_
          refine aw_goto (tgt := 18) dL_law_1042 rfl ?_
          refine aw_pick [1, 2, 3, 0] rfl ?_
          exact ih h93 y1 y2 (y3 + 4) o ho hf
        · have hf := itn0 hc hf
          refine aw_iconst (v := 0) dL_law_544 rfl ?_
          obtain ⟨rfl, rfl⟩ := so2 hf
          refine aw_widen (k := 600000) (n := 7302250) (Nat.le_of_ble_eq_true rfl) (Nat.le_of_ble_eq_true rfl) ?_
          exact aw_zret dL_law_545 rfl rfl rfl
      have hf := itn0 hc13 hf
      by_cases hc14 : x1 &&& 63 = 14
      · have hf := itp0 hc14 hf
        refine aw_tsK (tgt := 546) (off := 514) (k := 14) hc14 rfl dL_law_32 (by decide) (by decide) rfl rfl ?_
        refine aw_aload_n 1 dL_law_546 rfl ?_
        refine aw_aload_n 0 dL_law_547 rfl ?_
        refine aw_iload_n 3 dL_law_548 rfl ?_
        refine aw_iconst (v := 1) dL_law_549 rfl ?_
        refine aw_iadd dL_law_550 ?_
        refine aw_sLd dL_law_551 hf (fun x94 hf => ?_)
        refine aw_cV_wi (st := []) [.int x94] wV_RL_73 (ci := 7) rfl (fun xr hr er => c_X7_looks g h y1 x94 xr hr er) dL_law_552 rfl rfl (Nat.le_of_ble_eq_true rfl) (Nat.le_of_ble_eq_true rfl) (Nat.le_of_ble_eq_true rfl) (Nat.le_of_ble_eq_true rfl) hf (fun x95 h96 hf => ?_)
        refine aw_aload_n 2 dL_law_555 rfl ?_
        refine aw_aload_n 0 dL_law_556 rfl ?_
        refine aw_iload_n 3 dL_law_557 rfl ?_
        refine aw_iconst (v := 1) dL_law_558 rfl ?_
        refine aw_iadd dL_law_559 ?_
        refine aw_sLd dL_law_560 hf (fun x97 hf => ?_)
        refine aw_cV_wi (st := [.int x95]) [.int x97] wV_RL_76 (ci := 8) rfl (fun xr hr er => c_X8_looks g h96 y2 x97 xr hr er) dL_law_561 rfl rfl (Nat.le_of_ble_eq_true rfl) (Nat.le_of_ble_eq_true rfl) (Nat.le_of_ble_eq_true rfl) (Nat.le_of_ble_eq_true rfl) hf (fun x98 h99 hf => ?_)
        refine aw_icmp_eq (tgt := 1039) dL_law_564 rfl (fun hc => ?_) (fun hc => ?_)
        · have hf := itp0 hc hf
          refine aw_iinc (y3 + 4) [(3, .int (y3 + 4)), (0, .ref (gS g)), (1, .ref y1), (2, .ref y2)] 3 dL_law_1039 rfl rfl (Nat.le_of_ble_eq_true rfl) rfl ?_
          refine aw_goto (tgt := 18) dL_law_1042 rfl ?_
          refine aw_pick [1, 2, 3, 0] rfl ?_
          exact ih h99 y1 y2 (y3 + 4) o ho hf
        · have hf := itn0 hc hf
          refine aw_iconst (v := 0) dL_law_567 rfl ?_
          obtain ⟨rfl, rfl⟩ := so2 hf
          refine aw_widen (k := 600000) (n := 7302250) (Nat.le_of_ble_eq_true rfl) (Nat.le_of_ble_eq_true rfl) ?_
          exact aw_zret dL_law_568 rfl rfl rfl
      have hf := itn0 hc14 hf
      by_cases hc15 : x1 &&& 63 = 15
      · have hf := itp0 hc15 hf
        refine aw_tsK (tgt := 569) (off := 537) (k := 15) hc15 rfl dL_law_32 (by decide) (by decide) rfl rfl ?_
        refine aw_aload_n 1 dL_law_569 rfl ?_
        refine aw_aload_n 0 dL_law_570 rfl ?_
        refine aw_iload_n 3 dL_law_571 rfl ?_
        refine aw_iconst (v := 1) dL_law_572 rfl ?_
        refine aw_iadd dL_law_573 ?_
        refine aw_sLd dL_law_574 hf (fun x100 hf => ?_)
        refine aw_aload_n 0 dL_law_575 rfl ?_
        refine aw_iload_n 3 dL_law_576 rfl ?_
        refine aw_iconst (v := 2) dL_law_577 rfl ?_
        refine aw_iadd dL_law_578 ?_
        refine aw_sLd dL_law_579 hf (fun x101 hf => ?_)
        refine aw_aload_n 0 dL_law_580 rfl ?_
        refine aw_iload_n 3 dL_law_581 rfl ?_
        refine aw_iconst (v := 3) dL_law_582 rfl ?_
        refine aw_iadd dL_law_583 ?_
        refine aw_sLd dL_law_584 hf (fun x102 hf => ?_)
        refine aw_cV_wi (st := []) [.int x100, .int x101, .int x102] wV_RL_77 (ci := 7) rfl (fun xr hr er => c_X7_byThen g h y1 x100 x101 x102 xr hr er) dL_law_585 rfl rfl (Nat.le_of_ble_eq_true rfl) (Nat.le_of_ble_eq_true rfl) (Nat.le_of_ble_eq_true rfl) (Nat.le_of_ble_eq_true rfl) hf (fun x103 h104 hf => ?_)
        refine aw_aload_n 2 dL_law_588 rfl ?_
        refine aw_aload_n 0 dL_law_589 rfl ?_
        refine aw_iload_n 3 dL_law_590 rfl ?_
        refine aw_iconst (v := 1) dL_law_591 rfl ?_
        refine aw_iadd dL_law_592 ?_
        refine aw_sLd dL_law_593 hf (fun x105 hf => ?_)
        refine aw_aload_n 0 dL_law_594 rfl ?_
        refine aw_iload_n 3 dL_law_595 rfl ?_
        refine aw_iconst (v := 2) dL_law_596 rfl ?_
        refine aw_iadd dL_law_597 ?_
        refine aw_sLd dL_law_598 hf (fun x106 hf => ?_)
        refine aw_aload_n 0 dL_law_599 rfl ?_
        refine aw_iload_n 3 dL_law_600 rfl ?_
        refine aw_iconst (v := 3) dL_law_601 rfl ?_
        refine aw_iadd dL_law_602 ?_
        refine aw_sLd dL_law_603 hf (fun x107 hf => ?_)
        refine aw_cV_wi (st := [.int x103]) [.int x105, .int x106, .int x107] wV_RL_80 (ci := 8) rfl (fun xr hr er => c_X8_byThen g h104 y2 x105 x106 x107 xr hr er) dL_law_604 rfl rfl (Nat.le_of_ble_eq_true rfl) (Nat.le_of_ble_eq_true rfl) (Nat.le_of_ble_eq_true rfl) (Nat.le_of_ble_eq_true rfl) hf (fun x108 h109 hf => ?_)
        refine aw_icmp_eq (tgt := 1039) dL_law_607 rfl (fun hc => ?_) (fun hc => ?_)
        · have hf := itp0 hc hf
          refine aw_iinc (y3 + 4) [(3, .int (y3 + 4)), (0, .ref (gS g)), (1, .ref y1), (2, .ref y2)] 3 dL_law_1039 rfl rfl (Nat.le_of_ble_eq_true rfl) rfl ?_
          refine aw_goto (tgt := 18) dL_law_1042 rfl ?_
          refine aw_pick [1, 2, 3, 0] rfl ?_
          exact ih h109 y1 y2 (y3 + 4) o ho hf
        · have hf := itn0 hc hf
          refine aw_iconst (v := 0) dL_law_610 rfl ?_
          obtain ⟨rfl, rfl⟩ := so2 hf
          refine aw_widen (k := 600000) (n := 7302250) (Nat.le_of_ble_eq_true rfl) (Nat.le_of_ble_eq_true rfl) ?_
          exact aw_zret dL_law_611 rfl rfl rfl
      have hf := itn0 hc15 hf
      by_cases hc16 : x1 &&& 63 = 16
      · have hf := itp0 hc16 hf
        refine aw_tsK (tgt := 612) (off := 580) (k := 16) hc16 rfl dL_law_32 (by decide) (by decide) rfl rfl ?_
        refine aw_aload_n 1 dL_law_612 rfl ?_
        refine aw_aload_n 0 dL_law_613 rfl ?_
        refine aw_iload_n 3 dL_law_614 rfl ?_
        refine aw_iconst (v := 1) dL_law_615 rfl ?_
        refine aw_iadd dL_law_616 ?_
        refine aw_sLd dL_law_617 hf (fun x110 hf => ?_)
        refine aw_cV_wi (st := []) [.int x110] wV_RL_81 (ci := 7) rfl (fun xr hr er => c_X7_first g h y1 x110 xr hr er) dL_law_618 rfl rfl (Nat.le_of_ble_eq_true rfl) (Nat.le_of_ble_eq_true rfl) (Nat.le_of_ble_eq_true rfl) (Nat.le_of_ble_eq_true rfl) hf (fun x111 h112 hf => ?_)
        refine aw_aload_n 2 dL_law_621 rfl ?_
        refine aw_aload_n 0 dL_law_622 rfl ?_
        refine aw_iload_n 3 dL_law_623 rfl ?_
        refine aw_iconst (v := 1) dL_law_624 rfl ?_
        refine aw_iadd dL_law_625 ?_
        refine aw_sLd dL_law_626 hf (fun x113 hf => ?_)
        refine aw_cV_wi (st := [.int x111]) [.int x113] wV_RL_84 (ci := 8) rfl (fun xr hr er => c_X8_first g h112 y2 x113 xr hr er) dL_law_627 rfl rfl (Nat.le_of_ble_eq_true rfl) (Nat.le_of_ble_eq_true rfl) (Nat.le_of_ble_eq_true rfl) (Nat.le_of_ble_eq_true rfl) hf (fun x114 h115 hf => ?_)
        refine aw_icmp_eq (tgt := 1039) dL_law_630 rfl (fun hc => ?_) (fun hc => ?_)
        · have hf := itp0 hc hf
          refine aw_iinc (y3 + 4) [(3, .int (y3 + 4)), (0, .ref (gS g)), (1, .ref y1), (2, .ref y2)] 3 dL_law_1039 rfl rfl (Nat.le_of_ble_eq_true rfl) rfl ?_
          refine aw_goto (tgt := 18) dL_law_1042 rfl ?_
          refine aw_pick [1, 2, 3, 0] rfl ?_
          exact ih h115 y1 y2 (y3 + 4) o ho hf
        · have hf := itn0 hc hf
          refine aw_iconst (v := 0) dL_law_633 rfl ?_
          obtain ⟨rfl, rfl⟩ := so2 hf
          refine aw_widen (k := 600000) (n := 7302250) (Nat.le_of_ble_eq_true rfl) (Nat.le_of_ble_eq_true rfl) ?_
          exact aw_zret dL_law_634 rfl rfl rfl
      have hf := itn0 hc16 hf
      by_cases hc17 : x1 &&& 63 = 17
      · have hf := itp0 hc17 hf
        refine aw_tsK (tgt := 635) (off := 603) (k := 17) hc17 rfl dL_law_32 (by decide) (by decide) rfl rfl ?_
        refine aw_aload_n 1 dL_law_635 rfl ?_
        refine aw_cV_i (st := []) [] wV_RL_85 (ci := 7) rfl (fun xr er => c_X7_passed g h y1 xr er) dL_law_636 rfl rfl (Nat.le_of_ble_eq_true rfl) (Nat.le_of_ble_eq_true rfl) (Nat.le_of_ble_eq_true rfl) (Nat.le_of_ble_eq_true rfl) hf (fun x116 hf => ?_)
        refine aw_aload_n 2 dL_law_639 rfl ?_
        refine aw_cV_wi (st := [.int x116]) [] wV_RL_88 (ci := 8) rfl (fun xr hr er => c_X8_passed g h y2 xr hr er) dL_law_640 rfl rfl (Nat.le_of_ble_eq_true rfl) (Nat.le_of_ble_eq_true rfl) (Nat.le_of_ble_eq_true rfl) (Nat.le_of_ble_eq_true rfl) hf (fun x117 h118 hf => ?_)
        refine aw_icmp_eq (tgt := 1039) dL_law_643 rfl (fun hc => ?_) (fun hc => ?_)
        · have hf := itp0 hc hf
          refine aw_iinc (y3 + 4) [(3, .int (y3 + 4)), (0, .ref (gS g)), (1, .ref y1), (2, .ref y2)] 3 dL_law_1039 rfl rfl (Nat.le_of_ble_eq_true rfl) rfl ?_
          refine aw_goto (tgt := 18) dL_law_1042 rfl ?_
          refine aw_pick [1, 2, 3, 0] rfl ?_
          exact ih h118 y1 y2 (y3 + 4) o ho hf
        · have hf := itn0 hc hf
          refine aw_iconst (v := 0) dL_law_646 rfl ?_
          obtain ⟨rfl, rfl⟩ := so2 hf
          refine aw_widen (k := 600000) (n := 7302250) (Nat.le_of_ble_eq_true rfl) (Nat.le_of_ble_eq_true rfl) ?_
          exact aw_zret dL_law_647 rfl rfl rfl
      have hf := itn0 hc17 hf
      by_cases hc18 : x1 &&& 63 = 18
      · have hf := itp0 hc18 hf
        refine aw_tsK (tgt := 648) (off := 616) (k := 18) hc18 rfl dL_law_32 (by decide) (by decide) rfl rfl ?_
        refine aw_aload_n 1 dL_law_648 rfl ?_
        refine aw_aload_n 0 dL_law_649 rfl ?_
        refine aw_iload_n 3 dL_law_650 rfl ?_
        refine aw_iconst (v := 1) dL_law_651 rfl ?_
        refine aw_iadd dL_law_652 ?_
        refine aw_sLd dL_law_653 hf (fun x119 hf => ?_)
        refine aw_cV_wi (st := []) [.int x119] wV_RL_89 (ci := 7) rfl (fun xr hr er => c_X7_hide g h y1 x119 xr hr er) dL_law_654 rfl rfl (Nat.le_of_ble_eq_true rfl) (Nat.le_of_ble_eq_true rfl) (Nat.le_of_ble_eq_true rfl) (Nat.le_of_ble_eq_true rfl) hf (fun x120 h121 hf => ?_)
        refine aw_aload_n 2 dL_law_657 rfl ?_
        refine aw_aload_n 0 dL_law_658 rfl ?_
        refine aw_iload_n 3 dL_law_659 rfl ?_
        refine aw_iconst (v := 1) dL_law_660 rfl ?_
        refine aw_iadd dL_law_661 ?_
        refine aw_sLd dL_law_662 hf (fun x122 hf => ?_)
        refine aw_cV_wi (st := [.int x120]) [.int x122] wV_RL_92 (ci := 8) rfl (fun xr hr er => c_X8_hide g h121 y2 x122 xr hr er) dL_law_663 rfl rfl (Nat.le_of_ble_eq_true rfl) (Nat.le_of_ble_eq_true rfl) (Nat.le_of_ble_eq_true rfl) (Nat.le_of_ble_eq_true rfl) hf (fun x123 h124 hf => ?_)
        refine aw_icmp_eq (tgt := 1039) dL_law_666 rfl (fun hc => ?_) (fun hc => ?_)
        · have hf := itp0 hc hf
          refine aw_iinc (y3 + 4) [(3, .int (y3 + 4)), (0, .ref (gS g)), (1, .ref y1), (2, .ref y2)] 3 dL_law_1039 rfl rfl (Nat.le_of_ble_eq_true rfl) rfl ?_
          refine aw_goto (tgt := 18) dL_law_1042 rfl ?_
          refine aw_pick [1, 2, 3, 0] rfl ?_
          exact ih h124 y1 y2 (y3 + 4) o ho hf
        · have hf := itn0 hc hf
          refine aw_iconst (v := 0) dL_law_669 rfl ?_
          obtain ⟨rfl, rfl⟩ := so2 hf
          refine aw_widen (k := 600000) (n := 7302250) (Nat.le_of_ble_eq_true rfl) (Nat.le_of_ble_eq_true rfl) ?_
          exact aw_zret dL_law_670 rfl rfl rfl
      have hf := itn0 hc18 hf
      by_cases hc19 : x1 &&& 63 = 19
      · have hf := itp0 hc19 hf
        refine aw_tsK (tgt := 671) (off := 639) (k := 19) hc19 rfl dL_law_32 (by decide) (by decide) rfl rfl ?_
        refine aw_aload_n 1 dL_law_671 rfl ?_
        refine aw_aload_n 0 dL_law_672 rfl ?_
        refine aw_iload_n 3 dL_law_673 rfl ?_
        refine aw_iconst (v := 1) dL_law_674 rfl ?_
        refine aw_iadd dL_law_675 ?_
        refine aw_sLd dL_law_676 hf (fun x125 hf => ?_)
        refine aw_aload_n 0 dL_law_677 rfl ?_
        refine aw_iload_n 3 dL_law_678 rfl ?_
        refine aw_iconst (v := 2) dL_law_679 rfl ?_
        refine aw_iadd dL_law_680 ?_
        refine aw_sLd dL_law_681 hf (fun x126 hf => ?_)
        refine aw_cV_wi (st := []) [.int x125, .int x126] wV_RL_93 (ci := 7) rfl (fun xr hr er => c_X7_way g h y1 x125 x126 xr hr er) dL_law_682 rfl rfl (Nat.le_of_ble_eq_true rfl) (Nat.le_of_ble_eq_true rfl) (Nat.le_of_ble_eq_true rfl) (Nat.le_of_ble_eq_true rfl) hf (fun x127 h128 hf => ?_)
        refine aw_aload_n 2 dL_law_685 rfl ?_
        refine aw_aload_n 0 dL_law_686 rfl ?_
        refine aw_iload_n 3 dL_law_687 rfl ?_
        refine aw_iconst (v := 1) dL_law_688 rfl ?_
        refine aw_iadd dL_law_689 ?_
        refine aw_sLd dL_law_690 hf (fun x129 hf => ?_)
        refine aw_aload_n 0 dL_law_691 rfl ?_
        refine aw_iload_n 3 dL_law_692 rfl ?_
        refine aw_iconst (v := 2) dL_law_693 rfl ?_
        refine aw_iadd dL_law_694 ?_
        refine aw_sLd dL_law_695 hf (fun x130 hf => ?_)
        refine aw_cV_wi (st := [.int x127]) [.int x129, .int x130] wV_RL_96 (ci := 8) rfl (fun xr hr er => c_X8_way g h128 y2 x129 x130 xr hr er) dL_law_696 rfl rfl (Nat.le_of_ble_eq_true rfl) (Nat.le_of_ble_eq_true rfl) (Nat.le_of_ble_eq_true rfl) (Nat.le_of_ble_eq_true rfl) hf (fun x131 h132 hf => ?_)
        refine aw_icmp_eq (tgt := 1039) dL_law_699 rfl (fun hc => ?_) (fun hc => ?_)
        · have hf := itp0 hc hf
          refine aw_iinc (y3 + 4) [(3, .int (y3 + 4)), (0, .ref (gS g)), (1, .ref y1), (2, .ref y2)] 3 dL_law_1039 rfl rfl (Nat.le_of_ble_eq_true rfl) rfl ?_
          refine aw_goto (tgt := 18) dL_law_1042 rfl ?_
          refine aw_pick [1, 2, 3, 0] rfl ?_
          exact ih h132 y1 y2 (y3 + 4) o ho hf
        · have hf := itn0 hc hf
          refine aw_iconst (v := 0) dL_law_702 rfl ?_
          obtain ⟨rfl, rfl⟩ := so2 hf
          refine aw_widen (k := 600000) (n := 7302250) (Nat.le_of_ble_eq_true rfl) (Nat.le_of_ble_eq_true rfl) ?_
          exact aw_zret dL_law_703 rfl rfl rfl
      have hf := itn0 hc19 hf
      by_cases hc20 : x1 &&& 63 = 20
      · have hf := itp0 hc20 hf
        refine aw_tsK (tgt := 704) (off := 672) (k := 20) hc20 rfl dL_law_32 (by decide) (by decide) rfl rfl ?_
        refine aw_aload_n 1 dL_law_704 rfl ?_
        refine aw_aload_n 0 dL_law_705 rfl ?_
        refine aw_iload_n 3 dL_law_706 rfl ?_
        refine aw_iconst (v := 1) dL_law_707 rfl ?_
        refine aw_iadd dL_law_708 ?_
        refine aw_sLd dL_law_709 hf (fun x133 hf => ?_)
        refine aw_aload_n 0 dL_law_710 rfl ?_
        refine aw_iload_n 3 dL_law_711 rfl ?_
        refine aw_iconst (v := 2) dL_law_712 rfl ?_
        refine aw_iadd dL_law_713 ?_
        refine aw_sLd dL_law_714 hf (fun x134 hf => ?_)
        refine aw_cV_wi (st := []) [.int x133, .int x134] wV_RL_97 (ci := 7) rfl (fun xr hr er => c_X7_choose g h y1 x133 x134 xr hr er) dL_law_715 rfl rfl (Nat.le_of_ble_eq_true rfl) (Nat.le_of_ble_eq_true rfl) (Nat.le_of_ble_eq_true rfl) (Nat.le_of_ble_eq_true rfl) hf (fun x135 h136 hf => ?_)
        refine aw_aload_n 2 dL_law_718 rfl ?_
        refine aw_aload_n 0 dL_law_719 rfl ?_
        refine aw_iload_n 3 dL_law_720 rfl ?_
        refine aw_iconst (v := 1) dL_law_721 rfl ?_
        refine aw_iadd dL_law_722 ?_
        refine aw_sLd dL_law_723 hf (fun x137 hf => ?_)
        refine aw_aload_n 0 dL_law_724 rfl ?_
        refine aw_iload_n 3 dL_law_725 rfl ?_
        refine aw_iconst (v := 2) dL_law_726 rfl ?_
        refine aw_iadd dL_law_727 ?_
        refine aw_sLd dL_law_728 hf (fun x138 hf => ?_)
        refine aw_cV_wi (st := [.int x135]) [.int x137, .int x138] wV_RL_100 (ci := 8) rfl (fun xr hr er => c_X8_choose g h136 y2 x137 x138 xr hr er) dL_law_729 rfl rfl (Nat.le_of_ble_eq_true rfl) (Nat.le_of_ble_eq_true rfl) (Nat.le_of_ble_eq_true rfl) (Nat.le_of_ble_eq_true rfl) hf (fun x139 h140 hf => ?_)
        refine aw_icmp_eq (tgt := 1039) dL_law_732 rfl (fun hc => ?_) (fun hc => ?_)
        · have hf := itp0 hc hf
          refine aw_iinc (y3 + 4) [(3, .int (y3 + 4)), (0, .ref (gS g)), (1, .ref y1), (2, .ref y2)] 3 dL_law_1039 rfl rfl (Nat.le_of_ble_eq_true rfl) rfl ?_
          refine aw_goto (tgt := 18) dL_law_1042 rfl ?_
          refine aw_pick [1, 2, 3, 0] rfl ?_
          exact ih h140 y1 y2 (y3 + 4) o ho hf
        · have hf := itn0 hc hf
          refine aw_iconst (v := 0) dL_law_735 rfl ?_
          obtain ⟨rfl, rfl⟩ := so2 hf
          refine aw_widen (k := 600000) (n := 7302250) (Nat.le_of_ble_eq_true rfl) (Nat.le_of_ble_eq_true rfl) ?_
          exact aw_zret dL_law_736 rfl rfl rfl
      have hf := itn0 hc20 hf
      by_cases hc21 : x1 &&& 63 = 21
      · have hf := itp0 hc21 hf
        refine aw_tsK (tgt := 737) (off := 705) (k := 21) hc21 rfl dL_law_32 (by decide) (by decide) rfl rfl ?_
        refine aw_aload_n 1 dL_law_737 rfl ?_
        refine aw_aload_n 0 dL_law_738 rfl ?_
        refine aw_iload_n 3 dL_law_739 rfl ?_
        refine aw_iconst (v := 1) dL_law_740 rfl ?_
        refine aw_iadd dL_law_741 ?_
        refine aw_sLd dL_law_742 hf (fun x141 hf => ?_)
        refine aw_cV_wi (st := []) [.int x141] wV_RL_101 (ci := 7) rfl (fun xr hr er => c_X7_odds g h y1 x141 xr hr er) dL_law_743 rfl rfl (Nat.le_of_ble_eq_true rfl) (Nat.le_of_ble_eq_true rfl) (Nat.le_of_ble_eq_true rfl) (Nat.le_of_ble_eq_true rfl) hf (fun x142 h143 hf => ?_)
        refine aw_aload_n 2 dL_law_746 rfl ?_
        refine aw_aload_n 0 dL_law_747 rfl ?_
        refine aw_iload_n 3 dL_law_748 rfl ?_
        refine aw_iconst (v := 1) dL_law_749 rfl ?_
        refine aw_iadd dL_law_750 ?_
        refine aw_sLd dL_law_751 hf (fun x144 hf => ?_)
        refine aw_cV_wi (st := [.int x142]) [.int x144] wV_RL_104 (ci := 8) rfl (fun xr hr er => c_X8_odds g h143 y2 x144 xr hr er) dL_law_752 rfl rfl (Nat.le_of_ble_eq_true rfl) (Nat.le_of_ble_eq_true rfl) (Nat.le_of_ble_eq_true rfl) (Nat.le_of_ble_eq_true rfl) hf (fun x145 h146 hf => ?_)
        refine aw_icmp_eq (tgt := 1039) dL_law_755 rfl (fun hc => ?_) (fun hc => ?_)
        · have hf := itp0 hc hf
          refine aw_iinc (y3 + 4) [(3, .int (y3 + 4)), (0, .ref (gS g)), (1, .ref y1), (2, .ref y2)] 3 dL_law_1039 rfl rfl (Nat.le_of_ble_eq_true rfl) rfl ?_
          refine aw_goto (tgt := 18) dL_law_1042 rfl ?_
          refine aw_pick [1, 2, 3, 0] rfl ?_
          exact ih h146 y1 y2 (y3 + 4) o ho hf
        · have hf := itn0 hc hf
          refine aw_iconst (v := 0) dL_law_758 rfl ?_
          obtain ⟨rfl, rfl⟩ := so2 hf
          refine aw_widen (k := 600000) (n := 7302250) (Nat.le_of_ble_eq_true rfl) (Nat.le_of_ble_eq_true rfl) ?_
          exact aw_zret dL_law_759 rfl rfl rfl
      have hf := itn0 hc21 hf
      by_cases hc22 : x1 &&& 63 = 22
      · have hf := itp0 hc22 hf
        refine aw_tsK (tgt := 760) (off := 728) (k := 22) hc22 rfl dL_law_32 (by decide) (by decide) rfl rfl ?_
        refine aw_aload_n 1 dL_law_760 rfl ?_
        refine aw_aload_n 0 dL_law_761 rfl ?_
        refine aw_iload_n 3 dL_law_762 rfl ?_
        refine aw_iconst (v := 1) dL_law_763 rfl ?_
        refine aw_iadd dL_law_764 ?_
        refine aw_sLd dL_law_765 hf (fun x147 hf => ?_)
        refine aw_aload_n 0 dL_law_766 rfl ?_
        refine aw_iload_n 3 dL_law_767 rfl ?_
        refine aw_iconst (v := 2) dL_law_768 rfl ?_
        refine aw_iadd dL_law_769 ?_
        refine aw_sLd dL_law_770 hf (fun x148 hf => ?_)
        refine aw_aload_n 0 dL_law_771 rfl ?_
        refine aw_iload_n 3 dL_law_772 rfl ?_
        refine aw_iconst (v := 3) dL_law_773 rfl ?_
        refine aw_iadd dL_law_774 ?_
        refine aw_sLd dL_law_775 hf (fun x149 hf => ?_)
        refine aw_cV_wi (st := []) [.int x147, .int x148, .int x149] wV_RL_105 (ci := 7) rfl (fun xr hr er => c_X7_seen g h y1 x147 x148 x149 xr hr er) dL_law_776 rfl rfl (Nat.le_of_ble_eq_true rfl) (Nat.le_of_ble_eq_true rfl) (Nat.le_of_ble_eq_true rfl) (Nat.le_of_ble_eq_true rfl) hf (fun x150 h151 hf => ?_)
        refine aw_aload_n 2 dL_law_779 rfl ?_
        refine aw_aload_n 0 dL_law_780 rfl ?_
        refine aw_iload_n 3 dL_law_781 rfl ?_
        refine aw_iconst (v := 1) dL_law_782 rfl ?_
        refine aw_iadd dL_law_783 ?_
        refine aw_sLd dL_law_784 hf (fun x152 hf => ?_)
        refine aw_aload_n 0 dL_law_785 rfl ?_
        refine aw_iload_n 3 dL_law_786 rfl ?_
        refine aw_iconst (v := 2) dL_law_787 rfl ?_
        refine aw_iadd dL_law_788 ?_
        refine aw_sLd dL_law_789 hf (fun x153 hf => ?_)
        refine aw_aload_n 0 dL_law_790 rfl ?_
        refine aw_iload_n 3 dL_law_791 rfl ?_
        refine aw_iconst (v := 3) dL_law_792 rfl ?_
        refine aw_iadd dL_law_793 ?_
        refine aw_sLd dL_law_794 hf (fun x154 hf => ?_)
        refine aw_cV_wi (st := [.int x150]) [.int x152, .int x153, .int x154] wV_RL_108 (ci := 8) rfl (fun xr hr er => c_X8_seen g h151 y2 x152 x153 x154 xr hr er) dL_law_795 rfl rfl (Nat.le_of_ble_eq_true rfl) (Nat.le_of_ble_eq_true rfl) (Nat.le_of_ble_eq_true rfl) (Nat.le_of_ble_eq_true rfl) hf (fun x155 h156 hf => ?_)
        refine aw_icmp_eq (tgt := 1039) dL_law_798 rfl (fun hc => ?_) (fun hc => ?_)
        · have hf := itp0 hc hf
          refine aw_iinc (y3 + 4) [(3, .int (y3 + 4)), (0, .ref (gS g)), (1, .ref y1), (2, .ref y2)] 3 dL_law_1039 rfl rfl (Nat.le_of_ble_eq_true rfl) rfl ?_
          refine aw_goto (tgt := 18) dL_law_1042 rfl ?_
          refine aw_pick [1, 2, 3, 0] rfl ?_
          exact ih h156 y1 y2 (y3 + 4) o ho hf
        · have hf := itn0 hc hf
          refine aw_iconst (v := 0) dL_law_801 rfl ?_
          obtain ⟨rfl, rfl⟩ := so2 hf
          refine aw_widen (k := 600000) (n := 7302250) (Nat.le_of_ble_eq_true rfl) (Nat.le_of_ble_eq_true rfl) ?_
          exact aw_zret dL_law_802 rfl rfl rfl
      have hf := itn0 hc22 hf
      by_cases hc23 : x1 &&& 63 = 23
      · have hf := itp0 hc23 hf
        refine aw_tsK (tgt := 803) (off := 771) (k := 23) hc23 rfl dL_law_32 (by decide) (by decide) rfl rfl ?_
        refine aw_aload_n 1 dL_law_803 rfl ?_
        refine aw_cV_wi (st := []) [] wV_RL_109 (ci := 7) rfl (fun xr hr er => c_X7_forget g h y1 xr hr er) dL_law_804 rfl rfl (Nat.le_of_ble_eq_true rfl) (Nat.le_of_ble_eq_true rfl) (Nat.le_of_ble_eq_true rfl) (Nat.le_of_ble_eq_true rfl) hf (fun x157 h158 hf => ?_)
        refine aw_aload_n 2 dL_law_807 rfl ?_
        refine aw_cV_wi (st := [.int x157]) [] wV_RL_112 (ci := 8) rfl (fun xr hr er => c_X8_forget g h158 y2 xr hr er) dL_law_808 rfl rfl (Nat.le_of_ble_eq_true rfl) (Nat.le_of_ble_eq_true rfl) (Nat.le_of_ble_eq_true rfl) (Nat.le_of_ble_eq_true rfl) hf (fun x159 h160 hf => ?_)
        refine aw_icmp_eq (tgt := 1039) dL_law_811 rfl (fun hc => ?_) (fun hc => ?_)
        · have hf := itp0 hc hf
          refine aw_iinc (y3 + 4) [(3, .int (y3 + 4)), (0, .ref (gS g)), (1, .ref y1), (2, .ref y2)] 3 dL_law_1039 rfl rfl (Nat.le_of_ble_eq_true rfl) rfl ?_
          refine aw_goto (tgt := 18) dL_law_1042 rfl ?_
          refine aw_pick [1, 2, 3, 0] rfl ?_
          exact ih h160 y1 y2 (y3 + 4) o ho hf
        · have hf := itn0 hc hf
          refine aw_iconst (v := 0) dL_law_814 rfl ?_
          obtain ⟨rfl, rfl⟩ := so2 hf
          refine aw_widen (k := 600000) (n := 7302250) (Nat.le_of_ble_eq_true rfl) (Nat.le_of_ble_eq_true rfl) ?_
          exact aw_zret dL_law_815 rfl rfl rfl
      have hf := itn0 hc23 hf
      by_cases hc24 : x1 &&& 63 = 24
      · have hf := itp0 hc24 hf
        refine aw_tsK (tgt := 816) (off := 784) (k := 24) hc24 rfl dL_law_32 (by decide) (by decide) rfl rfl ?_
        refine aw_aload_n 1 dL_law_816 rfl ?_
        refine aw_aload_n 0 dL_law_817 rfl ?_
        refine aw_iload_n 3 dL_law_818 rfl ?_
        refine aw_iconst (v := 1) dL_law_819 rfl ?_
        refine aw_iadd dL_law_820 ?_
        refine aw_sLd dL_law_821 hf (fun x161 hf => ?_)
        refine aw_cV_wi (st := []) [.int x161] wV_RL_113 (ci := 7) rfl (fun xr hr er => c_X7_may g h y1 x161 xr hr er) dL_law_822 rfl rfl (Nat.le_of_ble_eq_true rfl) (Nat.le_of_ble_eq_true rfl) (Nat.le_of_ble_eq_true rfl) (Nat.le_of_ble_eq_true rfl) hf (fun x162 h163 hf => ?_)
        refine aw_aload_n 2 dL_law_825 rfl ?_
        refine aw_aload_n 0 dL_law_826 rfl ?_
        refine aw_iload_n 3 dL_law_827 rfl ?_
        refine aw_iconst (v := 1) dL_law_828 rfl ?_
        refine aw_iadd dL_law_829 ?_
        refine aw_sLd dL_law_830 hf (fun x164 hf => ?_)
        refine aw_cV_wi (st := [.int x162]) [.int x164] wV_RL_116 (ci := 8) rfl (fun xr hr er => c_X8_may g h163 y2 x164 xr hr er) dL_law_831 rfl rfl (Nat.le_of_ble_eq_true rfl) (Nat.le_of_ble_eq_true rfl) (Nat.le_of_ble_eq_true rfl) (Nat.le_of_ble_eq_true rfl) hf (fun x165 h166 hf => ?_)
        refine aw_icmp_eq (tgt := 1039) dL_law_834 rfl (fun hc => ?_) (fun hc => ?_)
        · have hf := itp0 hc hf
          refine aw_iinc (y3 + 4) [(3, .int (y3 + 4)), (0, .ref (gS g)), (1, .ref y1), (2, .ref y2)] 3 dL_law_1039 rfl rfl (Nat.le_of_ble_eq_true rfl) rfl ?_
          refine aw_goto (tgt := 18) dL_law_1042 rfl ?_
          refine aw_pick [1, 2, 3, 0] rfl ?_
          exact ih h166 y1 y2 (y3 + 4) o ho hf
        · have hf := itn0 hc hf
          refine aw_iconst (v := 0) dL_law_837 rfl ?_
          obtain ⟨rfl, rfl⟩ := so2 hf
          refine aw_widen (k := 600000) (n := 7302250) (Nat.le_of_ble_eq_true rfl) (Nat.le_of_ble_eq_true rfl) ?_
          exact aw_zret dL_law_838 rfl rfl rfl
      have hf := itn0 hc24 hf
      by_cases hc25 : x1 &&& 63 = 25
      · have hf := itp0 hc25 hf
        refine aw_tsK (tgt := 839) (off := 807) (k := 25) hc25 rfl dL_law_32 (by decide) (by decide) rfl rfl ?_
        refine aw_aload_n 1 dL_law_839 rfl ?_
        refine aw_cV_wl (st := []) [] wV_RL_117 (ci := 7) rfl (fun xr hr er => c_X7_ways g h y1 xr hr er) dL_law_840 rfl rfl (Nat.le_of_ble_eq_true rfl) (Nat.le_of_ble_eq_true rfl) (Nat.le_of_ble_eq_true rfl) (Nat.le_of_ble_eq_true rfl) hf (fun x167 h168 hf => ?_)
        refine aw_aload_n 2 dL_law_843 rfl ?_
        refine aw_cV_wl (st := [.long x167]) [] wV_RL_121 (ci := 8) rfl (fun xr hr er => c_X8_ways g h168 y2 xr hr er) dL_law_844 rfl rfl (Nat.le_of_ble_eq_true rfl) (Nat.le_of_ble_eq_true rfl) (Nat.le_of_ble_eq_true rfl) (Nat.le_of_ble_eq_true rfl) hf (fun x169 h170 hf => ?_)
        refine aw_lcmp dL_law_847 ?_
        refine aw_if_eq (tgt := 1039) dL_law_848 rfl (fun hc => ?_) (fun hc => ?_)
        · have hf := itp0 hc hf
          refine aw_iinc (y3 + 4) [(3, .int (y3 + 4)), (0, .ref (gS g)), (1, .ref y1), (2, .ref y2)] 3 dL_law_1039 rfl rfl (Nat.le_of_ble_eq_true rfl) rfl ?_
          refine aw_goto (tgt := 18) dL_law_1042 rfl ?_
          refine aw_pick [1, 2, 3, 0] rfl ?_
          exact ih h170 y1 y2 (y3 + 4) o ho hf
        · have hf := itn0 hc hf
          refine aw_iconst (v := 0) dL_law_851 rfl ?_
          obtain ⟨rfl, rfl⟩ := so2 hf
          refine aw_widen (k := 600000) (n := 7302250) (Nat.le_of_ble_eq_true rfl) (Nat.le_of_ble_eq_true rfl) ?_
          exact aw_zret dL_law_852 rfl rfl rfl
      have hf := itn0 hc25 hf
      by_cases hc26 : x1 &&& 63 = 26
      · have hf := itp0 hc26 hf
        refine aw_tsK (tgt := 853) (off := 821) (k := 26) hc26 rfl dL_law_32 (by decide) (by decide) rfl rfl ?_
        refine aw_aload_n 1 dL_law_853 rfl ?_
        refine aw_aload_n 0 dL_law_854 rfl ?_
        refine aw_iload_n 3 dL_law_855 rfl ?_
        refine aw_iconst (v := 1) dL_law_856 rfl ?_
        refine aw_iadd dL_law_857 ?_
        refine aw_sLd dL_law_858 hf (fun x171 hf => ?_)
        refine aw_cV_wi (st := []) [.int x171] wV_RL_122 (ci := 7) rfl (fun xr hr er => c_X7_peek g h y1 x171 xr hr er) dL_law_859 rfl rfl (Nat.le_of_ble_eq_true rfl) (Nat.le_of_ble_eq_true rfl) (Nat.le_of_ble_eq_true rfl) (Nat.le_of_ble_eq_true rfl) hf (fun x172 h173 hf => ?_)
        refine aw_aload_n 2 dL_law_862 rfl ?_
        refine aw_aload_n 0 dL_law_863 rfl ?_
        refine aw_iload_n 3 dL_law_864 rfl ?_
        refine aw_iconst (v := 1) dL_law_865 rfl ?_
        refine aw_iadd dL_law_866 ?_
        refine aw_sLd dL_law_867 hf (fun x174 hf => ?_)
        refine aw_cV_wi (st := [.int x172]) [.int x174] wV_RL_125 (ci := 8) rfl (fun xr hr er => c_X8_peek g h173 y2 x174 xr hr er) dL_law_868 rfl rfl (Nat.le_of_ble_eq_true rfl) (Nat.le_of_ble_eq_true rfl) (Nat.le_of_ble_eq_true rfl) (Nat.le_of_ble_eq_true rfl) hf (fun x175 h176 hf => ?_)
        refine aw_icmp_eq (tgt := 1039) dL_law_871 rfl (fun hc => ?_) (fun hc => ?_)
        · have hf := itp0 hc hf
          refine aw_iinc (y3 + 4) [(3, .int (y3 + 4)), (0, .ref (gS g)), (1, .ref y1), (2, .ref y2)] 3 dL_law_1039 rfl rfl (Nat.le_of_ble_eq_true rfl) rfl ?_
          refine aw_goto (tgt := 18) dL_law_1042 rfl ?_
          refine aw_pick [1, 2, 3, 0] rfl ?_
          exact ih h176 y1 y2 (y3 + 4) o ho hf
        · have hf := itn0 hc hf
          refine aw_iconst (v := 0) dL_law_874 rfl ?_
          obtain ⟨rfl, rfl⟩ := so2 hf
          refine aw_widen (k := 600000) (n := 7302250) (Nat.le_of_ble_eq_true rfl) (Nat.le_of_ble_eq_true rfl) ?_
          exact aw_zret dL_law_875 rfl rfl rfl
      have hf := itn0 hc26 hf
      by_cases hc27 : x1 &&& 63 = 27
      · have hf := itp0 hc27 hf
        refine aw_tsK (tgt := 876) (off := 844) (k := 27) hc27 rfl dL_law_32 (by decide) (by decide) rfl rfl ?_
        refine aw_aload_n 1 dL_law_876 rfl ?_
        refine aw_aload_n 0 dL_law_877 rfl ?_
        refine aw_iload_n 3 dL_law_878 rfl ?_
        refine aw_iconst (v := 1) dL_law_879 rfl ?_
        refine aw_iadd dL_law_880 ?_
        refine aw_sLd dL_law_881 hf (fun x177 hf => ?_)
        refine aw_aload_n 0 dL_law_882 rfl ?_
        refine aw_iload_n 3 dL_law_883 rfl ?_
        refine aw_iconst (v := 2) dL_law_884 rfl ?_
        refine aw_iadd dL_law_885 ?_
        refine aw_sLd dL_law_886 hf (fun x178 hf => ?_)
        refine aw_cV_wi (st := []) [.int x177, .int x178] wV_RL_126 (ci := 7) rfl (fun xr hr er => c_X7_nights g h y1 x177 x178 xr hr er) dL_law_887 rfl rfl (Nat.le_of_ble_eq_true rfl) (Nat.le_of_ble_eq_true rfl) (Nat.le_of_ble_eq_true rfl) (Nat.le_of_ble_eq_true rfl) hf (fun x179 h180 hf => ?_)
        refine aw_aload_n 2 dL_law_890 rfl ?_
        refine aw_aload_n 0 dL_law_891 rfl ?_
        refine aw_iload_n 3 dL_law_892 rfl ?_
        refine aw_iconst (v := 1) dL_law_893 rfl ?_
        refine aw_iadd dL_law_894 ?_
        refine aw_sLd dL_law_895 hf (fun x181 hf => ?_)
        refine aw_aload_n 0 dL_law_896 rfl ?_
        refine aw_iload_n 3 dL_law_897 rfl ?_
        refine aw_iconst (v := 2) dL_law_898 rfl ?_
        refine aw_iadd dL_law_899 ?_
        refine aw_sLd dL_law_900 hf (fun x182 hf => ?_)
        refine aw_cV_wi (st := [.int x179]) [.int x181, .int x182] wV_RL_129 (ci := 8) rfl (fun xr hr er => c_X8_nights g h180 y2 x181 x182 xr hr er) dL_law_901 rfl rfl (Nat.le_of_ble_eq_true rfl) (Nat.le_of_ble_eq_true rfl) (Nat.le_of_ble_eq_true rfl) (Nat.le_of_ble_eq_true rfl) hf (fun x183 h184 hf => ?_)
        refine aw_icmp_eq (tgt := 1039) dL_law_904 rfl (fun hc => ?_) (fun hc => ?_)
        · have hf := itp0 hc hf
          refine aw_iinc (y3 + 4) [(3, .int (y3 + 4)), (0, .ref (gS g)), (1, .ref y1), (2, .ref y2)] 3 dL_law_1039 rfl rfl (Nat.le_of_ble_eq_true rfl) rfl ?_
          refine aw_goto (tgt := 18) dL_law_1042 rfl ?_
          refine aw_pick [1, 2, 3, 0] rfl ?_
          exact ih h184 y1 y2 (y3 + 4) o ho hf
        · have hf := itn0 hc hf
          refine aw_iconst (v := 0) dL_law_907 rfl ?_
          obtain ⟨rfl, rfl⟩ := so2 hf
          refine aw_widen (k := 600000) (n := 7302250) (Nat.le_of_ble_eq_true rfl) (Nat.le_of_ble_eq_true rfl) ?_
          exact aw_zret dL_law_908 rfl rfl rfl
      have hf := itn0 hc27 hf
      by_cases hc28 : x1 &&& 63 = 28
      · have hf := itp0 hc28 hf
        refine aw_tsK (tgt := 909) (off := 877) (k := 28) hc28 rfl dL_law_32 (by decide) (by decide) rfl rfl ?_
        refine aw_aload_n 1 dL_law_909 rfl ?_
        refine aw_aload_n 0 dL_law_910 rfl ?_
        refine aw_iload_n 3 dL_law_911 rfl ?_
        refine aw_iconst (v := 1) dL_law_912 rfl ?_
        refine aw_iadd dL_law_913 ?_
        refine aw_sLd dL_law_914 hf (fun x185 hf => ?_)
        refine aw_cV_wl (st := []) [.int x185] wV_RL_130 (ci := 7) rfl (fun xr hr er => c_X7_part g h y1 x185 xr hr er) dL_law_915 rfl rfl (Nat.le_of_ble_eq_true rfl) (Nat.le_of_ble_eq_true rfl) (Nat.le_of_ble_eq_true rfl) (Nat.le_of_ble_eq_true rfl) hf (fun x186 h187 hf => ?_)
        refine aw_aload_n 2 dL_law_918 rfl ?_
        refine aw_aload_n 0 dL_law_919 rfl ?_
        refine aw_iload_n 3 dL_law_920 rfl ?_
        refine aw_iconst (v := 1) dL_law_921 rfl ?_
        refine aw_iadd dL_law_922 ?_
        refine aw_sLd dL_law_923 hf (fun x188 hf => ?_)
        refine aw_cV_wl (st := [.long x186]) [.int x188] wV_RL_134 (ci := 8) rfl (fun xr hr er => c_X8_part g h187 y2 x188 xr hr er) dL_law_924 rfl rfl (Nat.le_of_ble_eq_true rfl) (Nat.le_of_ble_eq_true rfl) (Nat.le_of_ble_eq_true rfl) (Nat.le_of_ble_eq_true rfl) hf (fun x189 h190 hf => ?_)
        refine aw_lcmp dL_law_927 ?_
        refine aw_if_eq (tgt := 1039) dL_law_928 rfl (fun hc => ?_) (fun hc => ?_)
        · have hf := itp0 hc hf
          refine aw_iinc (y3 + 4) [(3, .int (y3 + 4)), (0, .ref (gS g)), (1, .ref y1), (2, .ref y2)] 3 dL_law_1039 rfl rfl (Nat.le_of_ble_eq_true rfl) rfl ?_
          refine aw_goto (tgt := 18) dL_law_1042 rfl ?_
          refine aw_pick [1, 2, 3, 0] rfl ?_
          exact ih h190 y1 y2 (y3 + 4) o ho hf
        · have hf := itn0 hc hf
          refine aw_iconst (v := 0) dL_law_931 rfl ?_
          obtain ⟨rfl, rfl⟩ := so2 hf
          refine aw_widen (k := 600000) (n := 7302250) (Nat.le_of_ble_eq_true rfl) (Nat.le_of_ble_eq_true rfl) ?_
          exact aw_zret dL_law_932 rfl rfl rfl
      have hf := itn0 hc28 hf
      by_cases hc29 : x1 &&& 63 = 29
      · have hf := itp0 hc29 hf
        refine aw_tsK (tgt := 933) (off := 901) (k := 29) hc29 rfl dL_law_32 (by decide) (by decide) rfl rfl ?_
        refine aw_aload_n 1 dL_law_933 rfl ?_
        refine aw_aload_n 0 dL_law_934 rfl ?_
        refine aw_iload_n 3 dL_law_935 rfl ?_
        refine aw_iconst (v := 1) dL_law_936 rfl ?_
        refine aw_iadd dL_law_937 ?_
        refine aw_sLd dL_law_938 hf (fun x191 hf => ?_)
        refine aw_cV_wi (st := []) [.int x191] wV_RL_135 (ci := 7) rfl (fun xr hr er => c_X7_image g h y1 x191 xr hr er) dL_law_939 rfl rfl (Nat.le_of_ble_eq_true rfl) (Nat.le_of_ble_eq_true rfl) (Nat.le_of_ble_eq_true rfl) (Nat.le_of_ble_eq_true rfl) hf (fun x192 h193 hf => ?_)
        refine aw_aload_n 2 dL_law_942 rfl ?_
        refine aw_aload_n 0 dL_law_943 rfl ?_
        refine aw_iload_n 3 dL_law_944 rfl ?_
        refine aw_iconst (v := 1) dL_law_945 rfl ?_
        refine aw_iadd dL_law_946 ?_
        refine aw_sLd dL_law_947 hf (fun x194 hf => ?_)
        refine aw_cV_wi (st := [.int x192]) [.int x194] wV_RL_138 (ci := 8) rfl (fun xr hr er => c_X8_image g h193 y2 x194 xr hr er) dL_law_948 rfl rfl (Nat.le_of_ble_eq_true rfl) (Nat.le_of_ble_eq_true rfl) (Nat.le_of_ble_eq_true rfl) (Nat.le_of_ble_eq_true rfl) hf (fun x195 h196 hf => ?_)
        refine aw_icmp_eq (tgt := 1039) dL_law_951 rfl (fun hc => ?_) (fun hc => ?_)
        · have hf := itp0 hc hf
          refine aw_iinc (y3 + 4) [(3, .int (y3 + 4)), (0, .ref (gS g)), (1, .ref y1), (2, .ref y2)] 3 dL_law_1039 rfl rfl (Nat.le_of_ble_eq_true rfl) rfl ?_
          refine aw_goto (tgt := 18) dL_law_1042 rfl ?_
          refine aw_pick [1, 2, 3, 0] rfl ?_
          exact ih h196 y1 y2 (y3 + 4) o ho hf
        · have hf := itn0 hc hf
          refine aw_iconst (v := 0) dL_law_954 rfl ?_
          obtain ⟨rfl, rfl⟩ := so2 hf
          refine aw_widen (k := 600000) (n := 7302250) (Nat.le_of_ble_eq_true rfl) (Nat.le_of_ble_eq_true rfl) ?_
          exact aw_zret dL_law_955 rfl rfl rfl
      have hf := itn0 hc29 hf
      by_cases hc30 : x1 &&& 63 = 30
      · have hf := itp0 hc30 hf
        refine aw_tsK (tgt := 956) (off := 924) (k := 30) hc30 rfl dL_law_32 (by decide) (by decide) rfl rfl ?_
        refine aw_aload_n 1 dL_law_956 rfl ?_
        refine aw_aload_n 0 dL_law_957 rfl ?_
        refine aw_iload_n 3 dL_law_958 rfl ?_
        refine aw_iconst (v := 1) dL_law_959 rfl ?_
        refine aw_iadd dL_law_960 ?_
        refine aw_sLd dL_law_961 hf (fun x197 hf => ?_)
        refine aw_cV_wi (st := []) [.int x197] wV_RL_139 (ci := 7) rfl (fun xr hr er => c_X7_from g h y1 x197 xr hr er) dL_law_962 rfl rfl (Nat.le_of_ble_eq_true rfl) (Nat.le_of_ble_eq_true rfl) (Nat.le_of_ble_eq_true rfl) (Nat.le_of_ble_eq_true rfl) hf (fun x198 h199 hf => ?_)
        refine aw_aload_n 2 dL_law_965 rfl ?_
        refine aw_aload_n 0 dL_law_966 rfl ?_
        refine aw_iload_n 3 dL_law_967 rfl ?_
        refine aw_iconst (v := 1) dL_law_968 rfl ?_
        refine aw_iadd dL_law_969 ?_
        refine aw_sLd dL_law_970 hf (fun x200 hf => ?_)
        refine aw_cV_wi (st := [.int x198]) [.int x200] wV_RL_142 (ci := 8) rfl (fun xr hr er => c_X8_from g h199 y2 x200 xr hr er) dL_law_971 rfl rfl (Nat.le_of_ble_eq_true rfl) (Nat.le_of_ble_eq_true rfl) (Nat.le_of_ble_eq_true rfl) (Nat.le_of_ble_eq_true rfl) hf (fun x201 h202 hf => ?_)
        refine aw_icmp_eq (tgt := 1039) dL_law_974 rfl (fun hc => ?_) (fun hc => ?_)
        · have hf := itp0 hc hf
          refine aw_iinc (y3 + 4) [(3, .int (y3 + 4)), (0, .ref (gS g)), (1, .ref y1), (2, .ref y2)] 3 dL_law_1039 rfl rfl (Nat.le_of_ble_eq_true rfl) rfl ?_
          refine aw_goto (tgt := 18) dL_law_1042 rfl ?_
          refine aw_pick [1, 2, 3, 0] rfl ?_
          exact ih h202 y1 y2 (y3 + 4) o ho hf
        · have hf := itn0 hc hf
          refine aw_iconst (v := 0) dL_law_977 rfl ?_
          obtain ⟨rfl, rfl⟩ := so2 hf
          refine aw_widen (k := 600000) (n := 7302250) (Nat.le_of_ble_eq_true rfl) (Nat.le_of_ble_eq_true rfl) ?_
          exact aw_zret dL_law_978 rfl rfl rfl
      have hf := itn0 hc30 hf
      by_cases hc31 : x1 &&& 63 = 31
      · have hf := itp0 hc31 hf
        refine aw_tsK (tgt := 979) (off := 947) (k := 31) hc31 rfl dL_law_32 (by decide) (by decide) rfl rfl ?_
        refine aw_aload_n 1 dL_law_979 rfl ?_
        refine aw_aload_n 0 dL_law_980 rfl ?_
        refine aw_iload_n 3 dL_law_981 rfl ?_
        refine aw_iconst (v := 1) dL_law_982 rfl ?_
        refine aw_iadd dL_law_983 ?_
        refine aw_sLd dL_law_984 hf (fun x203 hf => ?_)
        refine aw_cV_wi (st := []) [.int x203] wV_RL_143 (ci := 7) rfl (fun xr hr er => c_X7_status g h y1 x203 xr hr er) dL_law_985 rfl rfl (Nat.le_of_ble_eq_true rfl) (Nat.le_of_ble_eq_true rfl) (Nat.le_of_ble_eq_true rfl) (Nat.le_of_ble_eq_true rfl) hf (fun x204 h205 hf => ?_)
        refine aw_aload_n 2 dL_law_988 rfl ?_
        refine aw_aload_n 0 dL_law_989 rfl ?_
        refine aw_iload_n 3 dL_law_990 rfl ?_
        refine aw_iconst (v := 1) dL_law_991 rfl ?_
        refine aw_iadd dL_law_992 ?_
        refine aw_sLd dL_law_993 hf (fun x206 hf => ?_)
        refine aw_cV_wi (st := [.int x204]) [.int x206] wV_RL_146 (ci := 8) rfl (fun xr hr er => c_X8_status g h205 y2 x206 xr hr er) dL_law_994 rfl rfl (Nat.le_of_ble_eq_true rfl) (Nat.le_of_ble_eq_true rfl) (Nat.le_of_ble_eq_true rfl) (Nat.le_of_ble_eq_true rfl) hf (fun x207 h208 hf => ?_)
        refine aw_icmp_eq (tgt := 1039) dL_law_997 rfl (fun hc => ?_) (fun hc => ?_)
        · have hf := itp0 hc hf
          refine aw_iinc (y3 + 4) [(3, .int (y3 + 4)), (0, .ref (gS g)), (1, .ref y1), (2, .ref y2)] 3 dL_law_1039 rfl rfl (Nat.le_of_ble_eq_true rfl) rfl ?_
          refine aw_goto (tgt := 18) dL_law_1042 rfl ?_
          refine aw_pick [1, 2, 3, 0] rfl ?_
          exact ih h208 y1 y2 (y3 + 4) o ho hf
        · have hf := itn0 hc hf
          refine aw_iconst (v := 0) dL_law_1000 rfl ?_
          obtain ⟨rfl, rfl⟩ := so2 hf
          refine aw_widen (k := 600000) (n := 7302250) (Nat.le_of_ble_eq_true rfl) (Nat.le_of_ble_eq_true rfl) ?_
          exact aw_zret dL_law_1001 rfl rfl rfl
      have hf := itn0 hc31 hf
      by_cases hc32 : x1 &&& 63 = 32
      · have hf := itp0 hc32 hf
        refine aw_tsK (tgt := 1002) (off := 970) (k := 32) hc32 rfl dL_law_32 (by decide) (by decide) rfl rfl ?_
        refine aw_aload_n 1 dL_law_1002 rfl ?_
        refine aw_aload_n 0 dL_law_1003 rfl ?_
        refine aw_iload_n 3 dL_law_1004 rfl ?_
        refine aw_iconst (v := 1) dL_law_1005 rfl ?_
        refine aw_iadd dL_law_1006 ?_
        refine aw_sLd dL_law_1007 hf (fun x209 hf => ?_)
        refine aw_cV_wi (st := []) [.int x209] wV_RL_147 (ci := 7) rfl (fun xr hr er => c_X7_count g h y1 x209 xr hr er) dL_law_1008 rfl rfl (Nat.le_of_ble_eq_true rfl) (Nat.le_of_ble_eq_true rfl) (Nat.le_of_ble_eq_true rfl) (Nat.le_of_ble_eq_true rfl) hf (fun x210 h211 hf => ?_)
        refine aw_aload_n 2 dL_law_1011 rfl ?_
        refine aw_aload_n 0 dL_law_1012 rfl ?_
        refine aw_iload_n 3 dL_law_1013 rfl ?_
        refine aw_iconst (v := 1) dL_law_1014 rfl ?_
        refine aw_iadd dL_law_1015 ?_
        refine aw_sLd dL_law_1016 hf (fun x212 hf => ?_)
        refine aw_cV_wi (st := [.int x210]) [.int x212] wV_RL_150 (ci := 8) rfl (fun xr hr er => c_X8_count g h211 y2 x212 xr hr er) dL_law_1017 rfl rfl (Nat.le_of_ble_eq_true rfl) (Nat.le_of_ble_eq_true rfl) (Nat.le_of_ble_eq_true rfl) (Nat.le_of_ble_eq_true rfl) hf (fun x213 h214 hf => ?_)
        refine aw_icmp_eq (tgt := 1039) dL_law_1020 rfl (fun hc => ?_) (fun hc => ?_)
        · have hf := itp0 hc hf
          refine aw_iinc (y3 + 4) [(3, .int (y3 + 4)), (0, .ref (gS g)), (1, .ref y1), (2, .ref y2)] 3 dL_law_1039 rfl rfl (Nat.le_of_ble_eq_true rfl) rfl ?_
          refine aw_goto (tgt := 18) dL_law_1042 rfl ?_
          refine aw_pick [1, 2, 3, 0] rfl ?_
          exact ih h214 y1 y2 (y3 + 4) o ho hf
        · have hf := itn0 hc hf
          refine aw_iconst (v := 0) dL_law_1023 rfl ?_
          obtain ⟨rfl, rfl⟩ := so2 hf
          refine aw_widen (k := 600000) (n := 7302250) (Nat.le_of_ble_eq_true rfl) (Nat.le_of_ble_eq_true rfl) ?_
          exact aw_zret dL_law_1024 rfl rfl rfl
      have hf := itn0 hc32 hf
      by_cases hc33 : x1 &&& 63 = 33
      · have hf := itp0 hc33 hf
        refine aw_tsK (tgt := 1025) (off := 993) (k := 33) hc33 rfl dL_law_32 (by decide) (by decide) rfl rfl ?_
        refine aw_aload_n 1 dL_law_1025 rfl ?_
        refine aw_cV_l (st := []) [] wV_RL_151 (ci := 7) rfl (fun xr er => c_X7_digest g h y1 xr er) dL_law_1026 rfl rfl (Nat.le_of_ble_eq_true rfl) (Nat.le_of_ble_eq_true rfl) (Nat.le_of_ble_eq_true rfl) (Nat.le_of_ble_eq_true rfl) hf (fun x215 hf => ?_)
        refine aw_aload_n 2 dL_law_1029 rfl ?_
        refine aw_cV_l (st := [.long x215]) [] wV_RL_154 (ci := 8) rfl (fun xr er => c_X8_digest g h y2 xr er) dL_law_1030 rfl rfl (Nat.le_of_ble_eq_true rfl) (Nat.le_of_ble_eq_true rfl) (Nat.le_of_ble_eq_true rfl) (Nat.le_of_ble_eq_true rfl) hf (fun x216 hf => ?_)
        refine aw_lcmp dL_law_1033 ?_
        refine aw_if_eq (tgt := 1039) dL_law_1034 rfl (fun hc => ?_) (fun hc => ?_)
        · have hf := itp0 hc hf
          refine aw_iinc (y3 + 4) [(3, .int (y3 + 4)), (0, .ref (gS g)), (1, .ref y1), (2, .ref y2)] 3 dL_law_1039 rfl rfl (Nat.le_of_ble_eq_true rfl) rfl ?_
          refine aw_goto (tgt := 18) dL_law_1042 rfl ?_
          refine aw_pick [1, 2, 3, 0] rfl ?_
          exact ih h y1 y2 (y3 + 4) o ho hf
        · have hf := itn0 hc hf
          refine aw_iconst (v := 0) dL_law_1037 rfl ?_
          obtain ⟨rfl, rfl⟩ := so2 hf
          refine aw_widen (k := 600000) (n := 7302250) (Nat.le_of_ble_eq_true rfl) (Nat.le_of_ble_eq_true rfl) ?_
          exact aw_zret dL_law_1038 rfl rfl rfl
      have hf := itn0 hc33 hf
      refine aw_tsOut (tgt := 1039) dL_law_32 (ts_out 0 34 (by decide) (by decide) (fun i hi => by rcases (show i = 0 ∨ i = 1 ∨ i = 2 ∨ i = 3 ∨ i = 4 ∨ i = 5 ∨ i = 6 ∨ i = 7 ∨ i = 8 ∨ i = 9 ∨ i = 10 ∨ i = 11 ∨ i = 12 ∨ i = 13 ∨ i = 14 ∨ i = 15 ∨ i = 16 ∨ i = 17 ∨ i = 18 ∨ i = 19 ∨ i = 20 ∨ i = 21 ∨ i = 22 ∨ i = 23 ∨ i = 24 ∨ i = 25 ∨ i = 26 ∨ i = 27 ∨ i = 28 ∨ i = 29 ∨ i = 30 ∨ i = 31 ∨ i = 32 ∨ i = 33 by omega) with rfl | rfl | rfl | rfl | rfl | rfl | rfl | rfl | rfl | rfl | rfl | rfl | rfl | rfl | rfl | rfl | rfl | rfl | rfl | rfl | rfl | rfl | rfl | rfl | rfl | rfl | rfl | rfl | rfl | rfl | rfl | rfl | rfl | rfl <;> assumption)) rfl ?_
      refine aw_iinc (y3 + 4) [(3, .int (y3 + 4)), (0, .ref (gS g)), (1, .ref y1), (2, .ref y2)] 3 dL_law_1039 rfl rfl (Nat.le_of_ble_eq_true rfl) rfl ?_
      refine aw_goto (tgt := 18) dL_law_1042 rfl ?_
      refine aw_pick [1, 2, 3, 0] rfl ?_
      exact ih h y1 y2 (y3 + 4) o ho hf
set_option maxRecDepth 100000 in
set_option maxHeartbeats 4000000 in
theorem a_L_law (g : Gx) {nm : String} (h : Hea) (o : Int32) (hz : Hea) (hf : f_L_law (gL g) (gX g) h = some (o, hz)) : AW g RL cL_law (4, some .boolean, nm, 12, 600000, 7302250) (some (.int o), hz) 0 [(0, .ref (gS g))] [] h 0 0 := by
  rw [f_L_law] at hf
  refine aw_newB ck_7 kn_RL_7 dv_7 dL_law_0 (Nat.le_of_ble_eq_true rfl) (Nat.le_of_ble_eq_true rfl) hf (fun q1 h2 hf => ?_)
  refine aw_dup dL_law_3 rfl ?_
  refine aw_cI_v (st := [.ref q1]) [] wI_RL_9 (fun hr er => c_X7_init g h2 q1 hr er) dL_law_4 rfl rfl (Nat.le_of_ble_eq_true rfl) (Nat.le_of_ble_eq_true rfl) (Nat.le_of_ble_eq_true rfl) (Nat.le_of_ble_eq_true rfl) hf (fun h3 hf => ?_)
  refine aw_astore_n [(1, .ref q1), (0, .ref (gS g))] dL_law_7 (Nat.le_of_ble_eq_true rfl) rfl ?_
  refine aw_newB ck_8 kn_RL_10 dv_8 dL_law_8 (Nat.le_of_ble_eq_true rfl) (Nat.le_of_ble_eq_true rfl) hf (fun q4 h5 hf => ?_)
  refine aw_dup dL_law_11 rfl ?_
  refine aw_cI_v (st := [.ref q4]) [] wI_RL_12 (fun hr er => c_X8_init g h5 q4 hr er) dL_law_12 rfl rfl (Nat.le_of_ble_eq_true rfl) (Nat.le_of_ble_eq_true rfl) (Nat.le_of_ble_eq_true rfl) (Nat.le_of_ble_eq_true rfl) hf (fun h6 hf => ?_)
  refine aw_astore_n [(2, .ref q4), (1, .ref q1), (0, .ref (gS g))] dL_law_15 (Nat.le_of_ble_eq_true rfl) rfl ?_
  refine aw_iconst (v := 0) dL_law_16 rfl ?_
  refine aw_istore_n [(3, .int 0), (2, .ref q4), (1, .ref q1), (0, .ref (gS g))] dL_law_17 (Nat.le_of_ble_eq_true rfl) rfl ?_
  refine aw_pick [3, 2, 1, 0] rfl ?_
  exact l_L_law_18 g lots h6 q1 q4 0 _ _ hf
