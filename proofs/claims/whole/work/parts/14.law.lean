noncomputable def L_L_law_18 (L : Nat) (xs : Nat → Int32) (v1 : Nat) (v2 : Nat) : Nat → Nat → Nat → Nat → Hp → Int32 → Option (Nat × Nat × Nat × Hp)
  | 0, _, _, _, _, _ => none
  | n + 1, N, c, s, σ, v3 =>
  if ((nI L) - 6) < v3 then
   some (N, c, s, σ)
  else
   (scA L xs v3).bind fun x12 =>
  if (x12 &&& 31) = 0 then
   (scA L xs (v3 + 1)).bind fun x14 =>
  (scA L xs (v3 + 2)).bind fun x15 =>
  (scA L xs (v3 + 3)).bind fun x16 =>
  (m_X8_row N σ v1 x14 x15 x16).bind fun r17 =>
  (scA L xs (v3 + 1)).bind fun x18 =>
  (scA L xs (v3 + 2)).bind fun x19 =>
  (scA L xs (v3 + 3)).bind fun x20 =>
  (m_X9_row N r17.2 v2 x18 x19 x20).bind fun r21 =>
  if r17.1 = r21.1 then
   L_L_law_18 L xs v1 v2 n N c s r21.2 (v3 + 6)
  else
   none
  else if (x12 &&& 31) = 1 then
   (scA L xs (v3 + 1)).bind fun x24 =>
  (scA L xs (v3 + 2)).bind fun x25 =>
  (scA L xs (v3 + 3)).bind fun x26 =>
  (m_X8_set N σ v1 x24 x25 x26).bind fun r27 =>
  (scA L xs (v3 + 1)).bind fun x28 =>
  (scA L xs (v3 + 2)).bind fun x29 =>
  (scA L xs (v3 + 3)).bind fun x30 =>
  (m_X9_set N r27.2 v2 x28 x29 x30).bind fun r31 =>
  if r27.1 = r31.1 then
   L_L_law_18 L xs v1 v2 n N c s r31.2 (v3 + 6)
  else
   none
  else if (x12 &&& 31) = 2 then
   (scA L xs (v3 + 1)).bind fun x34 =>
  (scA L xs (v3 + 2)).bind fun x35 =>
  (scA L xs (v3 + 3)).bind fun x36 =>
  (scA L xs (v3 + 4)).bind fun x37 =>
  (scA L xs (v3 + 5)).bind fun x38 =>
  (m_X8_copy N σ v1 x34 x35 x36 x37 x38).bind fun r39 =>
  (scA L xs (v3 + 1)).bind fun x40 =>
  (scA L xs (v3 + 2)).bind fun x41 =>
  (scA L xs (v3 + 3)).bind fun x42 =>
  (scA L xs (v3 + 4)).bind fun x43 =>
  (scA L xs (v3 + 5)).bind fun x44 =>
  (m_X9_copy N r39.2 v2 x40 x41 x42 x43 x44).bind fun r45 =>
  if r39.1 = r45.1 then
   L_L_law_18 L xs v1 v2 n N c s r45.2 (v3 + 6)
  else
   none
  else if (x12 &&& 31) = 3 then
   (scA L xs (v3 + 1)).bind fun x48 =>
  (m_X8_drop N σ v1 x48).bind fun r49 =>
  (scA L xs (v3 + 1)).bind fun x50 =>
  (m_X9_drop N r49.2 v2 x50).bind fun r51 =>
  if r49.1 = r51.1 then
   L_L_law_18 L xs v1 v2 n N c s r51.2 (v3 + 6)
  else
   none
  else if (x12 &&& 31) = 4 then
   (scA L xs (v3 + 1)).bind fun x54 =>
  (m_X8_feed N σ v1 x54).bind fun r55 =>
  (scA L xs (v3 + 1)).bind fun x56 =>
  (m_X9_feed N r55.2 v2 x56).bind fun r57 =>
  if r55.1 = r57.1 then
   L_L_law_18 L xs v1 v2 n N c s r57.2 (v3 + 6)
  else
   none
  else if (x12 &&& 31) = 5 then
   (m_X8_board N σ v1).bind fun r60 =>
  (m_X9_board N r60.2 v2).bind fun r61 =>
  if r60.1 = r61.1 then
   L_L_law_18 L xs v1 v2 n N c s r61.2 (v3 + 6)
  else
   none
  else if (x12 &&& 31) = 6 then
   (m_X8_fault N σ v1).bind fun r64 =>
  (m_X9_fault N σ v2).bind fun r65 =>
  if r64 = r65 then
   L_L_law_18 L xs v1 v2 n N c s σ (v3 + 6)
  else
   none
  else if (x12 &&& 31) = 7 then
   (scA L xs (v3 + 1)).bind fun x68 =>
  (scA L xs (v3 + 2)).bind fun x69 =>
  (m_X8_move N σ v1 x68 x69).bind fun r70 =>
  (scA L xs (v3 + 1)).bind fun x71 =>
  (scA L xs (v3 + 2)).bind fun x72 =>
  (m_X9_move N r70.2 v2 x71 x72).bind fun r73 =>
  if r70.1 = r73.1 then
   L_L_law_18 L xs v1 v2 n N c s r73.2 (v3 + 6)
  else
   none
  else if (x12 &&& 31) = 8 then
   (scA L xs (v3 + 1)).bind fun x76 =>
  (scA L xs (v3 + 2)).bind fun x77 =>
  (m_X8_put N σ v1 x76 x77).bind fun r78 =>
  (scA L xs (v3 + 1)).bind fun x79 =>
  (scA L xs (v3 + 2)).bind fun x80 =>
  (m_X9_put N r78.2 v2 x79 x80).bind fun r81 =>
  if r78.1 = r81.1 then
   L_L_law_18 L xs v1 v2 n N c s r81.2 (v3 + 6)
  else
   none
  else if (x12 &&& 31) = 9 then
   (scA L xs (v3 + 1)).bind fun x84 =>
  (m_X8_high N σ v1 x84).bind fun r85 =>
  (scA L xs (v3 + 1)).bind fun x86 =>
  (m_X9_high N r85.2 v2 x86).bind fun r87 =>
  if r85.1 = r87.1 then
   L_L_law_18 L xs v1 v2 n N c s r87.2 (v3 + 6)
  else
   none
  else if (x12 &&& 31) = 10 then
   (m_X8_undo N σ v1).bind fun r90 =>
  (m_X9_undo N r90.2 v2).bind fun r91 =>
  if r90.1 = r91.1 then
   L_L_law_18 L xs v1 v2 n N c s r91.2 (v3 + 6)
  else
   none
  else if (x12 &&& 31) = 11 then
   (scA L xs (v3 + 1)).bind fun x94 =>
  (scA L xs (v3 + 2)).bind fun x95 =>
  (m_X8_disc N σ v1 x94 x95).bind fun r96 =>
  (scA L xs (v3 + 1)).bind fun x97 =>
  (scA L xs (v3 + 2)).bind fun x98 =>
  (m_X9_disc N σ v2 x97 x98).bind fun r99 =>
  if r96 = r99.1 then
   L_L_law_18 L xs v1 v2 n N c s r99.2 (v3 + 6)
  else
   none
  else if (x12 &&& 31) = 12 then
   (scA L xs (v3 + 1)).bind fun x102 =>
  (scA L xs (v3 + 2)).bind fun x103 =>
  (m_X8_peg N σ v1 x102 x103).bind fun r104 =>
  (scA L xs (v3 + 1)).bind fun x105 =>
  (scA L xs (v3 + 2)).bind fun x106 =>
  (m_X9_peg N σ v2 x105 x106).bind fun r107 =>
  if r104 = r107 then
   L_L_law_18 L xs v1 v2 n N c s σ (v3 + 6)
  else
   none
  else if (x12 &&& 31) = 13 then
   (m_X8_can N σ v1).bind fun r110 =>
  (m_X9_can N σ v2).bind fun r111 =>
  if r110 = r111.1 then
   L_L_law_18 L xs v1 v2 n N c s r111.2 (v3 + 6)
  else
   none
  else if (x12 &&& 31) = 14 then
   (scA L xs (v3 + 1)).bind fun x114 =>
  (scA L xs (v3 + 2)).bind fun x115 =>
  (scA L xs (v3 + 3)).bind fun x116 =>
  (al N σ [1000003, v1, v2] (c + 9) (s + 40986) 600000 7302250).bind fun u118 =>
  (m_X8_least N σ v1 x114 x115 x116).bind fun r117 =>
  (nb r117.2.1).bind fun u119 =>
  (scA L xs (v3 + 1)).bind fun x120 =>
  (scA L xs (v3 + 2)).bind fun x121 =>
  (scA L xs (v3 + 3)).bind fun x122 =>
  (m_X9_least r117.2.1 r117.2.2 v2 x120 x121 x122).bind fun r123 =>
  if r117.1 = r123.1 then
   L_L_law_18 L xs v1 v2 n r117.2.1 (c + 9) (s + 40986) r123.2 (v3 + 6)
  else
   none
  else if (x12 &&& 31) = 15 then
   (scA L xs (v3 + 1)).bind fun x126 =>
  (scA L xs (v3 + 2)).bind fun x127 =>
  (al N σ [1000003, v1, v2] (c + 9) (s + 40986) 600000 7302250).bind fun u129 =>
  (m_X8_tower N σ v1 x126 x127).bind fun r128 =>
  (nb r128.2.1).bind fun u130 =>
  (scA L xs (v3 + 1)).bind fun x131 =>
  (scA L xs (v3 + 2)).bind fun x132 =>
  (m_X9_tower r128.2.1 r128.2.2 v2 x131 x132).bind fun r133 =>
  if r128.1 = r133.1 then
   L_L_law_18 L xs v1 v2 n r128.2.1 (c + 9) (s + 40986) r133.2 (v3 + 6)
  else
   none
  else if (x12 &&& 31) = 16 then
   (scA L xs (v3 + 1)).bind fun x136 =>
  (al N σ [1000003, v1, v2] (c + 9) (s + 40986) 600000 7302250).bind fun u138 =>
  (m_X8_world N σ v1 x136).bind fun r137 =>
  (nb r137.2.1).bind fun u139 =>
  (scA L xs (v3 + 1)).bind fun x140 =>
  (m_X9_world r137.2.1 r137.2.2 v2 x140).bind fun r141 =>
  if r137.1 = r141.1 then
   L_L_law_18 L xs v1 v2 n r137.2.1 (c + 9) (s + 40986) r141.2 (v3 + 6)
  else
   none
  else if (x12 &&& 31) = 17 then
   (al N σ [1000003, v1, v2] (c + 9) (s + 40986) 600000 7302250).bind fun u145 =>
  (m_X8_ring N σ v1).bind fun r144 =>
  (nb r144.2.1).bind fun u146 =>
  (m_X9_ring r144.2.1 r144.2.2 v2).bind fun r147 =>
  if r144.1 = r147.1 then
   L_L_law_18 L xs v1 v2 n r144.2.1 (c + 9) (s + 40986) r147.2 (v3 + 6)
  else
   none
  else if (x12 &&& 31) = 18 then
   (scA L xs (v3 + 1)).bind fun x150 =>
  (scA L xs (v3 + 2)).bind fun x151 =>
  (scA L xs (v3 + 3)).bind fun x152 =>
  (al N σ [1000003, v1, v2] (c + 6) (s + 16397) 600000 7302250).bind fun u154 =>
  (m_X8_ways N σ v1 x150 x151 x152).bind fun r153 =>
  (nb r153.2.1).bind fun u155 =>
  (scA L xs (v3 + 1)).bind fun x156 =>
  (scA L xs (v3 + 2)).bind fun x157 =>
  (scA L xs (v3 + 3)).bind fun x158 =>
  (m_X9_ways r153.2.1 r153.2.2 v2 x156 x157 x158).bind fun r159 =>
  if (lg_cmp r153.1 r159.1) = 0 then
   L_L_law_18 L xs v1 v2 n r153.2.1 (c + 6) (s + 16397) r159.2 (v3 + 6)
  else
   none
  else if (x12 &&& 31) = 19 then
   (scA L xs (v3 + 1)).bind fun x162 =>
  (scA L xs (v3 + 2)).bind fun x163 =>
  (scA L xs (v3 + 3)).bind fun x164 =>
  (m_X8_judge N σ v1 x162 x163 x164).bind fun r165 =>
  (scA L xs (v3 + 1)).bind fun x166 =>
  (scA L xs (v3 + 2)).bind fun x167 =>
  (scA L xs (v3 + 3)).bind fun x168 =>
  (m_X9_judge N r165.2 v2 x166 x167 x168).bind fun r169 =>
  if r165.1 = r169.1 then
   L_L_law_18 L xs v1 v2 n N c s r169.2 (v3 + 6)
  else
   none
  else if (x12 &&& 31) = 20 then
   (scA L xs (v3 + 1)).bind fun x172 =>
  (scA L xs (v3 + 2)).bind fun x173 =>
  (scA L xs (v3 + 3)).bind fun x174 =>
  (scA L xs (v3 + 4)).bind fun x175 =>
  (scA L xs (v3 + 5)).bind fun x176 =>
  (m_X8_fits N σ v1 x172 x173 x174 x175 x176).bind fun r177 =>
  (scA L xs (v3 + 1)).bind fun x178 =>
  (scA L xs (v3 + 2)).bind fun x179 =>
  (scA L xs (v3 + 3)).bind fun x180 =>
  (scA L xs (v3 + 4)).bind fun x181 =>
  (scA L xs (v3 + 5)).bind fun x182 =>
  (m_X9_fits N r177.2 v2 x178 x179 x180 x181 x182).bind fun r183 =>
  if r177.1 = r183.1 then
   L_L_law_18 L xs v1 v2 n N c s r183.2 (v3 + 6)
  else
   none
  else if (x12 &&& 31) = 21 then
   (scA L xs (v3 + 1)).bind fun x186 =>
  (scA L xs (v3 + 2)).bind fun x187 =>
  (scA L xs (v3 + 3)).bind fun x188 =>
  (scA L xs (v3 + 4)).bind fun x189 =>
  (al N σ [1000003, v1, v2] (c + 6) (s + 16397) 600000 7302250).bind fun u191 =>
  (m_X8_chance N σ v1 x186 x187 x188 x189).bind fun r190 =>
  (nb r190.2.1).bind fun u192 =>
  (scA L xs (v3 + 1)).bind fun x193 =>
  (scA L xs (v3 + 2)).bind fun x194 =>
  (scA L xs (v3 + 3)).bind fun x195 =>
  (scA L xs (v3 + 4)).bind fun x196 =>
  (m_X9_chance r190.2.1 r190.2.2 v2 x193 x194 x195 x196).bind fun r197 =>
  if (lg_cmp r190.1 r197.1) = 0 then
   L_L_law_18 L xs v1 v2 n r190.2.1 (c + 6) (s + 16397) r197.2 (v3 + 6)
  else
   none
  else if (x12 &&& 31) = 22 then
   (scA L xs (v3 + 1)).bind fun x200 =>
  (scA L xs (v3 + 2)).bind fun x201 =>
  (scA L xs (v3 + 3)).bind fun x202 =>
  (m_X8_drawn N σ v1 x200 x201 x202).bind fun r203 =>
  (scA L xs (v3 + 1)).bind fun x204 =>
  (scA L xs (v3 + 2)).bind fun x205 =>
  (scA L xs (v3 + 3)).bind fun x206 =>
  (m_X9_drawn N r203.2 v2 x204 x205 x206).bind fun r207 =>
  if r203.1 = r207.1 then
   L_L_law_18 L xs v1 v2 n N c s r207.2 (v3 + 6)
  else
   none
  else if (x12 &&& 31) = 23 then
   (scA L xs (v3 + 1)).bind fun x210 =>
  (m_X8_image N σ v1 x210).bind fun r211 =>
  (scA L xs (v3 + 1)).bind fun x212 =>
  (m_X9_image N r211.2 v2 x212).bind fun r213 =>
  if r211.1 = r213.1 then
   L_L_law_18 L xs v1 v2 n N c s r213.2 (v3 + 6)
  else
   none
  else if (x12 &&& 31) = 24 then
   (scA L xs (v3 + 1)).bind fun x216 =>
  (m_X8_restore N σ v1 x216).bind fun r217 =>
  (scA L xs (v3 + 1)).bind fun x218 =>
  (m_X9_restore N r217.2 v2 x218).bind fun r219 =>
  if r217.1 = r219.1 then
   L_L_law_18 L xs v1 v2 n N c s r219.2 (v3 + 6)
  else
   none
  else if (x12 &&& 31) = 25 then
   (scA L xs (v3 + 1)).bind fun x222 =>
  (m_X8_kind N σ v1 x222).bind fun r223 =>
  (scA L xs (v3 + 1)).bind fun x224 =>
  (m_X9_kind N σ v2 x224).bind fun r225 =>
  if r223 = r225 then
   L_L_law_18 L xs v1 v2 n N c s σ (v3 + 6)
  else
   none
  else if (x12 &&& 31) = 26 then
   (scA L xs (v3 + 1)).bind fun x228 =>
  (scA L xs (v3 + 2)).bind fun x229 =>
  (m_X8_as N σ v1 x228 x229).bind fun r230 =>
  (scA L xs (v3 + 1)).bind fun x231 =>
  (scA L xs (v3 + 2)).bind fun x232 =>
  (m_X9_as N r230.2 v2 x231 x232).bind fun r233 =>
  if r230.1 = r233.1 then
   L_L_law_18 L xs v1 v2 n N c s r233.2 (v3 + 6)
  else
   none
  else if (x12 &&& 31) = 27 then
   (scA L xs (v3 + 1)).bind fun x236 =>
  (scA L xs (v3 + 2)).bind fun x237 =>
  (m_X8_ask N σ v1 x236 x237).bind fun r238 =>
  (scA L xs (v3 + 1)).bind fun x239 =>
  (scA L xs (v3 + 2)).bind fun x240 =>
  (m_X9_ask N r238.2 v2 x239 x240).bind fun r241 =>
  if r238.1 = r241.1 then
   L_L_law_18 L xs v1 v2 n N c s r241.2 (v3 + 6)
  else
   none
  else if (x12 &&& 31) = 28 then
   (scA L xs (v3 + 1)).bind fun x244 =>
  (m_X8_trace N σ v1 x244).bind fun r245 =>
  (scA L xs (v3 + 1)).bind fun x246 =>
  (m_X9_trace N σ v2 x246).bind fun r247 =>
  if r245 = r247 then
   L_L_law_18 L xs v1 v2 n N c s σ (v3 + 6)
  else
   none
  else if (x12 &&& 31) = 29 then
   (scA L xs (v3 + 1)).bind fun x250 =>
  (m_X8_count N σ v1 x250).bind fun r251 =>
  (scA L xs (v3 + 1)).bind fun x252 =>
  (m_X9_count N σ v2 x252).bind fun r253 =>
  if r251 = r253 then
   L_L_law_18 L xs v1 v2 n N c s σ (v3 + 6)
  else
   none
  else if (x12 &&& 31) = 30 then
   (m_X8_status N σ v1).bind fun r256 =>
  (m_X9_status N σ v2).bind fun r257 =>
  if r256 = r257 then
   L_L_law_18 L xs v1 v2 n N c s σ (v3 + 6)
  else
   none
  else 
   L_L_law_18 L xs v1 v2 n N c s σ (v3 + 6)
noncomputable def m_L_law (L : Nat) (xs : Nat → Int32) (σ : Hp) : Option Unit :=
  (al 0 σ [1000003] (0 + 1) (0 + 12) 600000 7302250).bind fun u1 =>
  (mkc σ 0 (.inr (8, [.null, .null, .null, .null, .null, .null, .null, .null, .null, .null, .int 0, .int 0]))).bind fun σ2 =>
  (al (0 + 1) σ2 [1000003, 0] (0 + 1 + 52) (0 + 12 + 636) 600000 7302250).bind fun u3 =>
  (m_X8_init (0 + 1) σ2 0).bind fun r5 =>
  (nb r5.1).bind fun u4 =>
  (al r5.1 r5.2 [1000003, 0] (0 + 1 + 52 + 1) (0 + 12 + 636 + 24) 600000 7302250).bind fun u6 =>
  (mkc r5.2 r5.1 (.inr (9, [.null, .null, .null, .int 0, .int 0, .null, .int 0, .int 0, .int 0, .int 0, .null, .int 0, .null, .null, .null, .null, .int 0, .null, .null, .int 0, .int 0, .int 0, .null, .int 0]))).bind fun σ7 =>
  (al (r5.1 + 1) σ7 [1000003, 0, r5.1] (0 + 1 + 52 + 1 + 12) (0 + 12 + 636 + 24 + 41822) 600000 7302250).bind fun u8 =>
  (m_X9_init (r5.1 + 1) σ7 r5.1).bind fun r10 =>
  (nb r10.1).bind fun u9 =>
  (L_L_law_18 L xs 0 r5.1 fu r10.1 (0 + 1 + 52 + 1 + 12) (0 + 12 + 636 + 24 + 41822) r10.2 0).bind fun z259 =>
  some ()
set_option maxHeartbeats 4000000 in
set_option maxRecDepth 100000 in
theorem lp_L_law_18 {κ : Kx} {N0 : Nat} {ad0 : Nat → Nat} {mn : String} {L : Nat} {xs : Nat → Int32} (C : Cx κ 4 100 cL_law RL mn) (hRc : κ.R.cells = 600000) (hRs : κ.R.slots = 7302250) (B : LX κ L xs) (v1 : Nat) (v2 : Nat) {r : Nat × Nat × Nat × Hp} (hk : ∀ ad, Zx κ (r.1, ad, r.2.1, r.2.2.1) → Ag N0 ad0 (r.1, ad, r.2.1, r.2.2.1) → X κ 4 (r.1, ad, r.2.1, r.2.2.1) 1133 [none, none, none, none] [] r.2.2.2) : ∀ (n N : Nat) (ad : Nat → Nat) (c s : Nat) (σ : Hp) (v3 : Int32), L_L_law_18 L xs v1 v2 n N c s σ v3 = some r → Zx κ (N, ad, c, s) → Ag N0 ad0 (N, ad, c, s) → X κ 4 (N, ad, c, s) 18 [some (.ref 1000003), some (.ref v1), some (.ref v2), some (.int v3)] [] σ := by
  intro n
  induction n with
  | zero => intro N ad c s σ v3 h; cases h
  | succ n ih =>
    intro N ad c s σ v3 h Z G
    rw [L_L_law_18.eq_2] at h
    refine x_iload_n C (i := 3) dL_law_18 rfl rfl ?_
    refine x_aload_n C (i := 0) dL_law_19 rfl rfl ?_
    refine x_slen C Z B dL_law_20 ?_
    refine x_bipush C (v := 6) dL_law_21 (by decide) ?_
    refine x_isub C dL_law_23 ?_
    refine x_icmp_gt C (tgt := 1133) dL_law_24 (by decide) (fun c11 => ?_) (fun c11 => ?_)
    · have h := ifP h c11
      refine x_wk [false, false, false, false] (lo' := [none, none, none, none]) rfl ?_
      obtain rfl := Option.some.inj h
      exact hk _ Z G
    · have h := ifN h c11
      refine x_aload_n C (i := 0) dL_law_27 rfl rfl ?_
      refine x_iload_n C (i := 3) dL_law_28 rfl rfl ?_
      obtain ⟨x12, ex12, h⟩ := ob h
      refine x_sld C Z B dL_law_29 ex12 ?_
      refine x_bipush C (v := 31) dL_law_30 (by decide) ?_
      refine x_iand C dL_law_32 ?_
      by_cases c13 : (x12 &&& 31) = 0
      · have h := ifP h c13
        refine x_tableIn C (off := 139) (tgt := 172) dL_law_33 (by rw [c13]; decide) (by rw [c13]; decide) (by rw [c13]; rfl) (by decide) ?_
        refine x_aload_n C (i := 1) dL_law_172 rfl rfl ?_
        refine x_aload_n C (i := 0) dL_law_173 rfl rfl ?_
        refine x_iload_n C (i := 3) dL_law_174 rfl rfl ?_
        refine x_iconst C (v := 1) dL_law_175 (by decide) ?_
        refine x_iadd C dL_law_176 ?_
        obtain ⟨x14, ex14, h⟩ := ob h
        refine x_sld C Z B dL_law_177 ex14 ?_
        refine x_aload_n C (i := 0) dL_law_178 rfl rfl ?_
        refine x_iload_n C (i := 3) dL_law_179 rfl rfl ?_
        refine x_iconst C (v := 2) dL_law_180 (by decide) ?_
        refine x_iadd C dL_law_181 ?_
        obtain ⟨x15, ex15, h⟩ := ob h
        refine x_sld C Z B dL_law_182 ex15 ?_
        refine x_aload_n C (i := 0) dL_law_183 rfl rfl ?_
        refine x_iload_n C (i := 3) dL_law_184 rfl rfl ?_
        refine x_iconst C (v := 3) dL_law_185 (by decide) ?_
        refine x_iadd C dL_law_186 ?_
        obtain ⟨x16, ex16, h⟩ := ob h
        refine x_sld C Z B dL_law_187 ex16 ?_
        obtain ⟨r17, er17, h⟩ := ob h
        refine x_callVr C Z mv_X8_row lk_L_13 (rv_h er17) (ct_X8_row er17) (by decide) rfl rfl (Nat.le_of_ble_eq_true rfl) dL_law_188 ?_
        refine x_aload_n C (i := 2) dL_law_191 rfl rfl ?_
        refine x_aload_n C (i := 0) dL_law_192 rfl rfl ?_
        refine x_iload_n C (i := 3) dL_law_193 rfl rfl ?_
        refine x_iconst C (v := 1) dL_law_194 (by decide) ?_
        refine x_iadd C dL_law_195 ?_
        obtain ⟨x18, ex18, h⟩ := ob h
        refine x_sld C Z B dL_law_196 ex18 ?_
        refine x_aload_n C (i := 0) dL_law_197 rfl rfl ?_
        refine x_iload_n C (i := 3) dL_law_198 rfl rfl ?_
        refine x_iconst C (v := 2) dL_law_199 (by decide) ?_
        refine x_iadd C dL_law_200 ?_
        obtain ⟨x19, ex19, h⟩ := ob h
        refine x_sld C Z B dL_law_201 ex19 ?_
        refine x_aload_n C (i := 0) dL_law_202 rfl rfl ?_
        refine x_iload_n C (i := 3) dL_law_203 rfl rfl ?_
        refine x_iconst C (v := 3) dL_law_204 (by decide) ?_
        refine x_iadd C dL_law_205 ?_
        obtain ⟨x20, ex20, h⟩ := ob h
        refine x_sld C Z B dL_law_206 ex20 ?_
        obtain ⟨r21, er21, h⟩ := ob h
        refine x_callVr C Z mv_X9_row lk_L_17 (rv_h er21) (ct_X9_row er21) (by decide) rfl rfl (Nat.le_of_ble_eq_true rfl) dL_law_207 ?_
        refine x_icmp_eq C (tgt := 1127) dL_law_210 (by decide) (fun c22 => ?_) (fun c22 => ?_)
        · have h := ifP h c22
          refine x_iinc C (i := 3) (y := v3 + 6) (lo' := [some (.ref 1000003), some (.ref v1), some (.ref v2), some (.int (v3 + 6))]) dL_law_1127 rfl rfl (by decide) rfl rfl ?_
          refine x_goto C (tgt := 18) dL_law_1130 (by decide) ?_
          refine x_wk [true, true, true, true] (lo' := [some (.ref 1000003), some (.ref v1), some (.ref v2), some (.int (v3 + 6))]) rfl ?_
          exact ih _ _ _ _ _ (v3 + 6) h Z G
        · have h := ifN h c22
          refine x_iconst C (v := 0) dL_law_213 (by decide) ?_
          cases h
      · have h := ifN h c13
        by_cases c23 : (x12 &&& 31) = 1
        · have h := ifP h c23
          refine x_tableIn C (off := 182) (tgt := 215) dL_law_33 (by rw [c23]; decide) (by rw [c23]; decide) (by rw [c23]; rfl) (by decide) ?_
          refine x_aload_n C (i := 1) dL_law_215 rfl rfl ?_
          refine x_aload_n C (i := 0) dL_law_216 rfl rfl ?_
          refine x_iload_n C (i := 3) dL_law_217 rfl rfl ?_
          refine x_iconst C (v := 1) dL_law_218 (by decide) ?_
          refine x_iadd C dL_law_219 ?_
          obtain ⟨x24, ex24, h⟩ := ob h
          refine x_sld C Z B dL_law_220 ex24 ?_
          refine x_aload_n C (i := 0) dL_law_221 rfl rfl ?_
          refine x_iload_n C (i := 3) dL_law_222 rfl rfl ?_
          refine x_iconst C (v := 2) dL_law_223 (by decide) ?_
          refine x_iadd C dL_law_224 ?_
          obtain ⟨x25, ex25, h⟩ := ob h
          refine x_sld C Z B dL_law_225 ex25 ?_
          refine x_aload_n C (i := 0) dL_law_226 rfl rfl ?_
          refine x_iload_n C (i := 3) dL_law_227 rfl rfl ?_
          refine x_iconst C (v := 3) dL_law_228 (by decide) ?_
          refine x_iadd C dL_law_229 ?_
          obtain ⟨x26, ex26, h⟩ := ob h
          refine x_sld C Z B dL_law_230 ex26 ?_
          obtain ⟨r27, er27, h⟩ := ob h
          refine x_callVr C Z mv_X8_set lk_L_18 (rv_h er27) (ct_X8_set er27) (by decide) rfl rfl (Nat.le_of_ble_eq_true rfl) dL_law_231 ?_
          refine x_aload_n C (i := 2) dL_law_234 rfl rfl ?_
          refine x_aload_n C (i := 0) dL_law_235 rfl rfl ?_
          refine x_iload_n C (i := 3) dL_law_236 rfl rfl ?_
          refine x_iconst C (v := 1) dL_law_237 (by decide) ?_
          refine x_iadd C dL_law_238 ?_
          obtain ⟨x28, ex28, h⟩ := ob h
          refine x_sld C Z B dL_law_239 ex28 ?_
          refine x_aload_n C (i := 0) dL_law_240 rfl rfl ?_
          refine x_iload_n C (i := 3) dL_law_241 rfl rfl ?_
          refine x_iconst C (v := 2) dL_law_242 (by decide) ?_
          refine x_iadd C dL_law_243 ?_
          obtain ⟨x29, ex29, h⟩ := ob h
          refine x_sld C Z B dL_law_244 ex29 ?_
          refine x_aload_n C (i := 0) dL_law_245 rfl rfl ?_
          refine x_iload_n C (i := 3) dL_law_246 rfl rfl ?_
          refine x_iconst C (v := 3) dL_law_247 (by decide) ?_
          refine x_iadd C dL_law_248 ?_
          obtain ⟨x30, ex30, h⟩ := ob h
          refine x_sld C Z B dL_law_249 ex30 ?_
          obtain ⟨r31, er31, h⟩ := ob h
          refine x_callVr C Z mv_X9_set lk_L_21 (rv_h er31) (ct_X9_set er31) (by decide) rfl rfl (Nat.le_of_ble_eq_true rfl) dL_law_250 ?_
          refine x_icmp_eq C (tgt := 1127) dL_law_253 (by decide) (fun c32 => ?_) (fun c32 => ?_)
          · have h := ifP h c32
            refine x_iinc C (i := 3) (y := v3 + 6) (lo' := [some (.ref 1000003), some (.ref v1), some (.ref v2), some (.int (v3 + 6))]) dL_law_1127 rfl rfl (by decide) rfl rfl ?_
            refine x_goto C (tgt := 18) dL_law_1130 (by decide) ?_
            refine x_wk [true, true, true, true] (lo' := [some (.ref 1000003), some (.ref v1), some (.ref v2), some (.int (v3 + 6))]) rfl ?_
            exact ih _ _ _ _ _ (v3 + 6) h Z G
          · have h := ifN h c32
            refine x_iconst C (v := 0) dL_law_256 (by decide) ?_
            cases h
        · have h := ifN h c23
          by_cases c33 : (x12 &&& 31) = 2
          · have h := ifP h c33
            refine x_tableIn C (off := 225) (tgt := 258) dL_law_33 (by rw [c33]; decide) (by rw [c33]; decide) (by rw [c33]; rfl) (by decide) ?_
            refine x_aload_n C (i := 1) dL_law_258 rfl rfl ?_
            refine x_aload_n C (i := 0) dL_law_259 rfl rfl ?_
            refine x_iload_n C (i := 3) dL_law_260 rfl rfl ?_
            refine x_iconst C (v := 1) dL_law_261 (by decide) ?_
            refine x_iadd C dL_law_262 ?_
            obtain ⟨x34, ex34, h⟩ := ob h
            refine x_sld C Z B dL_law_263 ex34 ?_
            refine x_aload_n C (i := 0) dL_law_264 rfl rfl ?_
            refine x_iload_n C (i := 3) dL_law_265 rfl rfl ?_
            refine x_iconst C (v := 2) dL_law_266 (by decide) ?_
            refine x_iadd C dL_law_267 ?_
            obtain ⟨x35, ex35, h⟩ := ob h
            refine x_sld C Z B dL_law_268 ex35 ?_
            refine x_aload_n C (i := 0) dL_law_269 rfl rfl ?_
            refine x_iload_n C (i := 3) dL_law_270 rfl rfl ?_
            refine x_iconst C (v := 3) dL_law_271 (by decide) ?_
            refine x_iadd C dL_law_272 ?_
            obtain ⟨x36, ex36, h⟩ := ob h
            refine x_sld C Z B dL_law_273 ex36 ?_
            refine x_aload_n C (i := 0) dL_law_274 rfl rfl ?_
            refine x_iload_n C (i := 3) dL_law_275 rfl rfl ?_
            refine x_iconst C (v := 4) dL_law_276 (by decide) ?_
            refine x_iadd C dL_law_277 ?_
            obtain ⟨x37, ex37, h⟩ := ob h
            refine x_sld C Z B dL_law_278 ex37 ?_
            refine x_aload_n C (i := 0) dL_law_279 rfl rfl ?_
            refine x_iload_n C (i := 3) dL_law_280 rfl rfl ?_
            refine x_iconst C (v := 5) dL_law_281 (by decide) ?_
            refine x_iadd C dL_law_282 ?_
            obtain ⟨x38, ex38, h⟩ := ob h
            refine x_sld C Z B dL_law_283 ex38 ?_
            obtain ⟨r39, er39, h⟩ := ob h
            refine x_callVr C Z mv_X8_copy lk_L_22 (rv_h er39) (ct_X8_copy er39) (by decide) rfl rfl (Nat.le_of_ble_eq_true rfl) dL_law_284 ?_
            refine x_aload_n C (i := 2) dL_law_287 rfl rfl ?_
            refine x_aload_n C (i := 0) dL_law_288 rfl rfl ?_
            refine x_iload_n C (i := 3) dL_law_289 rfl rfl ?_
            refine x_iconst C (v := 1) dL_law_290 (by decide) ?_
            refine x_iadd C dL_law_291 ?_
            obtain ⟨x40, ex40, h⟩ := ob h
            refine x_sld C Z B dL_law_292 ex40 ?_
            refine x_aload_n C (i := 0) dL_law_293 rfl rfl ?_
            refine x_iload_n C (i := 3) dL_law_294 rfl rfl ?_
            refine x_iconst C (v := 2) dL_law_295 (by decide) ?_
            refine x_iadd C dL_law_296 ?_
            obtain ⟨x41, ex41, h⟩ := ob h
            refine x_sld C Z B dL_law_297 ex41 ?_
            refine x_aload_n C (i := 0) dL_law_298 rfl rfl ?_
            refine x_iload_n C (i := 3) dL_law_299 rfl rfl ?_
            refine x_iconst C (v := 3) dL_law_300 (by decide) ?_
            refine x_iadd C dL_law_301 ?_
            obtain ⟨x42, ex42, h⟩ := ob h
            refine x_sld C Z B dL_law_302 ex42 ?_
            refine x_aload_n C (i := 0) dL_law_303 rfl rfl ?_
            refine x_iload_n C (i := 3) dL_law_304 rfl rfl ?_
            refine x_iconst C (v := 4) dL_law_305 (by decide) ?_
            refine x_iadd C dL_law_306 ?_
            obtain ⟨x43, ex43, h⟩ := ob h
            refine x_sld C Z B dL_law_307 ex43 ?_
            refine x_aload_n C (i := 0) dL_law_308 rfl rfl ?_
            refine x_iload_n C (i := 3) dL_law_309 rfl rfl ?_
            refine x_iconst C (v := 5) dL_law_310 (by decide) ?_
            refine x_iadd C dL_law_311 ?_
            obtain ⟨x44, ex44, h⟩ := ob h
            refine x_sld C Z B dL_law_312 ex44 ?_
            obtain ⟨r45, er45, h⟩ := ob h
            refine x_callVr C Z mv_X9_copy lk_L_26 (rv_h er45) (ct_X9_copy er45) (by decide) rfl rfl (Nat.le_of_ble_eq_true rfl) dL_law_313 ?_
            refine x_icmp_eq C (tgt := 1127) dL_law_316 (by decide) (fun c46 => ?_) (fun c46 => ?_)
            · have h := ifP h c46
              refine x_iinc C (i := 3) (y := v3 + 6) (lo' := [some (.ref 1000003), some (.ref v1), some (.ref v2), some (.int (v3 + 6))]) dL_law_1127 rfl rfl (by decide) rfl rfl ?_
              refine x_goto C (tgt := 18) dL_law_1130 (by decide) ?_
              refine x_wk [true, true, true, true] (lo' := [some (.ref 1000003), some (.ref v1), some (.ref v2), some (.int (v3 + 6))]) rfl ?_
              exact ih _ _ _ _ _ (v3 + 6) h Z G
            · have h := ifN h c46
              refine x_iconst C (v := 0) dL_law_319 (by decide) ?_
              cases h
          · have h := ifN h c33
            by_cases c47 : (x12 &&& 31) = 3
            · have h := ifP h c47
              refine x_tableIn C (off := 288) (tgt := 321) dL_law_33 (by rw [c47]; decide) (by rw [c47]; decide) (by rw [c47]; rfl) (by decide) ?_
              refine x_aload_n C (i := 1) dL_law_321 rfl rfl ?_
              refine x_aload_n C (i := 0) dL_law_322 rfl rfl ?_
              refine x_iload_n C (i := 3) dL_law_323 rfl rfl ?_
              refine x_iconst C (v := 1) dL_law_324 (by decide) ?_
              refine x_iadd C dL_law_325 ?_
              obtain ⟨x48, ex48, h⟩ := ob h
              refine x_sld C Z B dL_law_326 ex48 ?_
              obtain ⟨r49, er49, h⟩ := ob h
              refine x_callVr C Z mv_X8_drop lk_L_27 (rv_h er49) (ct_X8_drop er49) (by decide) rfl rfl (Nat.le_of_ble_eq_true rfl) dL_law_327 ?_
              refine x_aload_n C (i := 2) dL_law_330 rfl rfl ?_
              refine x_aload_n C (i := 0) dL_law_331 rfl rfl ?_
              refine x_iload_n C (i := 3) dL_law_332 rfl rfl ?_
              refine x_iconst C (v := 1) dL_law_333 (by decide) ?_
              refine x_iadd C dL_law_334 ?_
              obtain ⟨x50, ex50, h⟩ := ob h
              refine x_sld C Z B dL_law_335 ex50 ?_
              obtain ⟨r51, er51, h⟩ := ob h
              refine x_callVr C Z mv_X9_drop lk_L_31 (rv_h er51) (ct_X9_drop er51) (by decide) rfl rfl (Nat.le_of_ble_eq_true rfl) dL_law_336 ?_
              refine x_icmp_eq C (tgt := 1127) dL_law_339 (by decide) (fun c52 => ?_) (fun c52 => ?_)
              · have h := ifP h c52
                refine x_iinc C (i := 3) (y := v3 + 6) (lo' := [some (.ref 1000003), some (.ref v1), some (.ref v2), some (.int (v3 + 6))]) dL_law_1127 rfl rfl (by decide) rfl rfl ?_
                refine x_goto C (tgt := 18) dL_law_1130 (by decide) ?_
                refine x_wk [true, true, true, true] (lo' := [some (.ref 1000003), some (.ref v1), some (.ref v2), some (.int (v3 + 6))]) rfl ?_
                exact ih _ _ _ _ _ (v3 + 6) h Z G
              · have h := ifN h c52
                refine x_iconst C (v := 0) dL_law_342 (by decide) ?_
                cases h
            · have h := ifN h c47
              by_cases c53 : (x12 &&& 31) = 4
              · have h := ifP h c53
                refine x_tableIn C (off := 311) (tgt := 344) dL_law_33 (by rw [c53]; decide) (by rw [c53]; decide) (by rw [c53]; rfl) (by decide) ?_
                refine x_aload_n C (i := 1) dL_law_344 rfl rfl ?_
                refine x_aload_n C (i := 0) dL_law_345 rfl rfl ?_
                refine x_iload_n C (i := 3) dL_law_346 rfl rfl ?_
                refine x_iconst C (v := 1) dL_law_347 (by decide) ?_
                refine x_iadd C dL_law_348 ?_
                obtain ⟨x54, ex54, h⟩ := ob h
                refine x_sld C Z B dL_law_349 ex54 ?_
                obtain ⟨r55, er55, h⟩ := ob h
                refine x_callVr C Z mv_X8_feed lk_L_32 (rv_h er55) (ct_X8_feed er55) (by decide) rfl rfl (Nat.le_of_ble_eq_true rfl) dL_law_350 ?_
                refine x_aload_n C (i := 2) dL_law_353 rfl rfl ?_
                refine x_aload_n C (i := 0) dL_law_354 rfl rfl ?_
                refine x_iload_n C (i := 3) dL_law_355 rfl rfl ?_
                refine x_iconst C (v := 1) dL_law_356 (by decide) ?_
                refine x_iadd C dL_law_357 ?_
                obtain ⟨x56, ex56, h⟩ := ob h
                refine x_sld C Z B dL_law_358 ex56 ?_
                obtain ⟨r57, er57, h⟩ := ob h
                refine x_callVr C Z mv_X9_feed lk_L_35 (rv_h er57) (ct_X9_feed er57) (by decide) rfl rfl (Nat.le_of_ble_eq_true rfl) dL_law_359 ?_
                refine x_icmp_eq C (tgt := 1127) dL_law_362 (by decide) (fun c58 => ?_) (fun c58 => ?_)
                · have h := ifP h c58
                  refine x_iinc C (i := 3) (y := v3 + 6) (lo' := [some (.ref 1000003), some (.ref v1), some (.ref v2), some (.int (v3 + 6))]) dL_law_1127 rfl rfl (by decide) rfl rfl ?_
                  refine x_goto C (tgt := 18) dL_law_1130 (by decide) ?_
                  refine x_wk [true, true, true, true] (lo' := [some (.ref 1000003), some (.ref v1), some (.ref v2), some (.int (v3 + 6))]) rfl ?_
                  exact ih _ _ _ _ _ (v3 + 6) h Z G
                · have h := ifN h c58
                  refine x_iconst C (v := 0) dL_law_365 (by decide) ?_
                  cases h
              · have h := ifN h c53
                by_cases c59 : (x12 &&& 31) = 5
                · have h := ifP h c59
                  refine x_tableIn C (off := 334) (tgt := 367) dL_law_33 (by rw [c59]; decide) (by rw [c59]; decide) (by rw [c59]; rfl) (by decide) ?_
                  refine x_aload_n C (i := 1) dL_law_367 rfl rfl ?_
                  obtain ⟨r60, er60, h⟩ := ob h
                  refine x_callVr C Z mv_X8_board lk_L_36 (rv_h er60) (ct_X8_board er60) (by decide) rfl rfl (Nat.le_of_ble_eq_true rfl) dL_law_368 ?_
                  refine x_aload_n C (i := 2) dL_law_371 rfl rfl ?_
                  obtain ⟨r61, er61, h⟩ := ob h
                  refine x_callVr C Z mv_X9_board lk_L_40 (rv_h er61) (ct_X9_board er61) (by decide) rfl rfl (Nat.le_of_ble_eq_true rfl) dL_law_372 ?_
                  refine x_icmp_eq C (tgt := 1127) dL_law_375 (by decide) (fun c62 => ?_) (fun c62 => ?_)
                  · have h := ifP h c62
                    refine x_iinc C (i := 3) (y := v3 + 6) (lo' := [some (.ref 1000003), some (.ref v1), some (.ref v2), some (.int (v3 + 6))]) dL_law_1127 rfl rfl (by decide) rfl rfl ?_
                    refine x_goto C (tgt := 18) dL_law_1130 (by decide) ?_
                    refine x_wk [true, true, true, true] (lo' := [some (.ref 1000003), some (.ref v1), some (.ref v2), some (.int (v3 + 6))]) rfl ?_
                    exact ih _ _ _ _ _ (v3 + 6) h Z G
                  · have h := ifN h c62
                    refine x_iconst C (v := 0) dL_law_378 (by decide) ?_
                    cases h
                · have h := ifN h c59
                  by_cases c63 : (x12 &&& 31) = 6
                  · have h := ifP h c63
                    refine x_tableIn C (off := 347) (tgt := 380) dL_law_33 (by rw [c63]; decide) (by rw [c63]; decide) (by rw [c63]; rfl) (by decide) ?_
                    refine x_aload_n C (i := 1) dL_law_380 rfl rfl ?_
                    obtain ⟨r64, er64, h⟩ := ob h
                    refine x_callVr C Z mv_X8_fault lk_L_41 (rv_h er64) (ct_X8_fault er64) (by decide) rfl rfl (Nat.le_of_ble_eq_true rfl) dL_law_381 ?_
                    refine x_aload_n C (i := 2) dL_law_384 rfl rfl ?_
                    obtain ⟨r65, er65, h⟩ := ob h
                    refine x_callVr C Z mv_X9_fault lk_L_44 (rv_h er65) (ct_X9_fault er65) (by decide) rfl rfl (Nat.le_of_ble_eq_true rfl) dL_law_385 ?_
                    refine x_icmp_eq C (tgt := 1127) dL_law_388 (by decide) (fun c66 => ?_) (fun c66 => ?_)
                    · have h := ifP h c66
                      refine x_iinc C (i := 3) (y := v3 + 6) (lo' := [some (.ref 1000003), some (.ref v1), some (.ref v2), some (.int (v3 + 6))]) dL_law_1127 rfl rfl (by decide) rfl rfl ?_
                      refine x_goto C (tgt := 18) dL_law_1130 (by decide) ?_
                      refine x_wk [true, true, true, true] (lo' := [some (.ref 1000003), some (.ref v1), some (.ref v2), some (.int (v3 + 6))]) rfl ?_
                      exact ih _ _ _ _ _ (v3 + 6) h Z G
                    · have h := ifN h c66
                      refine x_iconst C (v := 0) dL_law_391 (by decide) ?_
                      cases h
                  · have h := ifN h c63
                    by_cases c67 : (x12 &&& 31) = 7
                    · have h := ifP h c67
                      refine x_tableIn C (off := 360) (tgt := 393) dL_law_33 (by rw [c67]; decide) (by rw [c67]; decide) (by rw [c67]; rfl) (by decide) ?_
                      refine x_aload_n C (i := 1) dL_law_393 rfl rfl ?_
                      refine x_aload_n C (i := 0) dL_law_394 rfl rfl ?_
                      refine x_iload_n C (i := 3) dL_law_395 rfl rfl ?_
                      refine x_iconst C (v := 1) dL_law_396 (by decide) ?_
                      refine x_iadd C dL_law_397 ?_
                      obtain ⟨x68, ex68, h⟩ := ob h
                      refine x_sld C Z B dL_law_398 ex68 ?_
                      refine x_aload_n C (i := 0) dL_law_399 rfl rfl ?_
                      refine x_iload_n C (i := 3) dL_law_400 rfl rfl ?_
                      refine x_iconst C (v := 2) dL_law_401 (by decide) ?_
                      refine x_iadd C dL_law_402 ?_
                      obtain ⟨x69, ex69, h⟩ := ob h
                      refine x_sld C Z B dL_law_403 ex69 ?_
                      obtain ⟨r70, er70, h⟩ := ob h
                      refine x_callVr C Z mv_X8_move lk_L_45 (rv_h er70) (ct_X8_move er70) (by decide) rfl rfl (Nat.le_of_ble_eq_true rfl) dL_law_404 ?_
                      refine x_aload_n C (i := 2) dL_law_407 rfl rfl ?_
                      refine x_aload_n C (i := 0) dL_law_408 rfl rfl ?_
                      refine x_iload_n C (i := 3) dL_law_409 rfl rfl ?_
                      refine x_iconst C (v := 1) dL_law_410 (by decide) ?_
                      refine x_iadd C dL_law_411 ?_
                      obtain ⟨x71, ex71, h⟩ := ob h
                      refine x_sld C Z B dL_law_412 ex71 ?_
                      refine x_aload_n C (i := 0) dL_law_413 rfl rfl ?_
                      refine x_iload_n C (i := 3) dL_law_414 rfl rfl ?_
                      refine x_iconst C (v := 2) dL_law_415 (by decide) ?_
                      refine x_iadd C dL_law_416 ?_
                      obtain ⟨x72, ex72, h⟩ := ob h
                      refine x_sld C Z B dL_law_417 ex72 ?_
                      obtain ⟨r73, er73, h⟩ := ob h
                      refine x_callVr C Z mv_X9_move lk_L_49 (rv_h er73) (ct_X9_move er73) (by decide) rfl rfl (Nat.le_of_ble_eq_true rfl) dL_law_418 ?_
                      refine x_icmp_eq C (tgt := 1127) dL_law_421 (by decide) (fun c74 => ?_) (fun c74 => ?_)
                      · have h := ifP h c74
                        refine x_iinc C (i := 3) (y := v3 + 6) (lo' := [some (.ref 1000003), some (.ref v1), some (.ref v2), some (.int (v3 + 6))]) dL_law_1127 rfl rfl (by decide) rfl rfl ?_
                        refine x_goto C (tgt := 18) dL_law_1130 (by decide) ?_
                        refine x_wk [true, true, true, true] (lo' := [some (.ref 1000003), some (.ref v1), some (.ref v2), some (.int (v3 + 6))]) rfl ?_
                        exact ih _ _ _ _ _ (v3 + 6) h Z G
                      · have h := ifN h c74
                        refine x_iconst C (v := 0) dL_law_424 (by decide) ?_
                        cases h
                    · have h := ifN h c67
                      by_cases c75 : (x12 &&& 31) = 8
                      · have h := ifP h c75
                        refine x_tableIn C (off := 393) (tgt := 426) dL_law_33 (by rw [c75]; decide) (by rw [c75]; decide) (by rw [c75]; rfl) (by decide) ?_
                        refine x_aload_n C (i := 1) dL_law_426 rfl rfl ?_
                        refine x_aload_n C (i := 0) dL_law_427 rfl rfl ?_
                        refine x_iload_n C (i := 3) dL_law_428 rfl rfl ?_
                        refine x_iconst C (v := 1) dL_law_429 (by decide) ?_
                        refine x_iadd C dL_law_430 ?_
                        obtain ⟨x76, ex76, h⟩ := ob h
                        refine x_sld C Z B dL_law_431 ex76 ?_
                        refine x_aload_n C (i := 0) dL_law_432 rfl rfl ?_
                        refine x_iload_n C (i := 3) dL_law_433 rfl rfl ?_
                        refine x_iconst C (v := 2) dL_law_434 (by decide) ?_
                        refine x_iadd C dL_law_435 ?_
                        obtain ⟨x77, ex77, h⟩ := ob h
                        refine x_sld C Z B dL_law_436 ex77 ?_
                        obtain ⟨r78, er78, h⟩ := ob h
                        refine x_callVr C Z mv_X8_put lk_L_50 (rv_h er78) (ct_X8_put er78) (by decide) rfl rfl (Nat.le_of_ble_eq_true rfl) dL_law_437 ?_
                        refine x_aload_n C (i := 2) dL_law_440 rfl rfl ?_
                        refine x_aload_n C (i := 0) dL_law_441 rfl rfl ?_
                        refine x_iload_n C (i := 3) dL_law_442 rfl rfl ?_
                        refine x_iconst C (v := 1) dL_law_443 (by decide) ?_
                        refine x_iadd C dL_law_444 ?_
                        obtain ⟨x79, ex79, h⟩ := ob h
                        refine x_sld C Z B dL_law_445 ex79 ?_
                        refine x_aload_n C (i := 0) dL_law_446 rfl rfl ?_
                        refine x_iload_n C (i := 3) dL_law_447 rfl rfl ?_
                        refine x_iconst C (v := 2) dL_law_448 (by decide) ?_
                        refine x_iadd C dL_law_449 ?_
                        obtain ⟨x80, ex80, h⟩ := ob h
                        refine x_sld C Z B dL_law_450 ex80 ?_
                        obtain ⟨r81, er81, h⟩ := ob h
                        refine x_callVr C Z mv_X9_put lk_L_53 (rv_h er81) (ct_X9_put er81) (by decide) rfl rfl (Nat.le_of_ble_eq_true rfl) dL_law_451 ?_
                        refine x_icmp_eq C (tgt := 1127) dL_law_454 (by decide) (fun c82 => ?_) (fun c82 => ?_)
                        · have h := ifP h c82
                          refine x_iinc C (i := 3) (y := v3 + 6) (lo' := [some (.ref 1000003), some (.ref v1), some (.ref v2), some (.int (v3 + 6))]) dL_law_1127 rfl rfl (by decide) rfl rfl ?_
                          refine x_goto C (tgt := 18) dL_law_1130 (by decide) ?_
                          refine x_wk [true, true, true, true] (lo' := [some (.ref 1000003), some (.ref v1), some (.ref v2), some (.int (v3 + 6))]) rfl ?_
                          exact ih _ _ _ _ _ (v3 + 6) h Z G
                        · have h := ifN h c82
                          refine x_iconst C (v := 0) dL_law_457 (by decide) ?_
                          cases h
                      · have h := ifN h c75
                        by_cases c83 : (x12 &&& 31) = 9
                        · have h := ifP h c83
                          refine x_tableIn C (off := 426) (tgt := 459) dL_law_33 (by rw [c83]; decide) (by rw [c83]; decide) (by rw [c83]; rfl) (by decide) ?_
                          refine x_aload_n C (i := 1) dL_law_459 rfl rfl ?_
                          refine x_aload_n C (i := 0) dL_law_460 rfl rfl ?_
                          refine x_iload_n C (i := 3) dL_law_461 rfl rfl ?_
                          refine x_iconst C (v := 1) dL_law_462 (by decide) ?_
                          refine x_iadd C dL_law_463 ?_
                          obtain ⟨x84, ex84, h⟩ := ob h
                          refine x_sld C Z B dL_law_464 ex84 ?_
                          obtain ⟨r85, er85, h⟩ := ob h
                          refine x_callVr C Z mv_X8_high lk_L_54 (rv_h er85) (ct_X8_high er85) (by decide) rfl rfl (Nat.le_of_ble_eq_true rfl) dL_law_465 ?_
                          refine x_aload_n C (i := 2) dL_law_468 rfl rfl ?_
                          refine x_aload_n C (i := 0) dL_law_469 rfl rfl ?_
                          refine x_iload_n C (i := 3) dL_law_470 rfl rfl ?_
                          refine x_iconst C (v := 1) dL_law_471 (by decide) ?_
                          refine x_iadd C dL_law_472 ?_
                          obtain ⟨x86, ex86, h⟩ := ob h
                          refine x_sld C Z B dL_law_473 ex86 ?_
                          obtain ⟨r87, er87, h⟩ := ob h
                          refine x_callVr C Z mv_X9_high lk_L_57 (rv_h er87) (ct_X9_high er87) (by decide) rfl rfl (Nat.le_of_ble_eq_true rfl) dL_law_474 ?_
                          refine x_icmp_eq C (tgt := 1127) dL_law_477 (by decide) (fun c88 => ?_) (fun c88 => ?_)
                          · have h := ifP h c88
                            refine x_iinc C (i := 3) (y := v3 + 6) (lo' := [some (.ref 1000003), some (.ref v1), some (.ref v2), some (.int (v3 + 6))]) dL_law_1127 rfl rfl (by decide) rfl rfl ?_
                            refine x_goto C (tgt := 18) dL_law_1130 (by decide) ?_
                            refine x_wk [true, true, true, true] (lo' := [some (.ref 1000003), some (.ref v1), some (.ref v2), some (.int (v3 + 6))]) rfl ?_
                            exact ih _ _ _ _ _ (v3 + 6) h Z G
                          · have h := ifN h c88
                            refine x_iconst C (v := 0) dL_law_480 (by decide) ?_
                            cases h
                        · have h := ifN h c83
                          by_cases c89 : (x12 &&& 31) = 10
                          · have h := ifP h c89
                            refine x_tableIn C (off := 449) (tgt := 482) dL_law_33 (by rw [c89]; decide) (by rw [c89]; decide) (by rw [c89]; rfl) (by decide) ?_
                            refine x_aload_n C (i := 1) dL_law_482 rfl rfl ?_
                            obtain ⟨r90, er90, h⟩ := ob h
                            refine x_callVr C Z mv_X8_undo lk_L_58 (rv_h er90) (ct_X8_undo er90) (by decide) rfl rfl (Nat.le_of_ble_eq_true rfl) dL_law_483 ?_
                            refine x_aload_n C (i := 2) dL_law_486 rfl rfl ?_
                            obtain ⟨r91, er91, h⟩ := ob h
                            refine x_callVr C Z mv_X9_undo lk_L_61 (rv_h er91) (ct_X9_undo er91) (by decide) rfl rfl (Nat.le_of_ble_eq_true rfl) dL_law_487 ?_
                            refine x_icmp_eq C (tgt := 1127) dL_law_490 (by decide) (fun c92 => ?_) (fun c92 => ?_)
                            · have h := ifP h c92
                              refine x_iinc C (i := 3) (y := v3 + 6) (lo' := [some (.ref 1000003), some (.ref v1), some (.ref v2), some (.int (v3 + 6))]) dL_law_1127 rfl rfl (by decide) rfl rfl ?_
                              refine x_goto C (tgt := 18) dL_law_1130 (by decide) ?_
                              refine x_wk [true, true, true, true] (lo' := [some (.ref 1000003), some (.ref v1), some (.ref v2), some (.int (v3 + 6))]) rfl ?_
                              exact ih _ _ _ _ _ (v3 + 6) h Z G
                            · have h := ifN h c92
                              refine x_iconst C (v := 0) dL_law_493 (by decide) ?_
                              cases h
                          · have h := ifN h c89
                            by_cases c93 : (x12 &&& 31) = 11
                            · have h := ifP h c93
                              refine x_tableIn C (off := 462) (tgt := 495) dL_law_33 (by rw [c93]; decide) (by rw [c93]; decide) (by rw [c93]; rfl) (by decide) ?_
                              refine x_aload_n C (i := 1) dL_law_495 rfl rfl ?_
                              refine x_aload_n C (i := 0) dL_law_496 rfl rfl ?_
                              refine x_iload_n C (i := 3) dL_law_497 rfl rfl ?_
                              refine x_iconst C (v := 1) dL_law_498 (by decide) ?_
                              refine x_iadd C dL_law_499 ?_
                              obtain ⟨x94, ex94, h⟩ := ob h
                              refine x_sld C Z B dL_law_500 ex94 ?_
                              refine x_aload_n C (i := 0) dL_law_501 rfl rfl ?_
                              refine x_iload_n C (i := 3) dL_law_502 rfl rfl ?_
                              refine x_iconst C (v := 2) dL_law_503 (by decide) ?_
                              refine x_iadd C dL_law_504 ?_
                              obtain ⟨x95, ex95, h⟩ := ob h
                              refine x_sld C Z B dL_law_505 ex95 ?_
                              obtain ⟨r96, er96, h⟩ := ob h
                              refine x_callVr C Z mv_X8_disc lk_L_62 (rv_h er96) (ct_X8_disc er96) (by decide) rfl rfl (Nat.le_of_ble_eq_true rfl) dL_law_506 ?_
                              refine x_aload_n C (i := 2) dL_law_509 rfl rfl ?_
                              refine x_aload_n C (i := 0) dL_law_510 rfl rfl ?_
                              refine x_iload_n C (i := 3) dL_law_511 rfl rfl ?_
                              refine x_iconst C (v := 1) dL_law_512 (by decide) ?_
                              refine x_iadd C dL_law_513 ?_
                              obtain ⟨x97, ex97, h⟩ := ob h
                              refine x_sld C Z B dL_law_514 ex97 ?_
                              refine x_aload_n C (i := 0) dL_law_515 rfl rfl ?_
                              refine x_iload_n C (i := 3) dL_law_516 rfl rfl ?_
                              refine x_iconst C (v := 2) dL_law_517 (by decide) ?_
                              refine x_iadd C dL_law_518 ?_
                              obtain ⟨x98, ex98, h⟩ := ob h
                              refine x_sld C Z B dL_law_519 ex98 ?_
                              obtain ⟨r99, er99, h⟩ := ob h
                              refine x_callVr C Z mv_X9_disc lk_L_65 (rv_h er99) (ct_X9_disc er99) (by decide) rfl rfl (Nat.le_of_ble_eq_true rfl) dL_law_520 ?_
                              refine x_icmp_eq C (tgt := 1127) dL_law_523 (by decide) (fun c100 => ?_) (fun c100 => ?_)
                              · have h := ifP h c100
                                refine x_iinc C (i := 3) (y := v3 + 6) (lo' := [some (.ref 1000003), some (.ref v1), some (.ref v2), some (.int (v3 + 6))]) dL_law_1127 rfl rfl (by decide) rfl rfl ?_
                                refine x_goto C (tgt := 18) dL_law_1130 (by decide) ?_
                                refine x_wk [true, true, true, true] (lo' := [some (.ref 1000003), some (.ref v1), some (.ref v2), some (.int (v3 + 6))]) rfl ?_
                                exact ih _ _ _ _ _ (v3 + 6) h Z G
                              · have h := ifN h c100
                                refine x_iconst C (v := 0) dL_law_526 (by decide) ?_
                                cases h
                            · have h := ifN h c93
                              by_cases c101 : (x12 &&& 31) = 12
                              · have h := ifP h c101
                                refine x_tableIn C (off := 495) (tgt := 528) dL_law_33 (by rw [c101]; decide) (by rw [c101]; decide) (by rw [c101]; rfl) (by decide) ?_
                                refine x_aload_n C (i := 1) dL_law_528 rfl rfl ?_
                                refine x_aload_n C (i := 0) dL_law_529 rfl rfl ?_
                                refine x_iload_n C (i := 3) dL_law_530 rfl rfl ?_
                                refine x_iconst C (v := 1) dL_law_531 (by decide) ?_
                                refine x_iadd C dL_law_532 ?_
                                obtain ⟨x102, ex102, h⟩ := ob h
                                refine x_sld C Z B dL_law_533 ex102 ?_
                                refine x_aload_n C (i := 0) dL_law_534 rfl rfl ?_
                                refine x_iload_n C (i := 3) dL_law_535 rfl rfl ?_
                                refine x_iconst C (v := 2) dL_law_536 (by decide) ?_
                                refine x_iadd C dL_law_537 ?_
                                obtain ⟨x103, ex103, h⟩ := ob h
                                refine x_sld C Z B dL_law_538 ex103 ?_
                                obtain ⟨r104, er104, h⟩ := ob h
                                refine x_callVr C Z mv_X8_peg lk_L_66 (rv_h er104) (ct_X8_peg er104) (by decide) rfl rfl (Nat.le_of_ble_eq_true rfl) dL_law_539 ?_
                                refine x_aload_n C (i := 2) dL_law_542 rfl rfl ?_
                                refine x_aload_n C (i := 0) dL_law_543 rfl rfl ?_
                                refine x_iload_n C (i := 3) dL_law_544 rfl rfl ?_
                                refine x_iconst C (v := 1) dL_law_545 (by decide) ?_
                                refine x_iadd C dL_law_546 ?_
                                obtain ⟨x105, ex105, h⟩ := ob h
                                refine x_sld C Z B dL_law_547 ex105 ?_
                                refine x_aload_n C (i := 0) dL_law_548 rfl rfl ?_
                                refine x_iload_n C (i := 3) dL_law_549 rfl rfl ?_
                                refine x_iconst C (v := 2) dL_law_550 (by decide) ?_
                                refine x_iadd C dL_law_551 ?_
                                obtain ⟨x106, ex106, h⟩ := ob h
                                refine x_sld C Z B dL_law_552 ex106 ?_
                                obtain ⟨r107, er107, h⟩ := ob h
                                refine x_callVr C Z mv_X9_peg lk_L_69 (rv_h er107) (ct_X9_peg er107) (by decide) rfl rfl (Nat.le_of_ble_eq_true rfl) dL_law_553 ?_
                                refine x_icmp_eq C (tgt := 1127) dL_law_556 (by decide) (fun c108 => ?_) (fun c108 => ?_)
                                · have h := ifP h c108
                                  refine x_iinc C (i := 3) (y := v3 + 6) (lo' := [some (.ref 1000003), some (.ref v1), some (.ref v2), some (.int (v3 + 6))]) dL_law_1127 rfl rfl (by decide) rfl rfl ?_
                                  refine x_goto C (tgt := 18) dL_law_1130 (by decide) ?_
                                  refine x_wk [true, true, true, true] (lo' := [some (.ref 1000003), some (.ref v1), some (.ref v2), some (.int (v3 + 6))]) rfl ?_
                                  exact ih _ _ _ _ _ (v3 + 6) h Z G
                                · have h := ifN h c108
                                  refine x_iconst C (v := 0) dL_law_559 (by decide) ?_
                                  cases h
                              · have h := ifN h c101
                                by_cases c109 : (x12 &&& 31) = 13
                                · have h := ifP h c109
                                  refine x_tableIn C (off := 528) (tgt := 561) dL_law_33 (by rw [c109]; decide) (by rw [c109]; decide) (by rw [c109]; rfl) (by decide) ?_
                                  refine x_aload_n C (i := 1) dL_law_561 rfl rfl ?_
                                  obtain ⟨r110, er110, h⟩ := ob h
                                  refine x_callVr C Z mv_X8_can lk_L_70 (rv_h er110) (ct_X8_can er110) (by decide) rfl rfl (Nat.le_of_ble_eq_true rfl) dL_law_562 ?_
                                  refine x_aload_n C (i := 2) dL_law_565 rfl rfl ?_
                                  obtain ⟨r111, er111, h⟩ := ob h
                                  refine x_callVr C Z mv_X9_can lk_L_73 (rv_h er111) (ct_X9_can er111) (by decide) rfl rfl (Nat.le_of_ble_eq_true rfl) dL_law_566 ?_
                                  refine x_icmp_eq C (tgt := 1127) dL_law_569 (by decide) (fun c112 => ?_) (fun c112 => ?_)
                                  · have h := ifP h c112
                                    refine x_iinc C (i := 3) (y := v3 + 6) (lo' := [some (.ref 1000003), some (.ref v1), some (.ref v2), some (.int (v3 + 6))]) dL_law_1127 rfl rfl (by decide) rfl rfl ?_
                                    refine x_goto C (tgt := 18) dL_law_1130 (by decide) ?_
                                    refine x_wk [true, true, true, true] (lo' := [some (.ref 1000003), some (.ref v1), some (.ref v2), some (.int (v3 + 6))]) rfl ?_
                                    exact ih _ _ _ _ _ (v3 + 6) h Z G
                                  · have h := ifN h c112
                                    refine x_iconst C (v := 0) dL_law_572 (by decide) ?_
                                    cases h
                                · have h := ifN h c109
                                  by_cases c113 : (x12 &&& 31) = 14
                                  · have h := ifP h c113
                                    refine x_tableIn C (off := 541) (tgt := 574) dL_law_33 (by rw [c113]; decide) (by rw [c113]; decide) (by rw [c113]; rfl) (by decide) ?_
                                    refine x_aload_n C (i := 1) dL_law_574 rfl rfl ?_
                                    refine x_aload_n C (i := 0) dL_law_575 rfl rfl ?_
                                    refine x_iload_n C (i := 3) dL_law_576 rfl rfl ?_
                                    refine x_iconst C (v := 1) dL_law_577 (by decide) ?_
                                    refine x_iadd C dL_law_578 ?_
                                    obtain ⟨x114, ex114, h⟩ := ob h
                                    refine x_sld C Z B dL_law_579 ex114 ?_
                                    refine x_aload_n C (i := 0) dL_law_580 rfl rfl ?_
                                    refine x_iload_n C (i := 3) dL_law_581 rfl rfl ?_
                                    refine x_iconst C (v := 2) dL_law_582 (by decide) ?_
                                    refine x_iadd C dL_law_583 ?_
                                    obtain ⟨x115, ex115, h⟩ := ob h
                                    refine x_sld C Z B dL_law_584 ex115 ?_
                                    refine x_aload_n C (i := 0) dL_law_585 rfl rfl ?_
                                    refine x_iload_n C (i := 3) dL_law_586 rfl rfl ?_
                                    refine x_iconst C (v := 3) dL_law_587 (by decide) ?_
                                    refine x_iadd C dL_law_588 ?_
                                    obtain ⟨x116, ex116, h⟩ := ob h
                                    refine x_sld C Z B dL_law_589 ex116 ?_
                                    obtain ⟨u118, eu118, h⟩ := ob h
                                    obtain ⟨r117, er117, h⟩ := ob h
                                    obtain ⟨u119, eu119, h⟩ := ob h
                                    refine g_callVr C Z G hRc hRs mv_X8_least lk_L_74 (rv_h er117) (ct_X8_least er117) (by decide) rfl rfl (Nat.le_of_ble_eq_true rfl) eu118 rfl eu119 dL_law_590 (fun ad Z G => ?_)
                                    refine x_aload_n C (i := 2) dL_law_593 rfl rfl ?_
                                    refine x_aload_n C (i := 0) dL_law_594 rfl rfl ?_
                                    refine x_iload_n C (i := 3) dL_law_595 rfl rfl ?_
                                    refine x_iconst C (v := 1) dL_law_596 (by decide) ?_
                                    refine x_iadd C dL_law_597 ?_
                                    obtain ⟨x120, ex120, h⟩ := ob h
                                    refine x_sld C Z B dL_law_598 ex120 ?_
                                    refine x_aload_n C (i := 0) dL_law_599 rfl rfl ?_
                                    refine x_iload_n C (i := 3) dL_law_600 rfl rfl ?_
                                    refine x_iconst C (v := 2) dL_law_601 (by decide) ?_
                                    refine x_iadd C dL_law_602 ?_
                                    obtain ⟨x121, ex121, h⟩ := ob h
                                    refine x_sld C Z B dL_law_603 ex121 ?_
                                    refine x_aload_n C (i := 0) dL_law_604 rfl rfl ?_
                                    refine x_iload_n C (i := 3) dL_law_605 rfl rfl ?_
                                    refine x_iconst C (v := 3) dL_law_606 (by decide) ?_
                                    refine x_iadd C dL_law_607 ?_
                                    obtain ⟨x122, ex122, h⟩ := ob h
                                    refine x_sld C Z B dL_law_608 ex122 ?_
                                    obtain ⟨r123, er123, h⟩ := ob h
                                    refine x_callVr C Z mv_X9_least lk_L_77 (rv_h er123) (ct_X9_least er123) (by decide) rfl rfl (Nat.le_of_ble_eq_true rfl) dL_law_609 ?_
                                    refine x_icmp_eq C (tgt := 1127) dL_law_612 (by decide) (fun c124 => ?_) (fun c124 => ?_)
                                    · have h := ifP h c124
                                      refine x_iinc C (i := 3) (y := v3 + 6) (lo' := [some (.ref 1000003), some (.ref v1), some (.ref v2), some (.int (v3 + 6))]) dL_law_1127 rfl rfl (by decide) rfl rfl ?_
                                      refine x_goto C (tgt := 18) dL_law_1130 (by decide) ?_
                                      refine x_wk [true, true, true, true] (lo' := [some (.ref 1000003), some (.ref v1), some (.ref v2), some (.int (v3 + 6))]) rfl ?_
                                      exact ih _ _ _ _ _ (v3 + 6) h Z G
                                    · have h := ifN h c124
                                      refine x_iconst C (v := 0) dL_law_615 (by decide) ?_
                                      cases h
                                  · have h := ifN h c113
                                    by_cases c125 : (x12 &&& 31) = 15
                                    · have h := ifP h c125
                                      refine x_tableIn C (off := 584) (tgt := 617) dL_law_33 (by rw [c125]; decide) (by rw [c125]; decide) (by rw [c125]; rfl) (by decide) ?_
                                      refine x_aload_n C (i := 1) dL_law_617 rfl rfl ?_
                                      refine x_aload_n C (i := 0) dL_law_618 rfl rfl ?_
                                      refine x_iload_n C (i := 3) dL_law_619 rfl rfl ?_
                                      refine x_iconst C (v := 1) dL_law_620 (by decide) ?_
                                      refine x_iadd C dL_law_621 ?_
                                      obtain ⟨x126, ex126, h⟩ := ob h
                                      refine x_sld C Z B dL_law_622 ex126 ?_
                                      refine x_aload_n C (i := 0) dL_law_623 rfl rfl ?_
                                      refine x_iload_n C (i := 3) dL_law_624 rfl rfl ?_
                                      refine x_iconst C (v := 2) dL_law_625 (by decide) ?_
                                      refine x_iadd C dL_law_626 ?_
                                      obtain ⟨x127, ex127, h⟩ := ob h
                                      refine x_sld C Z B dL_law_627 ex127 ?_
                                      obtain ⟨u129, eu129, h⟩ := ob h
                                      obtain ⟨r128, er128, h⟩ := ob h
                                      obtain ⟨u130, eu130, h⟩ := ob h
                                      refine g_callVr C Z G hRc hRs mv_X8_tower lk_L_78 (rv_h er128) (ct_X8_tower er128) (by decide) rfl rfl (Nat.le_of_ble_eq_true rfl) eu129 rfl eu130 dL_law_628 (fun ad Z G => ?_)
                                      refine x_aload_n C (i := 2) dL_law_631 rfl rfl ?_
                                      refine x_aload_n C (i := 0) dL_law_632 rfl rfl ?_
                                      refine x_iload_n C (i := 3) dL_law_633 rfl rfl ?_
                                      refine x_iconst C (v := 1) dL_law_634 (by decide) ?_
                                      refine x_iadd C dL_law_635 ?_
                                      obtain ⟨x131, ex131, h⟩ := ob h
                                      refine x_sld C Z B dL_law_636 ex131 ?_
                                      refine x_aload_n C (i := 0) dL_law_637 rfl rfl ?_
                                      refine x_iload_n C (i := 3) dL_law_638 rfl rfl ?_
                                      refine x_iconst C (v := 2) dL_law_639 (by decide) ?_
                                      refine x_iadd C dL_law_640 ?_
                                      obtain ⟨x132, ex132, h⟩ := ob h
                                      refine x_sld C Z B dL_law_641 ex132 ?_
                                      obtain ⟨r133, er133, h⟩ := ob h
                                      refine x_callVr C Z mv_X9_tower lk_L_81 (rv_h er133) (ct_X9_tower er133) (by decide) rfl rfl (Nat.le_of_ble_eq_true rfl) dL_law_642 ?_
                                      refine x_icmp_eq C (tgt := 1127) dL_law_645 (by decide) (fun c134 => ?_) (fun c134 => ?_)
                                      · have h := ifP h c134
                                        refine x_iinc C (i := 3) (y := v3 + 6) (lo' := [some (.ref 1000003), some (.ref v1), some (.ref v2), some (.int (v3 + 6))]) dL_law_1127 rfl rfl (by decide) rfl rfl ?_
                                        refine x_goto C (tgt := 18) dL_law_1130 (by decide) ?_
                                        refine x_wk [true, true, true, true] (lo' := [some (.ref 1000003), some (.ref v1), some (.ref v2), some (.int (v3 + 6))]) rfl ?_
                                        exact ih _ _ _ _ _ (v3 + 6) h Z G
                                      · have h := ifN h c134
                                        refine x_iconst C (v := 0) dL_law_648 (by decide) ?_
                                        cases h
                                    · have h := ifN h c125
                                      by_cases c135 : (x12 &&& 31) = 16
                                      · have h := ifP h c135
                                        refine x_tableIn C (off := 617) (tgt := 650) dL_law_33 (by rw [c135]; decide) (by rw [c135]; decide) (by rw [c135]; rfl) (by decide) ?_
                                        refine x_aload_n C (i := 1) dL_law_650 rfl rfl ?_
                                        refine x_aload_n C (i := 0) dL_law_651 rfl rfl ?_
                                        refine x_iload_n C (i := 3) dL_law_652 rfl rfl ?_
                                        refine x_iconst C (v := 1) dL_law_653 (by decide) ?_
                                        refine x_iadd C dL_law_654 ?_
                                        obtain ⟨x136, ex136, h⟩ := ob h
                                        refine x_sld C Z B dL_law_655 ex136 ?_
                                        obtain ⟨u138, eu138, h⟩ := ob h
                                        obtain ⟨r137, er137, h⟩ := ob h
                                        obtain ⟨u139, eu139, h⟩ := ob h
                                        refine g_callVr C Z G hRc hRs mv_X8_world lk_L_82 (rv_h er137) (ct_X8_world er137) (by decide) rfl rfl (Nat.le_of_ble_eq_true rfl) eu138 rfl eu139 dL_law_656 (fun ad Z G => ?_)
                                        refine x_aload_n C (i := 2) dL_law_659 rfl rfl ?_
                                        refine x_aload_n C (i := 0) dL_law_660 rfl rfl ?_
                                        refine x_iload_n C (i := 3) dL_law_661 rfl rfl ?_
                                        refine x_iconst C (v := 1) dL_law_662 (by decide) ?_
                                        refine x_iadd C dL_law_663 ?_
                                        obtain ⟨x140, ex140, h⟩ := ob h
                                        refine x_sld C Z B dL_law_664 ex140 ?_
                                        obtain ⟨r141, er141, h⟩ := ob h
                                        refine x_callVr C Z mv_X9_world lk_L_85 (rv_h er141) (ct_X9_world er141) (by decide) rfl rfl (Nat.le_of_ble_eq_true rfl) dL_law_665 ?_
                                        refine x_icmp_eq C (tgt := 1127) dL_law_668 (by decide) (fun c142 => ?_) (fun c142 => ?_)
                                        · have h := ifP h c142
                                          refine x_iinc C (i := 3) (y := v3 + 6) (lo' := [some (.ref 1000003), some (.ref v1), some (.ref v2), some (.int (v3 + 6))]) dL_law_1127 rfl rfl (by decide) rfl rfl ?_
                                          refine x_goto C (tgt := 18) dL_law_1130 (by decide) ?_
                                          refine x_wk [true, true, true, true] (lo' := [some (.ref 1000003), some (.ref v1), some (.ref v2), some (.int (v3 + 6))]) rfl ?_
                                          exact ih _ _ _ _ _ (v3 + 6) h Z G
                                        · have h := ifN h c142
                                          refine x_iconst C (v := 0) dL_law_671 (by decide) ?_
                                          cases h
                                      · have h := ifN h c135
                                        by_cases c143 : (x12 &&& 31) = 17
                                        · have h := ifP h c143
                                          refine x_tableIn C (off := 640) (tgt := 673) dL_law_33 (by rw [c143]; decide) (by rw [c143]; decide) (by rw [c143]; rfl) (by decide) ?_
                                          refine x_aload_n C (i := 1) dL_law_673 rfl rfl ?_
                                          obtain ⟨u145, eu145, h⟩ := ob h
                                          obtain ⟨r144, er144, h⟩ := ob h
                                          obtain ⟨u146, eu146, h⟩ := ob h
                                          refine g_callVr C Z G hRc hRs mv_X8_ring lk_L_86 (rv_h er144) (ct_X8_ring er144) (by decide) rfl rfl (Nat.le_of_ble_eq_true rfl) eu145 rfl eu146 dL_law_674 (fun ad Z G => ?_)
                                          refine x_aload_n C (i := 2) dL_law_677 rfl rfl ?_
                                          obtain ⟨r147, er147, h⟩ := ob h
                                          refine x_callVr C Z mv_X9_ring lk_L_89 (rv_h er147) (ct_X9_ring er147) (by decide) rfl rfl (Nat.le_of_ble_eq_true rfl) dL_law_678 ?_
                                          refine x_icmp_eq C (tgt := 1127) dL_law_681 (by decide) (fun c148 => ?_) (fun c148 => ?_)
                                          · have h := ifP h c148
                                            refine x_iinc C (i := 3) (y := v3 + 6) (lo' := [some (.ref 1000003), some (.ref v1), some (.ref v2), some (.int (v3 + 6))]) dL_law_1127 rfl rfl (by decide) rfl rfl ?_
                                            refine x_goto C (tgt := 18) dL_law_1130 (by decide) ?_
                                            refine x_wk [true, true, true, true] (lo' := [some (.ref 1000003), some (.ref v1), some (.ref v2), some (.int (v3 + 6))]) rfl ?_
                                            exact ih _ _ _ _ _ (v3 + 6) h Z G
                                          · have h := ifN h c148
                                            refine x_iconst C (v := 0) dL_law_684 (by decide) ?_
                                            cases h
                                        · have h := ifN h c143
                                          by_cases c149 : (x12 &&& 31) = 18
                                          · have h := ifP h c149
                                            refine x_tableIn C (off := 653) (tgt := 686) dL_law_33 (by rw [c149]; decide) (by rw [c149]; decide) (by rw [c149]; rfl) (by decide) ?_
                                            refine x_aload_n C (i := 1) dL_law_686 rfl rfl ?_
                                            refine x_aload_n C (i := 0) dL_law_687 rfl rfl ?_
                                            refine x_iload_n C (i := 3) dL_law_688 rfl rfl ?_
                                            refine x_iconst C (v := 1) dL_law_689 (by decide) ?_
                                            refine x_iadd C dL_law_690 ?_
                                            obtain ⟨x150, ex150, h⟩ := ob h
                                            refine x_sld C Z B dL_law_691 ex150 ?_
                                            refine x_aload_n C (i := 0) dL_law_692 rfl rfl ?_
                                            refine x_iload_n C (i := 3) dL_law_693 rfl rfl ?_
                                            refine x_iconst C (v := 2) dL_law_694 (by decide) ?_
                                            refine x_iadd C dL_law_695 ?_
                                            obtain ⟨x151, ex151, h⟩ := ob h
                                            refine x_sld C Z B dL_law_696 ex151 ?_
                                            refine x_aload_n C (i := 0) dL_law_697 rfl rfl ?_
                                            refine x_iload_n C (i := 3) dL_law_698 rfl rfl ?_
                                            refine x_iconst C (v := 3) dL_law_699 (by decide) ?_
                                            refine x_iadd C dL_law_700 ?_
                                            obtain ⟨x152, ex152, h⟩ := ob h
                                            refine x_sld C Z B dL_law_701 ex152 ?_
                                            obtain ⟨u154, eu154, h⟩ := ob h
                                            obtain ⟨r153, er153, h⟩ := ob h
                                            obtain ⟨u155, eu155, h⟩ := ob h
                                            refine g_callVr C Z G hRc hRs mv_X8_ways lk_L_90 (rv_h er153) (ct_X8_ways er153) (by decide) rfl rfl (Nat.le_of_ble_eq_true rfl) eu154 rfl eu155 dL_law_702 (fun ad Z G => ?_)
                                            refine x_aload_n C (i := 2) dL_law_705 rfl rfl ?_
                                            refine x_aload_n C (i := 0) dL_law_706 rfl rfl ?_
                                            refine x_iload_n C (i := 3) dL_law_707 rfl rfl ?_
                                            refine x_iconst C (v := 1) dL_law_708 (by decide) ?_
                                            refine x_iadd C dL_law_709 ?_
                                            obtain ⟨x156, ex156, h⟩ := ob h
                                            refine x_sld C Z B dL_law_710 ex156 ?_
                                            refine x_aload_n C (i := 0) dL_law_711 rfl rfl ?_
                                            refine x_iload_n C (i := 3) dL_law_712 rfl rfl ?_
                                            refine x_iconst C (v := 2) dL_law_713 (by decide) ?_
                                            refine x_iadd C dL_law_714 ?_
                                            obtain ⟨x157, ex157, h⟩ := ob h
                                            refine x_sld C Z B dL_law_715 ex157 ?_
                                            refine x_aload_n C (i := 0) dL_law_716 rfl rfl ?_
                                            refine x_iload_n C (i := 3) dL_law_717 rfl rfl ?_
                                            refine x_iconst C (v := 3) dL_law_718 (by decide) ?_
                                            refine x_iadd C dL_law_719 ?_
                                            obtain ⟨x158, ex158, h⟩ := ob h
                                            refine x_sld C Z B dL_law_720 ex158 ?_
                                            obtain ⟨r159, er159, h⟩ := ob h
                                            refine x_callVr C Z mv_X9_ways lk_L_94 (rv_h er159) (ct_X9_ways er159) (by decide) rfl rfl (Nat.le_of_ble_eq_true rfl) dL_law_721 ?_
                                            refine x_lcmp C dL_law_724 ?_
                                            refine x_if_eq C (tgt := 1127) dL_law_725 (by decide) (fun c160 => ?_) (fun c160 => ?_)
                                            · have h := ifP h c160
                                              refine x_iinc C (i := 3) (y := v3 + 6) (lo' := [some (.ref 1000003), some (.ref v1), some (.ref v2), some (.int (v3 + 6))]) dL_law_1127 rfl rfl (by decide) rfl rfl ?_
                                              refine x_goto C (tgt := 18) dL_law_1130 (by decide) ?_
                                              refine x_wk [true, true, true, true] (lo' := [some (.ref 1000003), some (.ref v1), some (.ref v2), some (.int (v3 + 6))]) rfl ?_
                                              exact ih _ _ _ _ _ (v3 + 6) h Z G
                                            · have h := ifN h c160
                                              refine x_iconst C (v := 0) dL_law_728 (by decide) ?_
                                              cases h
                                          · have h := ifN h c149
                                            by_cases c161 : (x12 &&& 31) = 19
                                            · have h := ifP h c161
                                              refine x_tableIn C (off := 697) (tgt := 730) dL_law_33 (by rw [c161]; decide) (by rw [c161]; decide) (by rw [c161]; rfl) (by decide) ?_
                                              refine x_aload_n C (i := 1) dL_law_730 rfl rfl ?_
                                              refine x_aload_n C (i := 0) dL_law_731 rfl rfl ?_
                                              refine x_iload_n C (i := 3) dL_law_732 rfl rfl ?_
                                              refine x_iconst C (v := 1) dL_law_733 (by decide) ?_
                                              refine x_iadd C dL_law_734 ?_
                                              obtain ⟨x162, ex162, h⟩ := ob h
                                              refine x_sld C Z B dL_law_735 ex162 ?_
                                              refine x_aload_n C (i := 0) dL_law_736 rfl rfl ?_
                                              refine x_iload_n C (i := 3) dL_law_737 rfl rfl ?_
                                              refine x_iconst C (v := 2) dL_law_738 (by decide) ?_
                                              refine x_iadd C dL_law_739 ?_
                                              obtain ⟨x163, ex163, h⟩ := ob h
                                              refine x_sld C Z B dL_law_740 ex163 ?_
                                              refine x_aload_n C (i := 0) dL_law_741 rfl rfl ?_
                                              refine x_iload_n C (i := 3) dL_law_742 rfl rfl ?_
                                              refine x_iconst C (v := 3) dL_law_743 (by decide) ?_
                                              refine x_iadd C dL_law_744 ?_
                                              obtain ⟨x164, ex164, h⟩ := ob h
                                              refine x_sld C Z B dL_law_745 ex164 ?_
                                              obtain ⟨r165, er165, h⟩ := ob h
                                              refine x_callVr C Z mv_X8_judge lk_L_95 (rv_h er165) (ct_X8_judge er165) (by decide) rfl rfl (Nat.le_of_ble_eq_true rfl) dL_law_746 ?_
                                              refine x_aload_n C (i := 2) dL_law_749 rfl rfl ?_
                                              refine x_aload_n C (i := 0) dL_law_750 rfl rfl ?_
                                              refine x_iload_n C (i := 3) dL_law_751 rfl rfl ?_
                                              refine x_iconst C (v := 1) dL_law_752 (by decide) ?_
                                              refine x_iadd C dL_law_753 ?_
                                              obtain ⟨x166, ex166, h⟩ := ob h
                                              refine x_sld C Z B dL_law_754 ex166 ?_
                                              refine x_aload_n C (i := 0) dL_law_755 rfl rfl ?_
                                              refine x_iload_n C (i := 3) dL_law_756 rfl rfl ?_
                                              refine x_iconst C (v := 2) dL_law_757 (by decide) ?_
                                              refine x_iadd C dL_law_758 ?_
                                              obtain ⟨x167, ex167, h⟩ := ob h
                                              refine x_sld C Z B dL_law_759 ex167 ?_
                                              refine x_aload_n C (i := 0) dL_law_760 rfl rfl ?_
                                              refine x_iload_n C (i := 3) dL_law_761 rfl rfl ?_
                                              refine x_iconst C (v := 3) dL_law_762 (by decide) ?_
                                              refine x_iadd C dL_law_763 ?_
                                              obtain ⟨x168, ex168, h⟩ := ob h
                                              refine x_sld C Z B dL_law_764 ex168 ?_
                                              obtain ⟨r169, er169, h⟩ := ob h
                                              refine x_callVr C Z mv_X9_judge lk_L_98 (rv_h er169) (ct_X9_judge er169) (by decide) rfl rfl (Nat.le_of_ble_eq_true rfl) dL_law_765 ?_
                                              refine x_icmp_eq C (tgt := 1127) dL_law_768 (by decide) (fun c170 => ?_) (fun c170 => ?_)
                                              · have h := ifP h c170
                                                refine x_iinc C (i := 3) (y := v3 + 6) (lo' := [some (.ref 1000003), some (.ref v1), some (.ref v2), some (.int (v3 + 6))]) dL_law_1127 rfl rfl (by decide) rfl rfl ?_
                                                refine x_goto C (tgt := 18) dL_law_1130 (by decide) ?_
                                                refine x_wk [true, true, true, true] (lo' := [some (.ref 1000003), some (.ref v1), some (.ref v2), some (.int (v3 + 6))]) rfl ?_
                                                exact ih _ _ _ _ _ (v3 + 6) h Z G
                                              · have h := ifN h c170
                                                refine x_iconst C (v := 0) dL_law_771 (by decide) ?_
                                                cases h
                                            · have h := ifN h c161
                                              by_cases c171 : (x12 &&& 31) = 20
                                              · have h := ifP h c171
                                                refine x_tableIn C (off := 740) (tgt := 773) dL_law_33 (by rw [c171]; decide) (by rw [c171]; decide) (by rw [c171]; rfl) (by decide) ?_
                                                refine x_aload_n C (i := 1) dL_law_773 rfl rfl ?_
                                                refine x_aload_n C (i := 0) dL_law_774 rfl rfl ?_
                                                refine x_iload_n C (i := 3) dL_law_775 rfl rfl ?_
                                                refine x_iconst C (v := 1) dL_law_776 (by decide) ?_
                                                refine x_iadd C dL_law_777 ?_
                                                obtain ⟨x172, ex172, h⟩ := ob h
                                                refine x_sld C Z B dL_law_778 ex172 ?_
                                                refine x_aload_n C (i := 0) dL_law_779 rfl rfl ?_
                                                refine x_iload_n C (i := 3) dL_law_780 rfl rfl ?_
                                                refine x_iconst C (v := 2) dL_law_781 (by decide) ?_
                                                refine x_iadd C dL_law_782 ?_
                                                obtain ⟨x173, ex173, h⟩ := ob h
                                                refine x_sld C Z B dL_law_783 ex173 ?_
                                                refine x_aload_n C (i := 0) dL_law_784 rfl rfl ?_
                                                refine x_iload_n C (i := 3) dL_law_785 rfl rfl ?_
                                                refine x_iconst C (v := 3) dL_law_786 (by decide) ?_
                                                refine x_iadd C dL_law_787 ?_
                                                obtain ⟨x174, ex174, h⟩ := ob h
                                                refine x_sld C Z B dL_law_788 ex174 ?_
                                                refine x_aload_n C (i := 0) dL_law_789 rfl rfl ?_
                                                refine x_iload_n C (i := 3) dL_law_790 rfl rfl ?_
                                                refine x_iconst C (v := 4) dL_law_791 (by decide) ?_
                                                refine x_iadd C dL_law_792 ?_
                                                obtain ⟨x175, ex175, h⟩ := ob h
                                                refine x_sld C Z B dL_law_793 ex175 ?_
                                                refine x_aload_n C (i := 0) dL_law_794 rfl rfl ?_
                                                refine x_iload_n C (i := 3) dL_law_795 rfl rfl ?_
                                                refine x_iconst C (v := 5) dL_law_796 (by decide) ?_
                                                refine x_iadd C dL_law_797 ?_
                                                obtain ⟨x176, ex176, h⟩ := ob h
                                                refine x_sld C Z B dL_law_798 ex176 ?_
                                                obtain ⟨r177, er177, h⟩ := ob h
                                                refine x_callVr C Z mv_X8_fits lk_L_99 (rv_h er177) (ct_X8_fits er177) (by decide) rfl rfl (Nat.le_of_ble_eq_true rfl) dL_law_799 ?_
                                                refine x_aload_n C (i := 2) dL_law_802 rfl rfl ?_
                                                refine x_aload_n C (i := 0) dL_law_803 rfl rfl ?_
                                                refine x_iload_n C (i := 3) dL_law_804 rfl rfl ?_
                                                refine x_iconst C (v := 1) dL_law_805 (by decide) ?_
                                                refine x_iadd C dL_law_806 ?_
                                                obtain ⟨x178, ex178, h⟩ := ob h
                                                refine x_sld C Z B dL_law_807 ex178 ?_
                                                refine x_aload_n C (i := 0) dL_law_808 rfl rfl ?_
                                                refine x_iload_n C (i := 3) dL_law_809 rfl rfl ?_
                                                refine x_iconst C (v := 2) dL_law_810 (by decide) ?_
                                                refine x_iadd C dL_law_811 ?_
                                                obtain ⟨x179, ex179, h⟩ := ob h
                                                refine x_sld C Z B dL_law_812 ex179 ?_
                                                refine x_aload_n C (i := 0) dL_law_813 rfl rfl ?_
                                                refine x_iload_n C (i := 3) dL_law_814 rfl rfl ?_
                                                refine x_iconst C (v := 3) dL_law_815 (by decide) ?_
                                                refine x_iadd C dL_law_816 ?_
                                                obtain ⟨x180, ex180, h⟩ := ob h
                                                refine x_sld C Z B dL_law_817 ex180 ?_
                                                refine x_aload_n C (i := 0) dL_law_818 rfl rfl ?_
                                                refine x_iload_n C (i := 3) dL_law_819 rfl rfl ?_
                                                refine x_iconst C (v := 4) dL_law_820 (by decide) ?_
                                                refine x_iadd C dL_law_821 ?_
                                                obtain ⟨x181, ex181, h⟩ := ob h
                                                refine x_sld C Z B dL_law_822 ex181 ?_
                                                refine x_aload_n C (i := 0) dL_law_823 rfl rfl ?_
                                                refine x_iload_n C (i := 3) dL_law_824 rfl rfl ?_
                                                refine x_iconst C (v := 5) dL_law_825 (by decide) ?_
                                                refine x_iadd C dL_law_826 ?_
                                                obtain ⟨x182, ex182, h⟩ := ob h
                                                refine x_sld C Z B dL_law_827 ex182 ?_
                                                obtain ⟨r183, er183, h⟩ := ob h
                                                refine x_callVr C Z mv_X9_fits lk_L_102 (rv_h er183) (ct_X9_fits er183) (by decide) rfl rfl (Nat.le_of_ble_eq_true rfl) dL_law_828 ?_
                                                refine x_icmp_eq C (tgt := 1127) dL_law_831 (by decide) (fun c184 => ?_) (fun c184 => ?_)
                                                · have h := ifP h c184
                                                  refine x_iinc C (i := 3) (y := v3 + 6) (lo' := [some (.ref 1000003), some (.ref v1), some (.ref v2), some (.int (v3 + 6))]) dL_law_1127 rfl rfl (by decide) rfl rfl ?_
                                                  refine x_goto C (tgt := 18) dL_law_1130 (by decide) ?_
                                                  refine x_wk [true, true, true, true] (lo' := [some (.ref 1000003), some (.ref v1), some (.ref v2), some (.int (v3 + 6))]) rfl ?_
                                                  exact ih _ _ _ _ _ (v3 + 6) h Z G
                                                · have h := ifN h c184
                                                  refine x_iconst C (v := 0) dL_law_834 (by decide) ?_
                                                  cases h
                                              · have h := ifN h c171
                                                by_cases c185 : (x12 &&& 31) = 21
                                                · have h := ifP h c185
                                                  refine x_tableIn C (off := 803) (tgt := 836) dL_law_33 (by rw [c185]; decide) (by rw [c185]; decide) (by rw [c185]; rfl) (by decide) ?_
                                                  refine x_aload_n C (i := 1) dL_law_836 rfl rfl ?_
                                                  refine x_aload_n C (i := 0) dL_law_837 rfl rfl ?_
                                                  refine x_iload_n C (i := 3) dL_law_838 rfl rfl ?_
                                                  refine x_iconst C (v := 1) dL_law_839 (by decide) ?_
                                                  refine x_iadd C dL_law_840 ?_
                                                  obtain ⟨x186, ex186, h⟩ := ob h
                                                  refine x_sld C Z B dL_law_841 ex186 ?_
                                                  refine x_aload_n C (i := 0) dL_law_842 rfl rfl ?_
                                                  refine x_iload_n C (i := 3) dL_law_843 rfl rfl ?_
                                                  refine x_iconst C (v := 2) dL_law_844 (by decide) ?_
                                                  refine x_iadd C dL_law_845 ?_
                                                  obtain ⟨x187, ex187, h⟩ := ob h
                                                  refine x_sld C Z B dL_law_846 ex187 ?_
                                                  refine x_aload_n C (i := 0) dL_law_847 rfl rfl ?_
                                                  refine x_iload_n C (i := 3) dL_law_848 rfl rfl ?_
                                                  refine x_iconst C (v := 3) dL_law_849 (by decide) ?_
                                                  refine x_iadd C dL_law_850 ?_
                                                  obtain ⟨x188, ex188, h⟩ := ob h
                                                  refine x_sld C Z B dL_law_851 ex188 ?_
                                                  refine x_aload_n C (i := 0) dL_law_852 rfl rfl ?_
                                                  refine x_iload_n C (i := 3) dL_law_853 rfl rfl ?_
                                                  refine x_iconst C (v := 4) dL_law_854 (by decide) ?_
                                                  refine x_iadd C dL_law_855 ?_
                                                  obtain ⟨x189, ex189, h⟩ := ob h
                                                  refine x_sld C Z B dL_law_856 ex189 ?_
                                                  obtain ⟨u191, eu191, h⟩ := ob h
                                                  obtain ⟨r190, er190, h⟩ := ob h
                                                  obtain ⟨u192, eu192, h⟩ := ob h
                                                  refine g_callVr C Z G hRc hRs mv_X8_chance lk_L_103 (rv_h er190) (ct_X8_chance er190) (by decide) rfl rfl (Nat.le_of_ble_eq_true rfl) eu191 rfl eu192 dL_law_857 (fun ad Z G => ?_)
                                                  refine x_aload_n C (i := 2) dL_law_860 rfl rfl ?_
                                                  refine x_aload_n C (i := 0) dL_law_861 rfl rfl ?_
                                                  refine x_iload_n C (i := 3) dL_law_862 rfl rfl ?_
                                                  refine x_iconst C (v := 1) dL_law_863 (by decide) ?_
                                                  refine x_iadd C dL_law_864 ?_
                                                  obtain ⟨x193, ex193, h⟩ := ob h
                                                  refine x_sld C Z B dL_law_865 ex193 ?_
                                                  refine x_aload_n C (i := 0) dL_law_866 rfl rfl ?_
                                                  refine x_iload_n C (i := 3) dL_law_867 rfl rfl ?_
                                                  refine x_iconst C (v := 2) dL_law_868 (by decide) ?_
                                                  refine x_iadd C dL_law_869 ?_
                                                  obtain ⟨x194, ex194, h⟩ := ob h
                                                  refine x_sld C Z B dL_law_870 ex194 ?_
                                                  refine x_aload_n C (i := 0) dL_law_871 rfl rfl ?_
                                                  refine x_iload_n C (i := 3) dL_law_872 rfl rfl ?_
                                                  refine x_iconst C (v := 3) dL_law_873 (by decide) ?_
                                                  refine x_iadd C dL_law_874 ?_
                                                  obtain ⟨x195, ex195, h⟩ := ob h
                                                  refine x_sld C Z B dL_law_875 ex195 ?_
                                                  refine x_aload_n C (i := 0) dL_law_876 rfl rfl ?_
                                                  refine x_iload_n C (i := 3) dL_law_877 rfl rfl ?_
                                                  refine x_iconst C (v := 4) dL_law_878 (by decide) ?_
                                                  refine x_iadd C dL_law_879 ?_
                                                  obtain ⟨x196, ex196, h⟩ := ob h
                                                  refine x_sld C Z B dL_law_880 ex196 ?_
                                                  obtain ⟨r197, er197, h⟩ := ob h
                                                  refine x_callVr C Z mv_X9_chance lk_L_107 (rv_h er197) (ct_X9_chance er197) (by decide) rfl rfl (Nat.le_of_ble_eq_true rfl) dL_law_881 ?_
                                                  refine x_lcmp C dL_law_884 ?_
                                                  refine x_if_eq C (tgt := 1127) dL_law_885 (by decide) (fun c198 => ?_) (fun c198 => ?_)
                                                  · have h := ifP h c198
                                                    refine x_iinc C (i := 3) (y := v3 + 6) (lo' := [some (.ref 1000003), some (.ref v1), some (.ref v2), some (.int (v3 + 6))]) dL_law_1127 rfl rfl (by decide) rfl rfl ?_
                                                    refine x_goto C (tgt := 18) dL_law_1130 (by decide) ?_
                                                    refine x_wk [true, true, true, true] (lo' := [some (.ref 1000003), some (.ref v1), some (.ref v2), some (.int (v3 + 6))]) rfl ?_
                                                    exact ih _ _ _ _ _ (v3 + 6) h Z G
                                                  · have h := ifN h c198
                                                    refine x_iconst C (v := 0) dL_law_888 (by decide) ?_
                                                    cases h
                                                · have h := ifN h c185
                                                  by_cases c199 : (x12 &&& 31) = 22
                                                  · have h := ifP h c199
                                                    refine x_tableIn C (off := 857) (tgt := 890) dL_law_33 (by rw [c199]; decide) (by rw [c199]; decide) (by rw [c199]; rfl) (by decide) ?_
                                                    refine x_aload_n C (i := 1) dL_law_890 rfl rfl ?_
                                                    refine x_aload_n C (i := 0) dL_law_891 rfl rfl ?_
                                                    refine x_iload_n C (i := 3) dL_law_892 rfl rfl ?_
                                                    refine x_iconst C (v := 1) dL_law_893 (by decide) ?_
                                                    refine x_iadd C dL_law_894 ?_
                                                    obtain ⟨x200, ex200, h⟩ := ob h
                                                    refine x_sld C Z B dL_law_895 ex200 ?_
                                                    refine x_aload_n C (i := 0) dL_law_896 rfl rfl ?_
                                                    refine x_iload_n C (i := 3) dL_law_897 rfl rfl ?_
                                                    refine x_iconst C (v := 2) dL_law_898 (by decide) ?_
                                                    refine x_iadd C dL_law_899 ?_
                                                    obtain ⟨x201, ex201, h⟩ := ob h
                                                    refine x_sld C Z B dL_law_900 ex201 ?_
                                                    refine x_aload_n C (i := 0) dL_law_901 rfl rfl ?_
                                                    refine x_iload_n C (i := 3) dL_law_902 rfl rfl ?_
                                                    refine x_iconst C (v := 3) dL_law_903 (by decide) ?_
                                                    refine x_iadd C dL_law_904 ?_
                                                    obtain ⟨x202, ex202, h⟩ := ob h
                                                    refine x_sld C Z B dL_law_905 ex202 ?_
                                                    obtain ⟨r203, er203, h⟩ := ob h
                                                    refine x_callVr C Z mv_X8_drawn lk_L_108 (rv_h er203) (ct_X8_drawn er203) (by decide) rfl rfl (Nat.le_of_ble_eq_true rfl) dL_law_906 ?_
                                                    refine x_aload_n C (i := 2) dL_law_909 rfl rfl ?_
                                                    refine x_aload_n C (i := 0) dL_law_910 rfl rfl ?_
                                                    refine x_iload_n C (i := 3) dL_law_911 rfl rfl ?_
                                                    refine x_iconst C (v := 1) dL_law_912 (by decide) ?_
                                                    refine x_iadd C dL_law_913 ?_
                                                    obtain ⟨x204, ex204, h⟩ := ob h
                                                    refine x_sld C Z B dL_law_914 ex204 ?_
                                                    refine x_aload_n C (i := 0) dL_law_915 rfl rfl ?_
                                                    refine x_iload_n C (i := 3) dL_law_916 rfl rfl ?_
                                                    refine x_iconst C (v := 2) dL_law_917 (by decide) ?_
                                                    refine x_iadd C dL_law_918 ?_
                                                    obtain ⟨x205, ex205, h⟩ := ob h
                                                    refine x_sld C Z B dL_law_919 ex205 ?_
                                                    refine x_aload_n C (i := 0) dL_law_920 rfl rfl ?_
                                                    refine x_iload_n C (i := 3) dL_law_921 rfl rfl ?_
                                                    refine x_iconst C (v := 3) dL_law_922 (by decide) ?_
                                                    refine x_iadd C dL_law_923 ?_
                                                    obtain ⟨x206, ex206, h⟩ := ob h
                                                    refine x_sld C Z B dL_law_924 ex206 ?_
                                                    obtain ⟨r207, er207, h⟩ := ob h
                                                    refine x_callVr C Z mv_X9_drawn lk_L_111 (rv_h er207) (ct_X9_drawn er207) (by decide) rfl rfl (Nat.le_of_ble_eq_true rfl) dL_law_925 ?_
                                                    refine x_icmp_eq C (tgt := 1127) dL_law_928 (by decide) (fun c208 => ?_) (fun c208 => ?_)
                                                    · have h := ifP h c208
                                                      refine x_iinc C (i := 3) (y := v3 + 6) (lo' := [some (.ref 1000003), some (.ref v1), some (.ref v2), some (.int (v3 + 6))]) dL_law_1127 rfl rfl (by decide) rfl rfl ?_
                                                      refine x_goto C (tgt := 18) dL_law_1130 (by decide) ?_
                                                      refine x_wk [true, true, true, true] (lo' := [some (.ref 1000003), some (.ref v1), some (.ref v2), some (.int (v3 + 6))]) rfl ?_
                                                      exact ih _ _ _ _ _ (v3 + 6) h Z G
                                                    · have h := ifN h c208
                                                      refine x_iconst C (v := 0) dL_law_931 (by decide) ?_
                                                      cases h
                                                  · have h := ifN h c199
                                                    by_cases c209 : (x12 &&& 31) = 23
                                                    · have h := ifP h c209
                                                      refine x_tableIn C (off := 900) (tgt := 933) dL_law_33 (by rw [c209]; decide) (by rw [c209]; decide) (by rw [c209]; rfl) (by decide) ?_
                                                      refine x_aload_n C (i := 1) dL_law_933 rfl rfl ?_
                                                      refine x_aload_n C (i := 0) dL_law_934 rfl rfl ?_
                                                      refine x_iload_n C (i := 3) dL_law_935 rfl rfl ?_
                                                      refine x_iconst C (v := 1) dL_law_936 (by decide) ?_
                                                      refine x_iadd C dL_law_937 ?_
                                                      obtain ⟨x210, ex210, h⟩ := ob h
                                                      refine x_sld C Z B dL_law_938 ex210 ?_
                                                      obtain ⟨r211, er211, h⟩ := ob h
                                                      refine x_callVr C Z mv_X8_image lk_L_112 (rv_h er211) (ct_X8_image er211) (by decide) rfl rfl (Nat.le_of_ble_eq_true rfl) dL_law_939 ?_
                                                      refine x_aload_n C (i := 2) dL_law_942 rfl rfl ?_
                                                      refine x_aload_n C (i := 0) dL_law_943 rfl rfl ?_
                                                      refine x_iload_n C (i := 3) dL_law_944 rfl rfl ?_
                                                      refine x_iconst C (v := 1) dL_law_945 (by decide) ?_
                                                      refine x_iadd C dL_law_946 ?_
                                                      obtain ⟨x212, ex212, h⟩ := ob h
                                                      refine x_sld C Z B dL_law_947 ex212 ?_
                                                      obtain ⟨r213, er213, h⟩ := ob h
                                                      refine x_callVr C Z mv_X9_image lk_L_115 (rv_h er213) (ct_X9_image er213) (by decide) rfl rfl (Nat.le_of_ble_eq_true rfl) dL_law_948 ?_
                                                      refine x_icmp_eq C (tgt := 1127) dL_law_951 (by decide) (fun c214 => ?_) (fun c214 => ?_)
                                                      · have h := ifP h c214
                                                        refine x_iinc C (i := 3) (y := v3 + 6) (lo' := [some (.ref 1000003), some (.ref v1), some (.ref v2), some (.int (v3 + 6))]) dL_law_1127 rfl rfl (by decide) rfl rfl ?_
                                                        refine x_goto C (tgt := 18) dL_law_1130 (by decide) ?_
                                                        refine x_wk [true, true, true, true] (lo' := [some (.ref 1000003), some (.ref v1), some (.ref v2), some (.int (v3 + 6))]) rfl ?_
                                                        exact ih _ _ _ _ _ (v3 + 6) h Z G
                                                      · have h := ifN h c214
                                                        refine x_iconst C (v := 0) dL_law_954 (by decide) ?_
                                                        cases h
                                                    · have h := ifN h c209
                                                      by_cases c215 : (x12 &&& 31) = 24
                                                      · have h := ifP h c215
                                                        refine x_tableIn C (off := 923) (tgt := 956) dL_law_33 (by rw [c215]; decide) (by rw [c215]; decide) (by rw [c215]; rfl) (by decide) ?_
                                                        refine x_aload_n C (i := 1) dL_law_956 rfl rfl ?_
                                                        refine x_aload_n C (i := 0) dL_law_957 rfl rfl ?_
                                                        refine x_iload_n C (i := 3) dL_law_958 rfl rfl ?_
                                                        refine x_iconst C (v := 1) dL_law_959 (by decide) ?_
                                                        refine x_iadd C dL_law_960 ?_
                                                        obtain ⟨x216, ex216, h⟩ := ob h
                                                        refine x_sld C Z B dL_law_961 ex216 ?_
                                                        obtain ⟨r217, er217, h⟩ := ob h
                                                        refine x_callVr C Z mv_X8_restore lk_L_116 (rv_h er217) (ct_X8_restore er217) (by decide) rfl rfl (Nat.le_of_ble_eq_true rfl) dL_law_962 ?_
                                                        refine x_aload_n C (i := 2) dL_law_965 rfl rfl ?_
                                                        refine x_aload_n C (i := 0) dL_law_966 rfl rfl ?_
                                                        refine x_iload_n C (i := 3) dL_law_967 rfl rfl ?_
                                                        refine x_iconst C (v := 1) dL_law_968 (by decide) ?_
                                                        refine x_iadd C dL_law_969 ?_
                                                        obtain ⟨x218, ex218, h⟩ := ob h
                                                        refine x_sld C Z B dL_law_970 ex218 ?_
                                                        obtain ⟨r219, er219, h⟩ := ob h
                                                        refine x_callVr C Z mv_X9_restore lk_L_119 (rv_h er219) (ct_X9_restore er219) (by decide) rfl rfl (Nat.le_of_ble_eq_true rfl) dL_law_971 ?_
                                                        refine x_icmp_eq C (tgt := 1127) dL_law_974 (by decide) (fun c220 => ?_) (fun c220 => ?_)
                                                        · have h := ifP h c220
                                                          refine x_iinc C (i := 3) (y := v3 + 6) (lo' := [some (.ref 1000003), some (.ref v1), some (.ref v2), some (.int (v3 + 6))]) dL_law_1127 rfl rfl (by decide) rfl rfl ?_
                                                          refine x_goto C (tgt := 18) dL_law_1130 (by decide) ?_
                                                          refine x_wk [true, true, true, true] (lo' := [some (.ref 1000003), some (.ref v1), some (.ref v2), some (.int (v3 + 6))]) rfl ?_
                                                          exact ih _ _ _ _ _ (v3 + 6) h Z G
                                                        · have h := ifN h c220
                                                          refine x_iconst C (v := 0) dL_law_977 (by decide) ?_
                                                          cases h
                                                      · have h := ifN h c215
                                                        by_cases c221 : (x12 &&& 31) = 25
                                                        · have h := ifP h c221
                                                          refine x_tableIn C (off := 946) (tgt := 979) dL_law_33 (by rw [c221]; decide) (by rw [c221]; decide) (by rw [c221]; rfl) (by decide) ?_
                                                          refine x_aload_n C (i := 1) dL_law_979 rfl rfl ?_
                                                          refine x_aload_n C (i := 0) dL_law_980 rfl rfl ?_
                                                          refine x_iload_n C (i := 3) dL_law_981 rfl rfl ?_
                                                          refine x_iconst C (v := 1) dL_law_982 (by decide) ?_
                                                          refine x_iadd C dL_law_983 ?_
                                                          obtain ⟨x222, ex222, h⟩ := ob h
                                                          refine x_sld C Z B dL_law_984 ex222 ?_
                                                          obtain ⟨r223, er223, h⟩ := ob h
                                                          refine x_callVr C Z mv_X8_kind lk_L_120 (rv_h er223) (ct_X8_kind er223) (by decide) rfl rfl (Nat.le_of_ble_eq_true rfl) dL_law_985 ?_
                                                          refine x_aload_n C (i := 2) dL_law_988 rfl rfl ?_
                                                          refine x_aload_n C (i := 0) dL_law_989 rfl rfl ?_
                                                          refine x_iload_n C (i := 3) dL_law_990 rfl rfl ?_
                                                          refine x_iconst C (v := 1) dL_law_991 (by decide) ?_
                                                          refine x_iadd C dL_law_992 ?_
                                                          obtain ⟨x224, ex224, h⟩ := ob h
                                                          refine x_sld C Z B dL_law_993 ex224 ?_
                                                          obtain ⟨r225, er225, h⟩ := ob h
                                                          refine x_callVr C Z mv_X9_kind lk_L_123 (rv_h er225) (ct_X9_kind er225) (by decide) rfl rfl (Nat.le_of_ble_eq_true rfl) dL_law_994 ?_
                                                          refine x_icmp_eq C (tgt := 1127) dL_law_997 (by decide) (fun c226 => ?_) (fun c226 => ?_)
                                                          · have h := ifP h c226
                                                            refine x_iinc C (i := 3) (y := v3 + 6) (lo' := [some (.ref 1000003), some (.ref v1), some (.ref v2), some (.int (v3 + 6))]) dL_law_1127 rfl rfl (by decide) rfl rfl ?_
                                                            refine x_goto C (tgt := 18) dL_law_1130 (by decide) ?_
                                                            refine x_wk [true, true, true, true] (lo' := [some (.ref 1000003), some (.ref v1), some (.ref v2), some (.int (v3 + 6))]) rfl ?_
                                                            exact ih _ _ _ _ _ (v3 + 6) h Z G
                                                          · have h := ifN h c226
                                                            refine x_iconst C (v := 0) dL_law_1000 (by decide) ?_
                                                            cases h
                                                        · have h := ifN h c221
                                                          by_cases c227 : (x12 &&& 31) = 26
                                                          · have h := ifP h c227
                                                            refine x_tableIn C (off := 969) (tgt := 1002) dL_law_33 (by rw [c227]; decide) (by rw [c227]; decide) (by rw [c227]; rfl) (by decide) ?_
                                                            refine x_aload_n C (i := 1) dL_law_1002 rfl rfl ?_
                                                            refine x_aload_n C (i := 0) dL_law_1003 rfl rfl ?_
                                                            refine x_iload_n C (i := 3) dL_law_1004 rfl rfl ?_
                                                            refine x_iconst C (v := 1) dL_law_1005 (by decide) ?_
                                                            refine x_iadd C dL_law_1006 ?_
                                                            obtain ⟨x228, ex228, h⟩ := ob h
                                                            refine x_sld C Z B dL_law_1007 ex228 ?_
                                                            refine x_aload_n C (i := 0) dL_law_1008 rfl rfl ?_
                                                            refine x_iload_n C (i := 3) dL_law_1009 rfl rfl ?_
                                                            refine x_iconst C (v := 2) dL_law_1010 (by decide) ?_
                                                            refine x_iadd C dL_law_1011 ?_
                                                            obtain ⟨x229, ex229, h⟩ := ob h
                                                            refine x_sld C Z B dL_law_1012 ex229 ?_
                                                            obtain ⟨r230, er230, h⟩ := ob h
                                                            refine x_callVr C Z mv_X8_as lk_L_124 (rv_h er230) (ct_X8_as er230) (by decide) rfl rfl (Nat.le_of_ble_eq_true rfl) dL_law_1013 ?_
                                                            refine x_aload_n C (i := 2) dL_law_1016 rfl rfl ?_
                                                            refine x_aload_n C (i := 0) dL_law_1017 rfl rfl ?_
                                                            refine x_iload_n C (i := 3) dL_law_1018 rfl rfl ?_
                                                            refine x_iconst C (v := 1) dL_law_1019 (by decide) ?_
                                                            refine x_iadd C dL_law_1020 ?_
                                                            obtain ⟨x231, ex231, h⟩ := ob h
                                                            refine x_sld C Z B dL_law_1021 ex231 ?_
                                                            refine x_aload_n C (i := 0) dL_law_1022 rfl rfl ?_
                                                            refine x_iload_n C (i := 3) dL_law_1023 rfl rfl ?_
                                                            refine x_iconst C (v := 2) dL_law_1024 (by decide) ?_
                                                            refine x_iadd C dL_law_1025 ?_
                                                            obtain ⟨x232, ex232, h⟩ := ob h
                                                            refine x_sld C Z B dL_law_1026 ex232 ?_
                                                            obtain ⟨r233, er233, h⟩ := ob h
                                                            refine x_callVr C Z mv_X9_as lk_L_127 (rv_h er233) (ct_X9_as er233) (by decide) rfl rfl (Nat.le_of_ble_eq_true rfl) dL_law_1027 ?_
                                                            refine x_icmp_eq C (tgt := 1127) dL_law_1030 (by decide) (fun c234 => ?_) (fun c234 => ?_)
                                                            · have h := ifP h c234
                                                              refine x_iinc C (i := 3) (y := v3 + 6) (lo' := [some (.ref 1000003), some (.ref v1), some (.ref v2), some (.int (v3 + 6))]) dL_law_1127 rfl rfl (by decide) rfl rfl ?_
                                                              refine x_goto C (tgt := 18) dL_law_1130 (by decide) ?_
                                                              refine x_wk [true, true, true, true] (lo' := [some (.ref 1000003), some (.ref v1), some (.ref v2), some (.int (v3 + 6))]) rfl ?_
                                                              exact ih _ _ _ _ _ (v3 + 6) h Z G
                                                            · have h := ifN h c234
                                                              refine x_iconst C (v := 0) dL_law_1033 (by decide) ?_
                                                              cases h
                                                          · have h := ifN h c227
                                                            by_cases c235 : (x12 &&& 31) = 27
                                                            · have h := ifP h c235
                                                              refine x_tableIn C (off := 1002) (tgt := 1035) dL_law_33 (by rw [c235]; decide) (by rw [c235]; decide) (by rw [c235]; rfl) (by decide) ?_
                                                              refine x_aload_n C (i := 1) dL_law_1035 rfl rfl ?_
                                                              refine x_aload_n C (i := 0) dL_law_1036 rfl rfl ?_
                                                              refine x_iload_n C (i := 3) dL_law_1037 rfl rfl ?_
                                                              refine x_iconst C (v := 1) dL_law_1038 (by decide) ?_
                                                              refine x_iadd C dL_law_1039 ?_
                                                              obtain ⟨x236, ex236, h⟩ := ob h
                                                              refine x_sld C Z B dL_law_1040 ex236 ?_
                                                              refine x_aload_n C (i := 0) dL_law_1041 rfl rfl ?_
                                                              refine x_iload_n C (i := 3) dL_law_1042 rfl rfl ?_
                                                              refine x_iconst C (v := 2) dL_law_1043 (by decide) ?_
                                                              refine x_iadd C dL_law_1044 ?_
                                                              obtain ⟨x237, ex237, h⟩ := ob h
                                                              refine x_sld C Z B dL_law_1045 ex237 ?_
                                                              obtain ⟨r238, er238, h⟩ := ob h
                                                              refine x_callVr C Z mv_X8_ask lk_L_128 (rv_h er238) (ct_X8_ask er238) (by decide) rfl rfl (Nat.le_of_ble_eq_true rfl) dL_law_1046 ?_
                                                              refine x_aload_n C (i := 2) dL_law_1049 rfl rfl ?_
                                                              refine x_aload_n C (i := 0) dL_law_1050 rfl rfl ?_
                                                              refine x_iload_n C (i := 3) dL_law_1051 rfl rfl ?_
                                                              refine x_iconst C (v := 1) dL_law_1052 (by decide) ?_
                                                              refine x_iadd C dL_law_1053 ?_
                                                              obtain ⟨x239, ex239, h⟩ := ob h
                                                              refine x_sld C Z B dL_law_1054 ex239 ?_
                                                              refine x_aload_n C (i := 0) dL_law_1055 rfl rfl ?_
                                                              refine x_iload_n C (i := 3) dL_law_1056 rfl rfl ?_
                                                              refine x_iconst C (v := 2) dL_law_1057 (by decide) ?_
                                                              refine x_iadd C dL_law_1058 ?_
                                                              obtain ⟨x240, ex240, h⟩ := ob h
                                                              refine x_sld C Z B dL_law_1059 ex240 ?_
                                                              obtain ⟨r241, er241, h⟩ := ob h
                                                              refine x_callVr C Z mv_X9_ask lk_L_131 (rv_h er241) (ct_X9_ask er241) (by decide) rfl rfl (Nat.le_of_ble_eq_true rfl) dL_law_1060 ?_
                                                              refine x_icmp_eq C (tgt := 1127) dL_law_1063 (by decide) (fun c242 => ?_) (fun c242 => ?_)
                                                              · have h := ifP h c242
                                                                refine x_iinc C (i := 3) (y := v3 + 6) (lo' := [some (.ref 1000003), some (.ref v1), some (.ref v2), some (.int (v3 + 6))]) dL_law_1127 rfl rfl (by decide) rfl rfl ?_
                                                                refine x_goto C (tgt := 18) dL_law_1130 (by decide) ?_
                                                                refine x_wk [true, true, true, true] (lo' := [some (.ref 1000003), some (.ref v1), some (.ref v2), some (.int (v3 + 6))]) rfl ?_
                                                                exact ih _ _ _ _ _ (v3 + 6) h Z G
                                                              · have h := ifN h c242
                                                                refine x_iconst C (v := 0) dL_law_1066 (by decide) ?_
                                                                cases h
                                                            · have h := ifN h c235
                                                              by_cases c243 : (x12 &&& 31) = 28
                                                              · have h := ifP h c243
                                                                refine x_tableIn C (off := 1035) (tgt := 1068) dL_law_33 (by rw [c243]; decide) (by rw [c243]; decide) (by rw [c243]; rfl) (by decide) ?_
                                                                refine x_aload_n C (i := 1) dL_law_1068 rfl rfl ?_
                                                                refine x_aload_n C (i := 0) dL_law_1069 rfl rfl ?_
                                                                refine x_iload_n C (i := 3) dL_law_1070 rfl rfl ?_
                                                                refine x_iconst C (v := 1) dL_law_1071 (by decide) ?_
                                                                refine x_iadd C dL_law_1072 ?_
                                                                obtain ⟨x244, ex244, h⟩ := ob h
                                                                refine x_sld C Z B dL_law_1073 ex244 ?_
                                                                obtain ⟨r245, er245, h⟩ := ob h
                                                                refine x_callVr C Z mv_X8_trace lk_L_132 (rv_h er245) (ct_X8_trace er245) (by decide) rfl rfl (Nat.le_of_ble_eq_true rfl) dL_law_1074 ?_
                                                                refine x_aload_n C (i := 2) dL_law_1077 rfl rfl ?_
                                                                refine x_aload_n C (i := 0) dL_law_1078 rfl rfl ?_
                                                                refine x_iload_n C (i := 3) dL_law_1079 rfl rfl ?_
                                                                refine x_iconst C (v := 1) dL_law_1080 (by decide) ?_
                                                                refine x_iadd C dL_law_1081 ?_
                                                                obtain ⟨x246, ex246, h⟩ := ob h
                                                                refine x_sld C Z B dL_law_1082 ex246 ?_
                                                                obtain ⟨r247, er247, h⟩ := ob h
                                                                refine x_callVr C Z mv_X9_trace lk_L_135 (rv_h er247) (ct_X9_trace er247) (by decide) rfl rfl (Nat.le_of_ble_eq_true rfl) dL_law_1083 ?_
                                                                refine x_icmp_eq C (tgt := 1127) dL_law_1086 (by decide) (fun c248 => ?_) (fun c248 => ?_)
                                                                · have h := ifP h c248
                                                                  refine x_iinc C (i := 3) (y := v3 + 6) (lo' := [some (.ref 1000003), some (.ref v1), some (.ref v2), some (.int (v3 + 6))]) dL_law_1127 rfl rfl (by decide) rfl rfl ?_
                                                                  refine x_goto C (tgt := 18) dL_law_1130 (by decide) ?_
                                                                  refine x_wk [true, true, true, true] (lo' := [some (.ref 1000003), some (.ref v1), some (.ref v2), some (.int (v3 + 6))]) rfl ?_
                                                                  exact ih _ _ _ _ _ (v3 + 6) h Z G
                                                                · have h := ifN h c248
                                                                  refine x_iconst C (v := 0) dL_law_1089 (by decide) ?_
                                                                  cases h
                                                              · have h := ifN h c243
                                                                by_cases c249 : (x12 &&& 31) = 29
                                                                · have h := ifP h c249
                                                                  refine x_tableIn C (off := 1058) (tgt := 1091) dL_law_33 (by rw [c249]; decide) (by rw [c249]; decide) (by rw [c249]; rfl) (by decide) ?_
                                                                  refine x_aload_n C (i := 1) dL_law_1091 rfl rfl ?_
                                                                  refine x_aload_n C (i := 0) dL_law_1092 rfl rfl ?_
                                                                  refine x_iload_n C (i := 3) dL_law_1093 rfl rfl ?_
                                                                  refine x_iconst C (v := 1) dL_law_1094 (by decide) ?_
                                                                  refine x_iadd C dL_law_1095 ?_
                                                                  obtain ⟨x250, ex250, h⟩ := ob h
                                                                  refine x_sld C Z B dL_law_1096 ex250 ?_
                                                                  obtain ⟨r251, er251, h⟩ := ob h
                                                                  refine x_callVr C Z mv_X8_count lk_L_136 (rv_h er251) (ct_X8_count er251) (by decide) rfl rfl (Nat.le_of_ble_eq_true rfl) dL_law_1097 ?_
                                                                  refine x_aload_n C (i := 2) dL_law_1100 rfl rfl ?_
                                                                  refine x_aload_n C (i := 0) dL_law_1101 rfl rfl ?_
                                                                  refine x_iload_n C (i := 3) dL_law_1102 rfl rfl ?_
                                                                  refine x_iconst C (v := 1) dL_law_1103 (by decide) ?_
                                                                  refine x_iadd C dL_law_1104 ?_
                                                                  obtain ⟨x252, ex252, h⟩ := ob h
                                                                  refine x_sld C Z B dL_law_1105 ex252 ?_
                                                                  obtain ⟨r253, er253, h⟩ := ob h
                                                                  refine x_callVr C Z mv_X9_count lk_L_139 (rv_h er253) (ct_X9_count er253) (by decide) rfl rfl (Nat.le_of_ble_eq_true rfl) dL_law_1106 ?_
                                                                  refine x_icmp_eq C (tgt := 1127) dL_law_1109 (by decide) (fun c254 => ?_) (fun c254 => ?_)
                                                                  · have h := ifP h c254
                                                                    refine x_iinc C (i := 3) (y := v3 + 6) (lo' := [some (.ref 1000003), some (.ref v1), some (.ref v2), some (.int (v3 + 6))]) dL_law_1127 rfl rfl (by decide) rfl rfl ?_
                                                                    refine x_goto C (tgt := 18) dL_law_1130 (by decide) ?_
                                                                    refine x_wk [true, true, true, true] (lo' := [some (.ref 1000003), some (.ref v1), some (.ref v2), some (.int (v3 + 6))]) rfl ?_
                                                                    exact ih _ _ _ _ _ (v3 + 6) h Z G
                                                                  · have h := ifN h c254
                                                                    refine x_iconst C (v := 0) dL_law_1112 (by decide) ?_
                                                                    cases h
                                                                · have h := ifN h c249
                                                                  by_cases c255 : (x12 &&& 31) = 30
                                                                  · have h := ifP h c255
                                                                    refine x_tableIn C (off := 1081) (tgt := 1114) dL_law_33 (by rw [c255]; decide) (by rw [c255]; decide) (by rw [c255]; rfl) (by decide) ?_
                                                                    refine x_aload_n C (i := 1) dL_law_1114 rfl rfl ?_
                                                                    obtain ⟨r256, er256, h⟩ := ob h
                                                                    refine x_callVr C Z mv_X8_status lk_L_140 (rv_h er256) (ct_X8_status er256) (by decide) rfl rfl (Nat.le_of_ble_eq_true rfl) dL_law_1115 ?_
                                                                    refine x_aload_n C (i := 2) dL_law_1118 rfl rfl ?_
                                                                    obtain ⟨r257, er257, h⟩ := ob h
                                                                    refine x_callVr C Z mv_X9_status lk_L_143 (rv_h er257) (ct_X9_status er257) (by decide) rfl rfl (Nat.le_of_ble_eq_true rfl) dL_law_1119 ?_
                                                                    refine x_icmp_eq C (tgt := 1127) dL_law_1122 (by decide) (fun c258 => ?_) (fun c258 => ?_)
                                                                    · have h := ifP h c258
                                                                      refine x_iinc C (i := 3) (y := v3 + 6) (lo' := [some (.ref 1000003), some (.ref v1), some (.ref v2), some (.int (v3 + 6))]) dL_law_1127 rfl rfl (by decide) rfl rfl ?_
                                                                      refine x_goto C (tgt := 18) dL_law_1130 (by decide) ?_
                                                                      refine x_wk [true, true, true, true] (lo' := [some (.ref 1000003), some (.ref v1), some (.ref v2), some (.int (v3 + 6))]) rfl ?_
                                                                      exact ih _ _ _ _ _ (v3 + 6) h Z G
                                                                    · have h := ifN h c258
                                                                      refine x_iconst C (v := 0) dL_law_1125 (by decide) ?_
                                                                      cases h
                                                                  · have h := ifN h c255
                                                                    refine x_tableOut C (tgt := 1127) dL_law_33 (by have q0 := lv_neT (a := 0) c13 (by decide); have q1 := lv_neT (a := 1) c23 (by decide); have q2 := lv_neT (a := 2) c33 (by decide); have q3 := lv_neT (a := 3) c47 (by decide); have q4 := lv_neT (a := 4) c53 (by decide); have q5 := lv_neT (a := 5) c59 (by decide); have q6 := lv_neT (a := 6) c63 (by decide); have q7 := lv_neT (a := 7) c67 (by decide); have q8 := lv_neT (a := 8) c75 (by decide); have q9 := lv_neT (a := 9) c83 (by decide); have q10 := lv_neT (a := 10) c89 (by decide); have q11 := lv_neT (a := 11) c93 (by decide); have q12 := lv_neT (a := 12) c101 (by decide); have q13 := lv_neT (a := 13) c109 (by decide); have q14 := lv_neT (a := 14) c113 (by decide); have q15 := lv_neT (a := 15) c125 (by decide); have q16 := lv_neT (a := 16) c135 (by decide); have q17 := lv_neT (a := 17) c143 (by decide); have q18 := lv_neT (a := 18) c149 (by decide); have q19 := lv_neT (a := 19) c161 (by decide); have q20 := lv_neT (a := 20) c171 (by decide); have q21 := lv_neT (a := 21) c185 (by decide); have q22 := lv_neT (a := 22) c199 (by decide); have q23 := lv_neT (a := 23) c209 (by decide); have q24 := lv_neT (a := 24) c215 (by decide); have q25 := lv_neT (a := 25) c221 (by decide); have q26 := lv_neT (a := 26) c227 (by decide); have q27 := lv_neT (a := 27) c235 (by decide); have q28 := lv_neT (a := 28) c243 (by decide); have q29 := lv_neT (a := 29) c249 (by decide); have q30 := lv_neT (a := 30) c255 (by decide); omega) (by decide) ?_
                                                                    refine x_iinc C (i := 3) (y := v3 + 6) (lo' := [some (.ref 1000003), some (.ref v1), some (.ref v2), some (.int (v3 + 6))]) dL_law_1127 rfl rfl (by decide) rfl rfl ?_
                                                                    refine x_goto C (tgt := 18) dL_law_1130 (by decide) ?_
                                                                    refine x_wk [true, true, true, true] (lo' := [some (.ref 1000003), some (.ref v1), some (.ref v2), some (.int (v3 + 6))]) rfl ?_
                                                                    exact ih _ _ _ _ _ (v3 + 6) h Z G
set_option maxHeartbeats 4000000 in
set_option maxRecDepth 100000 in
theorem law_ok {κ : Kx} {mn : String} {L : Nat} {xs : Nat → Int32} {σ : Hp} {ad0 : Nat → Nat} (C : Cx κ 4 100 cL_law RL mn) (hRc : κ.R.cells = 600000) (hRs : κ.R.slots = 7302250) (B : LX κ L xs) (Z : Zx κ (0, ad0, 0, 0)) (E : ∀ (N : Nat) (ad : Nat → Nat) (c s pc : Nat) (lo : List (Option Value)) (σ : Hp), Zx κ (N, ad, c, s) → decode cL_law pc = .ok (.ireturn, 1) → X κ 4 (N, ad, c, s) pc lo [.int 1] σ) {r : Unit} (h : m_L_law L xs σ = some r) : X κ 4 (0, ad0, 0, 0) 0 [some (.ref 1000003), none, none, none] [] σ := by
  have G := Ag.rf 0 ad0 0 0
  unfold m_L_law at h
  obtain ⟨u1, eu1, h⟩ := ob h
  obtain ⟨σ2, eσ2, h⟩ := ob h
  refine g_new C Z G hRc hRs nw_L_7 eu1 rfl eσ2 dL_law_0 (fun ad Z G => ?_)
  refine x_dup C dL_law_3 rfl ?_
  obtain ⟨u3, eu3, h⟩ := ob h
  obtain ⟨r5, er5, h⟩ := ob h
  obtain ⟨u4, eu4, h⟩ := ob h
  refine g_callI C Z G hRc hRs mi_X8_init lk_L_9 (ct_X8_init er5) (by decide) rfl rfl (Nat.le_of_ble_eq_true rfl) eu3 rfl eu4 dL_law_4 (fun ad Z G => ?_)
  refine x_astore_n C (i := 1) (lo' := [some (.ref 1000003), some (.ref 0), none, none]) dL_law_7 rfl (by decide) rfl rfl ?_
  obtain ⟨u6, eu6, h⟩ := ob h
  obtain ⟨σ7, eσ7, h⟩ := ob h
  refine g_new C Z G hRc hRs nw_L_10 eu6 rfl eσ7 dL_law_8 (fun ad Z G => ?_)
  refine x_dup C dL_law_11 rfl ?_
  obtain ⟨u8, eu8, h⟩ := ob h
  obtain ⟨r10, er10, h⟩ := ob h
  obtain ⟨u9, eu9, h⟩ := ob h
  refine g_callI C Z G hRc hRs mi_X9_init lk_L_12 (ct_X9_init er10) (by decide) rfl rfl (Nat.le_of_ble_eq_true rfl) eu8 rfl eu9 dL_law_12 (fun ad Z G => ?_)
  refine x_astore_n C (i := 2) (lo' := [some (.ref 1000003), some (.ref 0), some (.ref r5.1), none]) dL_law_15 rfl (by decide) rfl rfl ?_
  refine x_iconst C (v := 0) dL_law_16 (by decide) ?_
  refine x_istore_n C (i := 3) (lo' := [some (.ref 1000003), some (.ref 0), some (.ref r5.1), some (.int 0)]) dL_law_17 rfl (by decide) rfl rfl ?_
  obtain ⟨z259, ez259, h⟩ := ob h
  refine x_wk [true, true, true, true] (lo' := [some (.ref 1000003), some (.ref 0), some (.ref r5.1), some (.int 0)]) rfl ?_
  refine lp_L_law_18 C hRc hRs B 0 r5.1 (fun ad Z G => ?_) _ _ _ _ _ _ 0 ez259 Z G
  refine x_iconst C (v := 1) dL_law_1133 (by decide) ?_
  exact E _ _ _ _ _ _ _ Z dL_law_1134
