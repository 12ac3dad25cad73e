theorem dX9_kth_0 : decode cX9_kth 0 = .ok (.aload_n 0, 1) := by decide +kernel
theorem dX9_kth_1 : decode cX9_kth 1 = .ok (.getfield 196, 3) := by decide +kernel
theorem dX9_kth_4 : decode cX9_kth 4 = .ok (.iconst 1, 1) := by decide +kernel
theorem dX9_kth_5 : decode cX9_kth 5 = .ok (.isub, 1) := by decide +kernel
theorem dX9_kth_6 : decode cX9_kth 6 = .ok (.istore 4, 2) := by decide +kernel
theorem dX9_kth_8 : decode cX9_kth 8 = .ok (.iload 4, 2) := by decide +kernel
theorem dX9_kth_10 : decode cX9_kth 10 = .ok (.ifCond .lt 163, 3) := by decide +kernel
theorem dX9_kth_13 : decode cX9_kth 13 = .ok (.aload_n 0, 1) := by decide +kernel
theorem dX9_kth_14 : decode cX9_kth 14 = .ok (.getfield 33, 3) := by decide +kernel
theorem dX9_kth_17 : decode cX9_kth 17 = .ok (.iload 4, 2) := by decide +kernel
theorem dX9_kth_19 : decode cX9_kth 19 = .ok (.iaload, 1) := by decide +kernel
theorem dX9_kth_20 : decode cX9_kth 20 = .ok (.istore 5, 2) := by decide +kernel
theorem dX9_kth_22 : decode cX9_kth 22 = .ok (.aload_n 0, 1) := by decide +kernel
theorem dX9_kth_23 : decode cX9_kth 23 = .ok (.getfield 36, 3) := by decide +kernel
theorem dX9_kth_26 : decode cX9_kth 26 = .ok (.iload 5, 2) := by decide +kernel
theorem dX9_kth_28 : decode cX9_kth 28 = .ok (.aload_n 0, 1) := by decide +kernel
theorem dX9_kth_29 : decode cX9_kth 29 = .ok (.getfield 30, 3) := by decide +kernel
theorem dX9_kth_32 : decode cX9_kth 32 = .ok (.iload 5, 2) := by decide +kernel
theorem dX9_kth_34 : decode cX9_kth 34 = .ok (.iaload, 1) := by decide +kernel
theorem dX9_kth_35 : decode cX9_kth 35 = .ok (.iload_n 2, 1) := by decide +kernel
theorem dX9_kth_36 : decode cX9_kth 36 = .ok (.if_icmp .ne 17, 3) := by decide +kernel
theorem dX9_kth_39 : decode cX9_kth 39 = .ok (.iload 5, 2) := by decide +kernel
theorem dX9_kth_41 : decode cX9_kth 41 = .ok (.sipush 4096, 3) := by decide +kernel
theorem dX9_kth_44 : decode cX9_kth 44 = .ok (.irem, 1) := by decide +kernel
theorem dX9_kth_45 : decode cX9_kth 45 = .ok (.iload_n 1, 1) := by decide +kernel
theorem dX9_kth_46 : decode cX9_kth 46 = .ok (.if_icmp .ne 7, 3) := by decide +kernel
theorem dX9_kth_49 : decode cX9_kth 49 = .ok (.iconst 1, 1) := by decide +kernel
theorem dX9_kth_50 : decode cX9_kth 50 = .ok (.goto 4, 3) := by decide +kernel
theorem dX9_kth_53 : decode cX9_kth 53 = .ok (.iconst 0, 1) := by decide +kernel
theorem dX9_kth_54 : decode cX9_kth 54 = .ok (.bastore, 1) := by decide +kernel
theorem dX9_kth_55 : decode cX9_kth 55 = .ok (.aload_n 0, 1) := by decide +kernel
theorem dX9_kth_56 : decode cX9_kth 56 = .ok (.getfield 30, 3) := by decide +kernel
theorem dX9_kth_59 : decode cX9_kth 59 = .ok (.iload 5, 2) := by decide +kernel
theorem dX9_kth_61 : decode cX9_kth 61 = .ok (.iaload, 1) := by decide +kernel
theorem dX9_kth_62 : decode cX9_kth 62 = .ok (.iload_n 2, 1) := by decide +kernel
theorem dX9_kth_63 : decode cX9_kth 63 = .ok (.if_icmp .ge 12, 3) := by decide +kernel
theorem dX9_kth_66 : decode cX9_kth 66 = .ok (.aload_n 0, 1) := by decide +kernel
theorem dX9_kth_67 : decode cX9_kth 67 = .ok (.iload 5, 2) := by decide +kernel
theorem dX9_kth_69 : decode cX9_kth 69 = .ok (.invokevirtual 190, 3) := by decide +kernel
theorem dX9_kth_72 : decode cX9_kth 72 = .ok (.goto 4, 3) := by decide +kernel
theorem dX9_kth_75 : decode cX9_kth 75 = .ok (.iconst 0, 1) := by decide +kernel
theorem dX9_kth_76 : decode cX9_kth 76 = .ok (.istore 6, 2) := by decide +kernel
theorem dX9_kth_78 : decode cX9_kth 78 = .ok (.iconst 0, 1) := by decide +kernel
theorem dX9_kth_79 : decode cX9_kth 79 = .ok (.istore 7, 2) := by decide +kernel
theorem dX9_kth_81 : decode cX9_kth 81 = .ok (.iload 7, 2) := by decide +kernel
theorem dX9_kth_83 : decode cX9_kth 83 = .ok (.bipush 16, 2) := by decide +kernel
theorem dX9_kth_85 : decode cX9_kth 85 = .ok (.if_icmp .ge 82, 3) := by decide +kernel
theorem dX9_kth_88 : decode cX9_kth 88 = .ok (.aload_n 0, 1) := by decide +kernel
theorem dX9_kth_89 : decode cX9_kth 89 = .ok (.getfield 36, 3) := by decide +kernel
theorem dX9_kth_92 : decode cX9_kth 92 = .ok (.iload 5, 2) := by decide +kernel
theorem dX9_kth_94 : decode cX9_kth 94 = .ok (.aload_n 0, 1) := by decide +kernel
theorem dX9_kth_95 : decode cX9_kth 95 = .ok (.getfield 36, 3) := by decide +kernel
theorem dX9_kth_98 : decode cX9_kth 98 = .ok (.iload 5, 2) := by decide +kernel
theorem dX9_kth_100 : decode cX9_kth 100 = .ok (.baload, 1) := by decide +kernel
theorem dX9_kth_101 : decode cX9_kth 101 = .ok (.ifCond .ne 54, 3) := by decide +kernel
theorem dX9_kth_104 : decode cX9_kth 104 = .ok (.iload 6, 2) := by decide +kernel
theorem dX9_kth_106 : decode cX9_kth 106 = .ok (.iload 7, 2) := by decide +kernel
theorem dX9_kth_108 : decode cX9_kth 108 = .ok (.invokestatic 138, 3) := by decide +kernel
theorem dX9_kth_111 : decode cX9_kth 111 = .ok (.ifCond .eq 48, 3) := by decide +kernel
theorem dX9_kth_114 : decode cX9_kth 114 = .ok (.aload_n 0, 1) := by decide +kernel
theorem dX9_kth_115 : decode cX9_kth 115 = .ok (.getfield 30, 3) := by decide +kernel
theorem dX9_kth_118 : decode cX9_kth 118 = .ok (.aload_n 0, 1) := by decide +kernel
theorem dX9_kth_119 : decode cX9_kth 119 = .ok (.iload 5, 2) := by decide +kernel
theorem dX9_kth_121 : decode cX9_kth 121 = .ok (.iload 7, 2) := by decide +kernel
theorem dX9_kth_123 : decode cX9_kth 123 = .ok (.invokevirtual 199, 3) := by decide +kernel
theorem dX9_kth_126 : decode cX9_kth 126 = .ok (.iaload, 1) := by decide +kernel
theorem dX9_kth_127 : decode cX9_kth 127 = .ok (.aload_n 0, 1) := by decide +kernel
theorem dX9_kth_128 : decode cX9_kth 128 = .ok (.getfield 30, 3) := by decide +kernel
theorem dX9_kth_131 : decode cX9_kth 131 = .ok (.iload 5, 2) := by decide +kernel
theorem dX9_kth_133 : decode cX9_kth 133 = .ok (.iaload, 1) := by decide +kernel
theorem dX9_kth_134 : decode cX9_kth 134 = .ok (.iconst 1, 1) := by decide +kernel
theorem dX9_kth_135 : decode cX9_kth 135 = .ok (.iadd, 1) := by decide +kernel
theorem dX9_kth_136 : decode cX9_kth 136 = .ok (.if_icmp .ne 23, 3) := by decide +kernel
theorem dX9_kth_139 : decode cX9_kth 139 = .ok (.aload_n 0, 1) := by decide +kernel
theorem dX9_kth_140 : decode cX9_kth 140 = .ok (.getfield 36, 3) := by decide +kernel
theorem dX9_kth_143 : decode cX9_kth 143 = .ok (.aload_n 0, 1) := by decide +kernel
theorem dX9_kth_144 : decode cX9_kth 144 = .ok (.iload 5, 2) := by decide +kernel
theorem dX9_kth_146 : decode cX9_kth 146 = .ok (.iload 7, 2) := by decide +kernel
theorem dX9_kth_148 : decode cX9_kth 148 = .ok (.invokevirtual 199, 3) := by decide +kernel
theorem dX9_kth_151 : decode cX9_kth 151 = .ok (.baload, 1) := by decide +kernel
theorem dX9_kth_152 : decode cX9_kth 152 = .ok (.ifCond .eq 7, 3) := by decide +kernel
theorem dX9_kth_155 : decode cX9_kth 155 = .ok (.iconst 1, 1) := by decide +kernel
theorem dX9_kth_156 : decode cX9_kth 156 = .ok (.goto 4, 3) := by decide +kernel
theorem dX9_kth_159 : decode cX9_kth 159 = .ok (.iconst 0, 1) := by decide +kernel
theorem dX9_kth_160 : decode cX9_kth 160 = .ok (.bastore, 1) := by decide +kernel
theorem dX9_kth_161 : decode cX9_kth 161 = .ok (.iinc 7 1, 3) := by decide +kernel
theorem dX9_kth_164 : decode cX9_kth 164 = .ok (.goto (-83), 3) := by decide +kernel
theorem dX9_kth_167 : decode cX9_kth 167 = .ok (.iinc 4 (-1), 3) := by decide +kernel
theorem dX9_kth_170 : decode cX9_kth 170 = .ok (.goto (-162), 3) := by decide +kernel
theorem dX9_kth_173 : decode cX9_kth 173 = .ok (.aload_n 0, 1) := by decide +kernel
theorem dX9_kth_174 : decode cX9_kth 174 = .ok (.getfield 33, 3) := by decide +kernel
theorem dX9_kth_177 : decode cX9_kth 177 = .ok (.iconst 0, 1) := by decide +kernel
theorem dX9_kth_178 : decode cX9_kth 178 = .ok (.iaload, 1) := by decide +kernel
theorem dX9_kth_179 : decode cX9_kth 179 = .ok (.istore 4, 2) := by decide +kernel
theorem dX9_kth_181 : decode cX9_kth 181 = .ok (.iconst 0, 1) := by decide +kernel
theorem dX9_kth_182 : decode cX9_kth 182 = .ok (.istore 5, 2) := by decide +kernel
theorem dX9_kth_184 : decode cX9_kth 184 = .ok (.iconst 0, 1) := by decide +kernel
theorem dX9_kth_185 : decode cX9_kth 185 = .ok (.istore 6, 2) := by decide +kernel
theorem dX9_kth_187 : decode cX9_kth 187 = .ok (.iload 6, 2) := by decide +kernel
theorem dX9_kth_189 : decode cX9_kth 189 = .ok (.iload_n 3, 1) := by decide +kernel
theorem dX9_kth_190 : decode cX9_kth 190 = .ok (.if_icmp .gt 82, 3) := by decide +kernel
theorem dX9_kth_193 : decode cX9_kth 193 = .ok (.aload_n 0, 1) := by decide +kernel
theorem dX9_kth_194 : decode cX9_kth 194 = .ok (.iload 4, 2) := by decide +kernel
theorem dX9_kth_196 : decode cX9_kth 196 = .ok (.invokevirtual 190, 3) := by decide +kernel
theorem dX9_kth_199 : decode cX9_kth 199 = .ok (.istore 7, 2) := by decide +kernel
theorem dX9_kth_201 : decode cX9_kth 201 = .ok (.iconst 0, 1) := by decide +kernel
theorem dX9_kth_202 : decode cX9_kth 202 = .ok (.istore 5, 2) := by decide +kernel
theorem dX9_kth_204 : decode cX9_kth 204 = .ok (.iload 7, 2) := by decide +kernel
theorem dX9_kth_206 : decode cX9_kth 206 = .ok (.iload 5, 2) := by decide +kernel
theorem dX9_kth_208 : decode cX9_kth 208 = .ok (.invokestatic 138, 3) := by decide +kernel
theorem dX9_kth_211 : decode cX9_kth 211 = .ok (.ifCond .eq 39, 3) := by decide +kernel
theorem dX9_kth_214 : decode cX9_kth 214 = .ok (.aload_n 0, 1) := by decide +kernel
theorem dX9_kth_215 : decode cX9_kth 215 = .ok (.getfield 30, 3) := by decide +kernel
theorem dX9_kth_218 : decode cX9_kth 218 = .ok (.aload_n 0, 1) := by decide +kernel
theorem dX9_kth_219 : decode cX9_kth 219 = .ok (.iload 4, 2) := by decide +kernel
theorem dX9_kth_221 : decode cX9_kth 221 = .ok (.iload 5, 2) := by decide +kernel
theorem dX9_kth_223 : decode cX9_kth 223 = .ok (.invokevirtual 199, 3) := by decide +kernel
theorem dX9_kth_226 : decode cX9_kth 226 = .ok (.iaload, 1) := by decide +kernel
theorem dX9_kth_227 : decode cX9_kth 227 = .ok (.iload 6, 2) := by decide +kernel
theorem dX9_kth_229 : decode cX9_kth 229 = .ok (.iconst 1, 1) := by decide +kernel
theorem dX9_kth_230 : decode cX9_kth 230 = .ok (.iadd, 1) := by decide +kernel
theorem dX9_kth_231 : decode cX9_kth 231 = .ok (.if_icmp .ne 19, 3) := by decide +kernel
theorem dX9_kth_234 : decode cX9_kth 234 = .ok (.aload_n 0, 1) := by decide +kernel
theorem dX9_kth_235 : decode cX9_kth 235 = .ok (.getfield 36, 3) := by decide +kernel
theorem dX9_kth_238 : decode cX9_kth 238 = .ok (.aload_n 0, 1) := by decide +kernel
theorem dX9_kth_239 : decode cX9_kth 239 = .ok (.iload 4, 2) := by decide +kernel
theorem dX9_kth_241 : decode cX9_kth 241 = .ok (.iload 5, 2) := by decide +kernel
theorem dX9_kth_243 : decode cX9_kth 243 = .ok (.invokevirtual 199, 3) := by decide +kernel
theorem dX9_kth_246 : decode cX9_kth 246 = .ok (.baload, 1) := by decide +kernel
theorem dX9_kth_247 : decode cX9_kth 247 = .ok (.ifCond .ne 9, 3) := by decide +kernel
theorem dX9_kth_250 : decode cX9_kth 250 = .ok (.iinc 5 1, 3) := by decide +kernel
theorem dX9_kth_253 : decode cX9_kth 253 = .ok (.goto (-49), 3) := by decide +kernel
theorem dX9_kth_256 : decode cX9_kth 256 = .ok (.aload_n 0, 1) := by decide +kernel
theorem dX9_kth_257 : decode cX9_kth 257 = .ok (.iload 4, 2) := by decide +kernel
theorem dX9_kth_259 : decode cX9_kth 259 = .ok (.iload 5, 2) := by decide +kernel
theorem dX9_kth_261 : decode cX9_kth 261 = .ok (.invokevirtual 199, 3) := by decide +kernel
theorem dX9_kth_264 : decode cX9_kth 264 = .ok (.istore 4, 2) := by decide +kernel
theorem dX9_kth_266 : decode cX9_kth 266 = .ok (.iinc 6 1, 3) := by decide +kernel
theorem dX9_kth_269 : decode cX9_kth 269 = .ok (.goto (-82), 3) := by decide +kernel
theorem dX9_kth_272 : decode cX9_kth 272 = .ok (.bipush 10, 2) := by decide +kernel
theorem dX9_kth_274 : decode cX9_kth 274 = .ok (.iload 5, 2) := by decide +kernel
theorem dX9_kth_276 : decode cX9_kth 276 = .ok (.iconst 4, 1) := by decide +kernel
theorem dX9_kth_277 : decode cX9_kth 277 = .ok (.idiv, 1) := by decide +kernel
theorem dX9_kth_278 : decode cX9_kth 278 = .ok (.imul, 1) := by decide +kernel
theorem dX9_kth_279 : decode cX9_kth 279 = .ok (.iload 5, 2) := by decide +kernel
theorem dX9_kth_281 : decode cX9_kth 281 = .ok (.iconst 4, 1) := by decide +kernel
theorem dX9_kth_282 : decode cX9_kth 282 = .ok (.irem, 1) := by decide +kernel
theorem dX9_kth_283 : decode cX9_kth 283 = .ok (.iadd, 1) := by decide +kernel
theorem dX9_kth_284 : decode cX9_kth 284 = .ok (.ireturn, 1) := by decide +kernel
def L_X9_kth_81 (N : Nat) (v0 : Nat) (v1 : Int32) (v2 : Int32) (v3 : Int32) (v4 : Int32) (v5 : Int32) (v6 : Int32) : Nat → Hp → Int32 → Option (Hp)
  | 0, _, _ => none
  | n + 1, σ, v7 =>
  if 16 ≤ v7 then
   some σ
  else
   (gR N σ v0 9 15).bind fun x14 =>
  (gR N σ v0 9 15).bind fun x15 =>
  (aI 3 N σ x15 v5).bind fun x16 =>
  ((if x16 = 0 then
   (m_X9_has v6 v7).bind fun r22 =>
  if r22 = 0 then
   some 0
  else
   (gR N σ v0 9 13).bind fun x24 =>
  (m_X9_behind N σ v0 v5 v7).bind fun r25 =>
  (aI 0 N σ x24 r25).bind fun x26 =>
  (gR N σ v0 9 13).bind fun x27 =>
  (aI 0 N σ x27 v5).bind fun x28 =>
  if x26 = (x28 + 1) then
   (gR N σ v0 9 15).bind fun x30 =>
  (m_X9_behind N σ v0 v5 v7).bind fun r31 =>
  (aI 3 N σ x30 r31).bind fun x32 =>
  if x32 = 0 then
   some 0
  else
   some 1
  else
   some 0
  else
   some 1) : Option (Int32)).bind fun z17 =>
  (sI 3 N σ x14 v5 z17).bind fun σ18 =>
  L_X9_kth_81 N v0 v1 v2 v3 v4 v5 v6 n σ18 (v7 + 1)
def L_X9_kth_8 (N : Nat) (v0 : Nat) (v1 : Int32) (v2 : Int32) (v3 : Int32) : Nat → Hp → Int32 → Option (Hp)
  | 0, _, _ => none
  | n + 1, σ, v4 =>
  if v4 < 0 then
   some σ
  else
   (gR N σ v0 9 14).bind fun x3 =>
  (aI 0 N σ x3 v4).bind fun x4 =>
  (gR N σ v0 9 15).bind fun x5 =>
  (gR N σ v0 9 13).bind fun x6 =>
  (aI 0 N σ x6 x4).bind fun x7 =>
  ((if x7 = v2 then
   if (x4 - x4 / 4096 * 4096) = v1 then
   some 1
  else
   some 0
  else
   some 0) : Option (Int32)).bind fun z8 =>
  (sI 3 N σ x5 x4 z8).bind fun σ9 =>
  (gR N σ9 v0 9 13).bind fun x10 =>
  (aI 0 N σ9 x10 x4).bind fun x11 =>
  ((if v2 ≤ x11 then
   some 0
  else
   (m_X9_movesOf N σ9 v0 x4).bind fun r38 =>
  some r38) : Option (Int32)).bind fun z12 =>
  (L_X9_kth_81 N v0 v1 v2 v3 v4 x4 z12 fu σ9 0).bind fun z34 =>
  L_X9_kth_8 N v0 v1 v2 v3 n z34 (v4 + (-1))
def L_X9_kth_204 (N : Nat) (σ : Hp) (v0 : Nat) (v3 : Int32) (v4 : Int32) (v6 : Int32) (v7 : Int32) : Nat → Int32 → Option (Int32)
  | 0, _ => none
  | n + 1, v5 =>
  (m_X9_has v7 v5).bind fun r48 =>
  if r48 = 0 then
   L_X9_kth_204 N σ v0 v3 v4 v6 v7 n (v5 + 1)
  else
   (gR N σ v0 9 13).bind fun x50 =>
  (m_X9_behind N σ v0 v4 v5).bind fun r51 =>
  (aI 0 N σ x50 r51).bind fun x52 =>
  if x52 = (v6 + 1) then
   (gR N σ v0 9 15).bind fun x54 =>
  (m_X9_behind N σ v0 v4 v5).bind fun r55 =>
  (aI 3 N σ x54 r55).bind fun x56 =>
  if x56 = 0 then
   L_X9_kth_204 N σ v0 v3 v4 v6 v7 n (v5 + 1)
  else
   some v5
  else
   L_X9_kth_204 N σ v0 v3 v4 v6 v7 n (v5 + 1)
def L_X9_kth_187 (N : Nat) (σ : Hp) (v0 : Nat) (v3 : Int32) : Nat → Int32 → Int32 → Int32 → Option (Int32)
  | 0, _, _, _ => none
  | n + 1, v4, v5, v6 =>
  if v3 < v6 then
   some v5
  else
   (m_X9_movesOf N σ v0 v4).bind fun r47 =>
  (L_X9_kth_204 N σ v0 v3 v4 v6 r47 fu 0).bind fun z58 =>
  (m_X9_behind N σ v0 v4 z58).bind fun r59 =>
  L_X9_kth_187 N σ v0 v3 n r59 z58 (v6 + 1)
def m_X9_kth (N : Nat) (σ : Hp) (t0 : Nat) (p1 : Int32) (p2 : Int32) (p3 : Int32) : Option (Int32 × Hp) :=
  (rv N σ t0 9).bind fun _ =>
  (gI N σ t0 9 16).bind fun x1 =>
  (L_X9_kth_8 N t0 p1 p2 p3 fu σ (x1 - 1)).bind fun z43 =>
  (gR N z43 t0 9 14).bind fun x44 =>
  (aI 0 N z43 x44 0).bind fun x45 =>
  (L_X9_kth_187 N z43 t0 p3 fu x45 0 0).bind fun z60 =>
  some (((10 : Int32) * (z60 / 4)) + (z60 - z60 / 4 * 4), z43)
set_option maxHeartbeats 4000000 in
set_option maxRecDepth 100000 in
theorem lp_X9_kth_81 {κ : Kx} {ω : Om} (C : Cx κ 8 4 cX9_kth RX9 "kth") (Z : Zx κ ω) (v0 : Nat) (v1 : Int32) (v2 : Int32) (v3 : Int32) (v4 : Int32) (v5 : Int32) (v6 : Int32) {r : Hp} (hk : X κ 8 ω 167 [some (.ref v0), some (.int v1), some (.int v2), some (.int v3), some (.int v4), none, none, none] [] r) : ∀ (n : Nat) (σ : Hp) (v7 : Int32), L_X9_kth_81 ω.1 v0 v1 v2 v3 v4 v5 v6 n σ v7 = some r → X κ 8 ω 81 [some (.ref v0), some (.int v1), some (.int v2), some (.int v3), some (.int v4), some (.int v5), some (.int v6), some (.int v7)] [] σ := by
  intro n
  induction n with
  | zero => intro σ v7 h; cases h
  | succ n ih =>
    intro σ v7 h
    rw [L_X9_kth_81.eq_2] at h
    refine x_iload C (i := 7) dX9_kth_81 rfl ?_
    refine x_bipush C (v := 16) dX9_kth_83 (by decide) ?_
    refine x_icmp_ge C (tgt := 167) dX9_kth_85 (by decide) (fun c13 => ?_) (fun c13 => ?_)
    · have h := ifP h c13
      refine x_wk [true, true, true, true, true, false, false, false] (lo' := [some (.ref v0), some (.int v1), some (.int v2), some (.int v3), some (.int v4), none, none, none]) rfl ?_
      obtain rfl := Option.some.inj h
      exact hk
    · have h := ifN h c13
      refine x_aload_n C (i := 0) dX9_kth_88 rfl rfl ?_
      obtain ⟨x14, ex14, h⟩ := ob h
      refine x_getR C fl_X9_36 dX9_kth_89 ex14 ?_
      refine x_iload C (i := 5) dX9_kth_92 rfl ?_
      refine x_aload_n C (i := 0) dX9_kth_94 rfl rfl ?_
      obtain ⟨x15, ex15, h⟩ := ob h
      refine x_getR C fl_X9_36 dX9_kth_95 ex15 ?_
      refine x_iload C (i := 5) dX9_kth_98 rfl ?_
      obtain ⟨x16, ex16, h⟩ := ob h
      refine x_zald C dX9_kth_100 ex16 ?_
      obtain ⟨z17, hz17, h⟩ := ob h
      have hJ19 : X κ 8 ω 160 [some (.ref v0), some (.int v1), some (.int v2), some (.int v3), some (.int v4), some (.int v5), some (.int v6), some (.int v7)] [.int z17, .int v5, .ref x14] σ := by
        obtain ⟨σ18, eσ18, h⟩ := ob h
        refine x_zast C dX9_kth_160 eσ18 ?_
        refine x_iinc C (i := 7) (y := v7 + 1) (lo' := [some (.ref v0), some (.int v1), some (.int v2), some (.int v3), some (.int v4), some (.int v5), some (.int v6), some (.int (v7 + 1))]) dX9_kth_161 rfl rfl (by decide) rfl rfl ?_
        refine x_goto C (tgt := 81) dX9_kth_164 (by decide) ?_
        refine x_wk [true, true, true, true, true, true, true, true] (lo' := [some (.ref v0), some (.int v1), some (.int v2), some (.int v3), some (.int v4), some (.int v5), some (.int v6), some (.int (v7 + 1))]) rfl ?_
        exact ih σ18 (v7 + 1) h
      clear h
      have h := hz17
      refine x_if_ne C (tgt := 155) dX9_kth_101 (by decide) (fun c21 => ?_) (fun c21 => ?_)
      · have h := ifN h c21
        refine x_iconst C (v := 1) dX9_kth_155 (by decide) ?_
        refine x_goto C (tgt := 160) dX9_kth_156 (by decide) ?_
        refine x_wk [true, true, true, true, true, true, true, true] (lo' := [some (.ref v0), some (.int v1), some (.int v2), some (.int v3), some (.int v4), some (.int v5), some (.int v6), some (.int v7)]) rfl ?_
        obtain rfl := Option.some.inj h
        exact hJ19
      · have h := ifP h c21
        refine x_iload C (i := 6) dX9_kth_104 rfl ?_
        refine x_iload C (i := 7) dX9_kth_106 rfl ?_
        obtain ⟨r22, er22, h⟩ := ob h
        refine x_callSr C Z ms_X9_has lk_X9_138 (ct_X9_has (N := ω.1) (σ := σ) er22) (by decide) rfl rfl (Nat.le_of_ble_eq_true rfl) dX9_kth_108 ?_
        refine x_if_eq C (tgt := 159) dX9_kth_111 (by decide) (fun c23 => ?_) (fun c23 => ?_)
        · have h := ifP h c23
          refine x_iconst C (v := 0) dX9_kth_159 (by decide) ?_
          refine x_wk [true, true, true, true, true, true, true, true] (lo' := [some (.ref v0), some (.int v1), some (.int v2), some (.int v3), some (.int v4), some (.int v5), some (.int v6), some (.int v7)]) rfl ?_
          obtain rfl := Option.some.inj h
          exact hJ19
        · have h := ifN h c23
          refine x_aload_n C (i := 0) dX9_kth_114 rfl rfl ?_
          obtain ⟨x24, ex24, h⟩ := ob h
          refine x_getR C fl_X9_30 dX9_kth_115 ex24 ?_
          refine x_aload_n C (i := 0) dX9_kth_118 rfl rfl ?_
          refine x_iload C (i := 5) dX9_kth_119 rfl ?_
          refine x_iload C (i := 7) dX9_kth_121 rfl ?_
          obtain ⟨r25, er25, h⟩ := ob h
          refine x_callVr C Z mv_X9_behind lk_X9_199 (rv_h er25) (ct_X9_behind er25) (by decide) rfl rfl (Nat.le_of_ble_eq_true rfl) dX9_kth_123 ?_
          obtain ⟨x26, ex26, h⟩ := ob h
          refine x_iald C dX9_kth_126 ex26 ?_
          refine x_aload_n C (i := 0) dX9_kth_127 rfl rfl ?_
          obtain ⟨x27, ex27, h⟩ := ob h
          refine x_getR C fl_X9_30 dX9_kth_128 ex27 ?_
          refine x_iload C (i := 5) dX9_kth_131 rfl ?_
          obtain ⟨x28, ex28, h⟩ := ob h
          refine x_iald C dX9_kth_133 ex28 ?_
          refine x_iconst C (v := 1) dX9_kth_134 (by decide) ?_
          refine x_iadd C dX9_kth_135 ?_
          refine x_icmp_ne C (tgt := 159) dX9_kth_136 (by decide) (fun c29 => ?_) (fun c29 => ?_)
          · have h := ifN h c29
            refine x_iconst C (v := 0) dX9_kth_159 (by decide) ?_
            refine x_wk [true, true, true, true, true, true, true, true] (lo' := [some (.ref v0), some (.int v1), some (.int v2), some (.int v3), some (.int v4), some (.int v5), some (.int v6), some (.int v7)]) rfl ?_
            obtain rfl := Option.some.inj h
            exact hJ19
          · have h := ifP h c29
            refine x_aload_n C (i := 0) dX9_kth_139 rfl rfl ?_
            obtain ⟨x30, ex30, h⟩ := ob h
            refine x_getR C fl_X9_36 dX9_kth_140 ex30 ?_
            refine x_aload_n C (i := 0) dX9_kth_143 rfl rfl ?_
            refine x_iload C (i := 5) dX9_kth_144 rfl ?_
            refine x_iload C (i := 7) dX9_kth_146 rfl ?_
            obtain ⟨r31, er31, h⟩ := ob h
            refine x_callVr C Z mv_X9_behind lk_X9_199 (rv_h er31) (ct_X9_behind er31) (by decide) rfl rfl (Nat.le_of_ble_eq_true rfl) dX9_kth_148 ?_
            obtain ⟨x32, ex32, h⟩ := ob h
            refine x_zald C dX9_kth_151 ex32 ?_
            refine x_if_eq C (tgt := 159) dX9_kth_152 (by decide) (fun c33 => ?_) (fun c33 => ?_)
            · have h := ifP h c33
              refine x_iconst C (v := 0) dX9_kth_159 (by decide) ?_
              refine x_wk [true, true, true, true, true, true, true, true] (lo' := [some (.ref v0), some (.int v1), some (.int v2), some (.int v3), some (.int v4), some (.int v5), some (.int v6), some (.int v7)]) rfl ?_
              obtain rfl := Option.some.inj h
              exact hJ19
            · have h := ifN h c33
              refine x_iconst C (v := 1) dX9_kth_155 (by decide) ?_
              refine x_goto C (tgt := 160) dX9_kth_156 (by decide) ?_
              refine x_wk [true, true, true, true, true, true, true, true] (lo' := [some (.ref v0), some (.int v1), some (.int v2), some (.int v3), some (.int v4), some (.int v5), some (.int v6), some (.int v7)]) rfl ?_
              obtain rfl := Option.some.inj h
              exact hJ19
set_option maxHeartbeats 4000000 in
set_option maxRecDepth 100000 in
theorem lp_X9_kth_8 {κ : Kx} {ω : Om} (C : Cx κ 8 4 cX9_kth RX9 "kth") (Z : Zx κ ω) (v0 : Nat) (v1 : Int32) (v2 : Int32) (v3 : Int32) {r : Hp} (hk : X κ 8 ω 173 [some (.ref v0), none, none, some (.int v3), none, none, none, none] [] r) : ∀ (n : Nat) (σ : Hp) (v4 : Int32), L_X9_kth_8 ω.1 v0 v1 v2 v3 n σ v4 = some r → X κ 8 ω 8 [some (.ref v0), some (.int v1), some (.int v2), some (.int v3), some (.int v4), none, none, none] [] σ := by
  intro n
  induction n with
  | zero => intro σ v4 h; cases h
  | succ n ih =>
    intro σ v4 h
    rw [L_X9_kth_8.eq_2] at h
    refine x_iload C (i := 4) dX9_kth_8 rfl ?_
    refine x_if_lt C (tgt := 173) dX9_kth_10 (by decide) (fun c2 => ?_) (fun c2 => ?_)
    · have h := ifP h c2
      refine x_wk [true, false, false, true, false, false, false, false] (lo' := [some (.ref v0), none, none, some (.int v3), none, none, none, none]) rfl ?_
      obtain rfl := Option.some.inj h
      exact hk
    · have h := ifN h c2
      refine x_aload_n C (i := 0) dX9_kth_13 rfl rfl ?_
      obtain ⟨x3, ex3, h⟩ := ob h
      refine x_getR C fl_X9_33 dX9_kth_14 ex3 ?_
      refine x_iload C (i := 4) dX9_kth_17 rfl ?_
      obtain ⟨x4, ex4, h⟩ := ob h
      refine x_iald C dX9_kth_19 ex4 ?_
      refine x_istore C (i := 5) (lo' := [some (.ref v0), some (.int v1), some (.int v2), some (.int v3), some (.int v4), some (.int x4), none, none]) dX9_kth_20 (by decide) rfl rfl ?_
      refine x_aload_n C (i := 0) dX9_kth_22 rfl rfl ?_
      obtain ⟨x5, ex5, h⟩ := ob h
      refine x_getR C fl_X9_36 dX9_kth_23 ex5 ?_
      refine x_iload C (i := 5) dX9_kth_26 rfl ?_
      refine x_aload_n C (i := 0) dX9_kth_28 rfl rfl ?_
      obtain ⟨x6, ex6, h⟩ := ob h
      refine x_getR C fl_X9_30 dX9_kth_29 ex6 ?_
      refine x_iload C (i := 5) dX9_kth_32 rfl ?_
      obtain ⟨x7, ex7, h⟩ := ob h
      refine x_iald C dX9_kth_34 ex7 ?_
      refine x_iload_n C (i := 2) dX9_kth_35 rfl rfl ?_
      obtain ⟨z8, hz8, h⟩ := ob h
      have hJ39 : X κ 8 ω 54 [some (.ref v0), some (.int v1), some (.int v2), some (.int v3), some (.int v4), some (.int x4), none, none] [.int z8, .int x4, .ref x5] σ := by
        obtain ⟨σ9, eσ9, h⟩ := ob h
        refine x_zast C dX9_kth_54 eσ9 ?_
        refine x_aload_n C (i := 0) dX9_kth_55 rfl rfl ?_
        obtain ⟨x10, ex10, h⟩ := ob h
        refine x_getR C fl_X9_30 dX9_kth_56 ex10 ?_
        refine x_iload C (i := 5) dX9_kth_59 rfl ?_
        obtain ⟨x11, ex11, h⟩ := ob h
        refine x_iald C dX9_kth_61 ex11 ?_
        refine x_iload_n C (i := 2) dX9_kth_62 rfl rfl ?_
        obtain ⟨z12, hz12, h⟩ := ob h
        have hJ35 : X κ 8 ω 76 [some (.ref v0), some (.int v1), some (.int v2), some (.int v3), some (.int v4), some (.int x4), none, none] [.int z12] σ9 := by
          refine x_istore C (i := 6) (lo' := [some (.ref v0), some (.int v1), some (.int v2), some (.int v3), some (.int v4), some (.int x4), some (.int z12), none]) dX9_kth_76 (by decide) rfl rfl ?_
          refine x_iconst C (v := 0) dX9_kth_78 (by decide) ?_
          refine x_istore C (i := 7) (lo' := [some (.ref v0), some (.int v1), some (.int v2), some (.int v3), some (.int v4), some (.int x4), some (.int z12), some (.int 0)]) dX9_kth_79 (by decide) rfl rfl ?_
          obtain ⟨z34, ez34, h⟩ := ob h
          refine x_wk [true, true, true, true, true, true, true, true] (lo' := [some (.ref v0), some (.int v1), some (.int v2), some (.int v3), some (.int v4), some (.int x4), some (.int z12), some (.int 0)]) rfl ?_
          refine lp_X9_kth_81 C Z v0 v1 v2 v3 v4 x4 z12 ?_ _ σ9 0 ez34
          refine x_iinc C (i := 4) (y := v4 + (-1)) (lo' := [some (.ref v0), some (.int v1), some (.int v2), some (.int v3), some (.int (v4 + (-1))), none, none, none]) dX9_kth_167 rfl rfl (by decide) rfl rfl ?_
          refine x_goto C (tgt := 8) dX9_kth_170 (by decide) ?_
          refine x_wk [true, true, true, true, true, false, false, false] (lo' := [some (.ref v0), some (.int v1), some (.int v2), some (.int v3), some (.int (v4 + (-1))), none, none, none]) rfl ?_
          exact ih z34 (v4 + (-1)) h
        clear h
        have h := hz12
        refine x_icmp_ge C (tgt := 75) dX9_kth_63 (by decide) (fun c37 => ?_) (fun c37 => ?_)
        · have h := ifP h c37
          refine x_iconst C (v := 0) dX9_kth_75 (by decide) ?_
          refine x_wk [true, true, true, true, true, true, false, false] (lo' := [some (.ref v0), some (.int v1), some (.int v2), some (.int v3), some (.int v4), some (.int x4), none, none]) rfl ?_
          obtain rfl := Option.some.inj h
          exact hJ35
        · have h := ifN h c37
          refine x_aload_n C (i := 0) dX9_kth_66 rfl rfl ?_
          refine x_iload C (i := 5) dX9_kth_67 rfl ?_
          obtain ⟨r38, er38, h⟩ := ob h
          refine x_callVr C Z mv_X9_movesOf lk_X9_190 (rv_h er38) (ct_X9_movesOf er38) (by decide) rfl rfl (Nat.le_of_ble_eq_true rfl) dX9_kth_69 ?_
          refine x_goto C (tgt := 76) dX9_kth_72 (by decide) ?_
          refine x_wk [true, true, true, true, true, true, false, false] (lo' := [some (.ref v0), some (.int v1), some (.int v2), some (.int v3), some (.int v4), some (.int x4), none, none]) rfl ?_
          obtain rfl := Option.some.inj h
          exact hJ35
      clear h
      have h := hz8
      refine x_icmp_ne C (tgt := 53) dX9_kth_36 (by decide) (fun c41 => ?_) (fun c41 => ?_)
      · have h := ifN h c41
        refine x_iconst C (v := 0) dX9_kth_53 (by decide) ?_
        refine x_wk [true, true, true, true, true, true, false, false] (lo' := [some (.ref v0), some (.int v1), some (.int v2), some (.int v3), some (.int v4), some (.int x4), none, none]) rfl ?_
        obtain rfl := Option.some.inj h
        exact hJ39
      · have h := ifP h c41
        refine x_iload C (i := 5) dX9_kth_39 rfl ?_
        refine x_sipush C (v := 4096) dX9_kth_41 (by decide) ?_
        refine x_irem C dX9_kth_44 (by decide) ?_
        refine x_iload_n C (i := 1) dX9_kth_45 rfl rfl ?_
        refine x_icmp_ne C (tgt := 53) dX9_kth_46 (by decide) (fun c42 => ?_) (fun c42 => ?_)
        · have h := ifN h c42
          refine x_iconst C (v := 0) dX9_kth_53 (by decide) ?_
          refine x_wk [true, true, true, true, true, true, false, false] (lo' := [some (.ref v0), some (.int v1), some (.int v2), some (.int v3), some (.int v4), some (.int x4), none, none]) rfl ?_
          obtain rfl := Option.some.inj h
          exact hJ39
        · have h := ifP h c42
          refine x_iconst C (v := 1) dX9_kth_49 (by decide) ?_
          refine x_goto C (tgt := 54) dX9_kth_50 (by decide) ?_
          refine x_wk [true, true, true, true, true, true, false, false] (lo' := [some (.ref v0), some (.int v1), some (.int v2), some (.int v3), some (.int v4), some (.int x4), none, none]) rfl ?_
          obtain rfl := Option.some.inj h
          exact hJ39
set_option maxHeartbeats 4000000 in
set_option maxRecDepth 100000 in
theorem lp_X9_kth_204 {κ : Kx} {ω : Om} (C : Cx κ 8 4 cX9_kth RX9 "kth") (Z : Zx κ ω) (σ : Hp) (v0 : Nat) (v3 : Int32) (v4 : Int32) (v6 : Int32) (v7 : Int32) {r : Int32} (hk : X κ 8 ω 256 [some (.ref v0), none, none, some (.int v3), some (.int v4), some (.int r), some (.int v6), none] [] σ) : ∀ (n : Nat) (v5 : Int32), L_X9_kth_204 ω.1 σ v0 v3 v4 v6 v7 n v5 = some r → X κ 8 ω 204 [some (.ref v0), none, none, some (.int v3), some (.int v4), some (.int v5), some (.int v6), some (.int v7)] [] σ := by
  intro n
  induction n with
  | zero => intro v5 h; cases h
  | succ n ih =>
    intro v5 h
    rw [L_X9_kth_204.eq_2] at h
    refine x_iload C (i := 7) dX9_kth_204 rfl ?_
    refine x_iload C (i := 5) dX9_kth_206 rfl ?_
    obtain ⟨r48, er48, h⟩ := ob h
    refine x_callSr C Z ms_X9_has lk_X9_138 (ct_X9_has (N := ω.1) (σ := σ) er48) (by decide) rfl rfl (Nat.le_of_ble_eq_true rfl) dX9_kth_208 ?_
    refine x_if_eq C (tgt := 250) dX9_kth_211 (by decide) (fun c49 => ?_) (fun c49 => ?_)
    · have h := ifP h c49
      refine x_iinc C (i := 5) (y := v5 + 1) (lo' := [some (.ref v0), none, none, some (.int v3), some (.int v4), some (.int (v5 + 1)), some (.int v6), some (.int v7)]) dX9_kth_250 rfl rfl (by decide) rfl rfl ?_
      refine x_goto C (tgt := 204) dX9_kth_253 (by decide) ?_
      refine x_wk [true, false, false, true, true, true, true, true] (lo' := [some (.ref v0), none, none, some (.int v3), some (.int v4), some (.int (v5 + 1)), some (.int v6), some (.int v7)]) rfl ?_
      exact ih (v5 + 1) h
    · have h := ifN h c49
      refine x_aload_n C (i := 0) dX9_kth_214 rfl rfl ?_
      obtain ⟨x50, ex50, h⟩ := ob h
      refine x_getR C fl_X9_30 dX9_kth_215 ex50 ?_
      refine x_aload_n C (i := 0) dX9_kth_218 rfl rfl ?_
      refine x_iload C (i := 4) dX9_kth_219 rfl ?_
      refine x_iload C (i := 5) dX9_kth_221 rfl ?_
      obtain ⟨r51, er51, h⟩ := ob h
      refine x_callVr C Z mv_X9_behind lk_X9_199 (rv_h er51) (ct_X9_behind er51) (by decide) rfl rfl (Nat.le_of_ble_eq_true rfl) dX9_kth_223 ?_
      obtain ⟨x52, ex52, h⟩ := ob h
      refine x_iald C dX9_kth_226 ex52 ?_
      refine x_iload C (i := 6) dX9_kth_227 rfl ?_
      refine x_iconst C (v := 1) dX9_kth_229 (by decide) ?_
      refine x_iadd C dX9_kth_230 ?_
      refine x_icmp_ne C (tgt := 250) dX9_kth_231 (by decide) (fun c53 => ?_) (fun c53 => ?_)
      · have h := ifN h c53
        refine x_iinc C (i := 5) (y := v5 + 1) (lo' := [some (.ref v0), none, none, some (.int v3), some (.int v4), some (.int (v5 + 1)), some (.int v6), some (.int v7)]) dX9_kth_250 rfl rfl (by decide) rfl rfl ?_
        refine x_goto C (tgt := 204) dX9_kth_253 (by decide) ?_
        refine x_wk [true, false, false, true, true, true, true, true] (lo' := [some (.ref v0), none, none, some (.int v3), some (.int v4), some (.int (v5 + 1)), some (.int v6), some (.int v7)]) rfl ?_
        exact ih (v5 + 1) h
      · have h := ifP h c53
        refine x_aload_n C (i := 0) dX9_kth_234 rfl rfl ?_
        obtain ⟨x54, ex54, h⟩ := ob h
        refine x_getR C fl_X9_36 dX9_kth_235 ex54 ?_
        refine x_aload_n C (i := 0) dX9_kth_238 rfl rfl ?_
        refine x_iload C (i := 4) dX9_kth_239 rfl ?_
        refine x_iload C (i := 5) dX9_kth_241 rfl ?_
        obtain ⟨r55, er55, h⟩ := ob h
        refine x_callVr C Z mv_X9_behind lk_X9_199 (rv_h er55) (ct_X9_behind er55) (by decide) rfl rfl (Nat.le_of_ble_eq_true rfl) dX9_kth_243 ?_
        obtain ⟨x56, ex56, h⟩ := ob h
        refine x_zald C dX9_kth_246 ex56 ?_
        refine x_if_ne C (tgt := 256) dX9_kth_247 (by decide) (fun c57 => ?_) (fun c57 => ?_)
        · have h := ifN h c57
          refine x_wk [true, false, false, true, true, true, true, false] (lo' := [some (.ref v0), none, none, some (.int v3), some (.int v4), some (.int v5), some (.int v6), none]) rfl ?_
          obtain rfl := Option.some.inj h
          exact hk
        · have h := ifP h c57
          refine x_iinc C (i := 5) (y := v5 + 1) (lo' := [some (.ref v0), none, none, some (.int v3), some (.int v4), some (.int (v5 + 1)), some (.int v6), some (.int v7)]) dX9_kth_250 rfl rfl (by decide) rfl rfl ?_
          refine x_goto C (tgt := 204) dX9_kth_253 (by decide) ?_
          refine x_wk [true, false, false, true, true, true, true, true] (lo' := [some (.ref v0), none, none, some (.int v3), some (.int v4), some (.int (v5 + 1)), some (.int v6), some (.int v7)]) rfl ?_
          exact ih (v5 + 1) h
set_option maxHeartbeats 4000000 in
set_option maxRecDepth 100000 in
theorem lp_X9_kth_187 {κ : Kx} {ω : Om} (C : Cx κ 8 4 cX9_kth RX9 "kth") (Z : Zx κ ω) (σ : Hp) (v0 : Nat) (v3 : Int32) {r : Int32} (hk : X κ 8 ω 272 [none, none, none, none, none, some (.int r), none, none] [] σ) : ∀ (n : Nat) (v4 : Int32) (v5 : Int32) (v6 : Int32), L_X9_kth_187 ω.1 σ v0 v3 n v4 v5 v6 = some r → X κ 8 ω 187 [some (.ref v0), none, none, some (.int v3), some (.int v4), some (.int v5), some (.int v6), none] [] σ := by
  intro n
  induction n with
  | zero => intro v4 v5 v6 h; cases h
  | succ n ih =>
    intro v4 v5 v6 h
    rw [L_X9_kth_187.eq_2] at h
    refine x_iload C (i := 6) dX9_kth_187 rfl ?_
    refine x_iload_n C (i := 3) dX9_kth_189 rfl rfl ?_
    refine x_icmp_gt C (tgt := 272) dX9_kth_190 (by decide) (fun c46 => ?_) (fun c46 => ?_)
    · have h := ifP h c46
      refine x_wk [false, false, false, false, false, true, false, false] (lo' := [none, none, none, none, none, some (.int v5), none, none]) rfl ?_
      obtain rfl := Option.some.inj h
      exact hk
    · have h := ifN h c46
      refine x_aload_n C (i := 0) dX9_kth_193 rfl rfl ?_
      refine x_iload C (i := 4) dX9_kth_194 rfl ?_
      obtain ⟨r47, er47, h⟩ := ob h
      refine x_callVr C Z mv_X9_movesOf lk_X9_190 (rv_h er47) (ct_X9_movesOf er47) (by decide) rfl rfl (Nat.le_of_ble_eq_true rfl) dX9_kth_196 ?_
      refine x_istore C (i := 7) (lo' := [some (.ref v0), none, none, some (.int v3), some (.int v4), some (.int v5), some (.int v6), some (.int r47)]) dX9_kth_199 (by decide) rfl rfl ?_
      refine x_iconst C (v := 0) dX9_kth_201 (by decide) ?_
      refine x_istore C (i := 5) (lo' := [some (.ref v0), none, none, some (.int v3), some (.int v4), some (.int 0), some (.int v6), some (.int r47)]) dX9_kth_202 (by decide) rfl rfl ?_
      obtain ⟨z58, ez58, h⟩ := ob h
      refine x_wk [true, false, false, true, true, true, true, true] (lo' := [some (.ref v0), none, none, some (.int v3), some (.int v4), some (.int 0), some (.int v6), some (.int r47)]) rfl ?_
      refine lp_X9_kth_204 C Z σ v0 v3 v4 v6 r47 ?_ _ 0 ez58
      refine x_aload_n C (i := 0) dX9_kth_256 rfl rfl ?_
      refine x_iload C (i := 4) dX9_kth_257 rfl ?_
      refine x_iload C (i := 5) dX9_kth_259 rfl ?_
      obtain ⟨r59, er59, h⟩ := ob h
      refine x_callVr C Z mv_X9_behind lk_X9_199 (rv_h er59) (ct_X9_behind er59) (by decide) rfl rfl (Nat.le_of_ble_eq_true rfl) dX9_kth_261 ?_
      refine x_istore C (i := 4) (lo' := [some (.ref v0), none, none, some (.int v3), some (.int r59), some (.int z58), some (.int v6), none]) dX9_kth_264 (by decide) rfl rfl ?_
      refine x_iinc C (i := 6) (y := v6 + 1) (lo' := [some (.ref v0), none, none, some (.int v3), some (.int r59), some (.int z58), some (.int (v6 + 1)), none]) dX9_kth_266 rfl rfl (by decide) rfl rfl ?_
      refine x_goto C (tgt := 187) dX9_kth_269 (by decide) ?_
      refine x_wk [true, false, false, true, true, true, true, false] (lo' := [some (.ref v0), none, none, some (.int v3), some (.int r59), some (.int z58), some (.int (v6 + 1)), none]) rfl ?_
      exact ih r59 z58 (v6 + 1) h
set_option maxHeartbeats 4000000 in
set_option maxRecDepth 100000 in
theorem ct_X9_kth {l : Launch} {D : va_G} {cy : Nat → Nat} {N : Nat} {σ : Hp} {t0 : Nat} {p1 : Int32} {p2 : Int32} {p3 : Int32} {r : Int32 × Hp} (h : m_X9_kth N σ t0 p1 p2 p3 = some r) : Ct l D cy yX9_kth cX9_kth 8 (some .int) 4 [.ref t0, .int p1, .int p2, .int p3] N σ (fun v s' => v = (some (.int r.1)) ∧ s' = r.2) := by
  refine Ct.intro [some (.ref t0), some (.int p1), some (.int p2), some (.int p3), none, none, none, none] (by decide) rfl (Nat.le_of_ble_eq_true rfl) ?_
  intro κ ω e1 e2 e3 e4 C Z E
  subst e1; subst e2; subst e3; subst e4
  have C : Cx κ 8 4 cX9_kth RX9 "kth" := C
  have hE : ∀ x : Int32 × Hp, r = x → ((some (Value.int x.1)) = (some (Value.int r.1)) ∧ x.2 = r.2) := fun x hx => by subst hx; exact ⟨rfl, rfl⟩
  unfold m_X9_kth at h
  obtain ⟨_, _, h⟩ := ob h
  refine x_aload_n C (i := 0) dX9_kth_0 rfl rfl ?_
  obtain ⟨x1, ex1, h⟩ := ob h
  refine x_getI C fl_X9_196 dX9_kth_1 ex1 ?_
  refine x_iconst C (v := 1) dX9_kth_4 (by decide) ?_
  refine x_isub C dX9_kth_5 ?_
  refine x_istore C (i := 4) (lo' := [some (.ref t0), some (.int p1), some (.int p2), some (.int p3), some (.int (x1 - 1)), none, none, none]) dX9_kth_6 (by decide) rfl rfl ?_
  obtain ⟨z43, ez43, h⟩ := ob h
  refine x_wk [true, true, true, true, true, false, false, false] (lo' := [some (.ref t0), some (.int p1), some (.int p2), some (.int p3), some (.int (x1 - 1)), none, none, none]) rfl ?_
  refine lp_X9_kth_8 C Z t0 p1 p2 p3 ?_ _ σ (x1 - 1) ez43
  refine x_aload_n C (i := 0) dX9_kth_173 rfl rfl ?_
  obtain ⟨x44, ex44, h⟩ := ob h
  refine x_getR C fl_X9_33 dX9_kth_174 ex44 ?_
  refine x_iconst C (v := 0) dX9_kth_177 (by decide) ?_
  obtain ⟨x45, ex45, h⟩ := ob h
  refine x_iald C dX9_kth_178 ex45 ?_
  refine x_istore C (i := 4) (lo' := [some (.ref t0), none, none, some (.int p3), some (.int x45), none, none, none]) dX9_kth_179 (by decide) rfl rfl ?_
  refine x_iconst C (v := 0) dX9_kth_181 (by decide) ?_
  refine x_istore C (i := 5) (lo' := [some (.ref t0), none, none, some (.int p3), some (.int x45), some (.int 0), none, none]) dX9_kth_182 (by decide) rfl rfl ?_
  refine x_iconst C (v := 0) dX9_kth_184 (by decide) ?_
  refine x_istore C (i := 6) (lo' := [some (.ref t0), none, none, some (.int p3), some (.int x45), some (.int 0), some (.int 0), none]) dX9_kth_185 (by decide) rfl rfl ?_
  obtain ⟨z60, ez60, h⟩ := ob h
  refine x_wk [true, false, false, true, true, true, true, false] (lo' := [some (.ref t0), none, none, some (.int p3), some (.int x45), some (.int 0), some (.int 0), none]) rfl ?_
  refine lp_X9_kth_187 C Z z43 t0 p3 ?_ _ x45 0 0 ez60
  refine x_bipush C (v := 10) dX9_kth_272 (by decide) ?_
  refine x_iload C (i := 5) dX9_kth_274 rfl ?_
  refine x_iconst C (v := 4) dX9_kth_276 (by decide) ?_
  refine x_idiv C dX9_kth_277 (by decide) ?_
  refine x_imul C dX9_kth_278 ?_
  refine x_iload C (i := 5) dX9_kth_279 rfl ?_
  refine x_iconst C (v := 4) dX9_kth_281 (by decide) ?_
  refine x_irem C dX9_kth_282 (by decide) ?_
  refine x_iadd C dX9_kth_283 ?_
  exact x_iret C E dX9_kth_284 (hE (((10 : Int32) * (z60 / 4)) + (z60 - z60 / 4 * 4), z43) (Option.some.inj h).symm)
theorem dX9_leastTo_0 : decode cX9_leastTo 0 = .ok (.aload_n 0, 1) := by decide +kernel
theorem dX9_leastTo_1 : decode cX9_leastTo 1 = .ok (.invokevirtual 202, 3) := by decide +kernel
theorem dX9_leastTo_4 : decode cX9_leastTo 4 = .ok (.aload_n 0, 1) := by decide +kernel
theorem dX9_leastTo_5 : decode cX9_leastTo 5 = .ok (.iload_n 1, 1) := by decide +kernel
theorem dX9_leastTo_6 : decode cX9_leastTo 6 = .ok (.invokevirtual 205, 3) := by decide +kernel
theorem dX9_leastTo_9 : decode cX9_leastTo 9 = .ok (.istore_n 3, 1) := by decide +kernel
theorem dX9_leastTo_10 : decode cX9_leastTo 10 = .ok (.iload_n 3, 1) := by decide +kernel
theorem dX9_leastTo_11 : decode cX9_leastTo 11 = .ok (.ifCond .lt 8, 3) := by decide +kernel
theorem dX9_leastTo_14 : decode cX9_leastTo 14 = .ok (.iload_n 2, 1) := by decide +kernel
theorem dX9_leastTo_15 : decode cX9_leastTo 15 = .ok (.iload_n 3, 1) := by decide +kernel
theorem dX9_leastTo_16 : decode cX9_leastTo 16 = .ok (.if_icmp .lt 8, 3) := by decide +kernel
theorem dX9_leastTo_19 : decode cX9_leastTo 19 = .ok (.ldc 189, 2) := by decide +kernel
theorem dX9_leastTo_21 : decode cX9_leastTo 21 = .ok (.goto 18, 3) := by decide +kernel
theorem dX9_leastTo_24 : decode cX9_leastTo 24 = .ok (.iload_n 2, 1) := by decide +kernel
theorem dX9_leastTo_25 : decode cX9_leastTo 25 = .ok (.ifCond .ge 7, 3) := by decide +kernel
theorem dX9_leastTo_28 : decode cX9_leastTo 28 = .ok (.iload_n 3, 1) := by decide +kernel
theorem dX9_leastTo_29 : decode cX9_leastTo 29 = .ok (.goto 10, 3) := by decide +kernel
theorem dX9_leastTo_32 : decode cX9_leastTo 32 = .ok (.aload_n 0, 1) := by decide +kernel
theorem dX9_leastTo_33 : decode cX9_leastTo 33 = .ok (.iload_n 1, 1) := by decide +kernel
theorem dX9_leastTo_34 : decode cX9_leastTo 34 = .ok (.iload_n 3, 1) := by decide +kernel
theorem dX9_leastTo_35 : decode cX9_leastTo 35 = .ok (.iload_n 2, 1) := by decide +kernel
theorem dX9_leastTo_36 : decode cX9_leastTo 36 = .ok (.invokevirtual 208, 3) := by decide +kernel
theorem dX9_leastTo_39 : decode cX9_leastTo 39 = .ok (.ireturn, 1) := by decide +kernel
def m_X9_leastTo (N : Nat) (σ : Hp) (t0 : Nat) (p1 : Int32) (p2 : Int32) : Option (Int32 × Hp) :=
  (rv N σ t0 9).bind fun _ =>
  (m_X9_spreads N σ t0).bind fun r1 =>
  (m_X9_farTo N r1 t0 p1).bind fun r2 =>
  if r2 < 0 then
   some ((-1000000), r1)
  else
   if p2 < r2 then
   if 0 ≤ p2 then
   (m_X9_kth N r1 t0 p1 r2 p2).bind fun r6 =>
  some (r6.1, r6.2)
  else
   some (r2, r1)
  else
   some ((-1000000), r1)
set_option maxHeartbeats 4000000 in
set_option maxRecDepth 100000 in
theorem ct_X9_leastTo {l : Launch} {D : va_G} {cy : Nat → Nat} {N : Nat} {σ : Hp} {t0 : Nat} {p1 : Int32} {p2 : Int32} {r : Int32 × Hp} (h : m_X9_leastTo N σ t0 p1 p2 = some r) : Ct l D cy yX9_leastTo cX9_leastTo 4 (some .int) 5 [.ref t0, .int p1, .int p2] N σ (fun v s' => v = (some (.int r.1)) ∧ s' = r.2) := by
  refine Ct.intro [some (.ref t0), some (.int p1), some (.int p2), none] (by decide) rfl (Nat.le_of_ble_eq_true rfl) ?_
  intro κ ω e1 e2 e3 e4 C Z E
  subst e1; subst e2; subst e3; subst e4
  have C : Cx κ 4 5 cX9_leastTo RX9 "leastTo" := C
  have hE : ∀ x : Int32 × Hp, r = x → ((some (Value.int x.1)) = (some (Value.int r.1)) ∧ x.2 = r.2) := fun x hx => by subst hx; exact ⟨rfl, rfl⟩
  unfold m_X9_leastTo at h
  obtain ⟨_, _, h⟩ := ob h
  refine x_aload_n C (i := 0) dX9_leastTo_0 rfl rfl ?_
  obtain ⟨r1, er1, h⟩ := ob h
  refine x_callVn C Z mv_X9_spreads lk_X9_202 (rv_h er1) (ct_X9_spreads er1) (by decide) rfl rfl (Nat.le_of_ble_eq_true rfl) dX9_leastTo_1 ?_
  refine x_aload_n C (i := 0) dX9_leastTo_4 rfl rfl ?_
  refine x_iload_n C (i := 1) dX9_leastTo_5 rfl rfl ?_
  obtain ⟨r2, er2, h⟩ := ob h
  refine x_callVr C Z mv_X9_farTo lk_X9_205 (rv_h er2) (ct_X9_farTo er2) (by decide) rfl rfl (Nat.le_of_ble_eq_true rfl) dX9_leastTo_6 ?_
  refine x_istore_n C (i := 3) (lo' := [some (.ref t0), some (.int p1), some (.int p2), some (.int r2)]) dX9_leastTo_9 rfl (by decide) rfl rfl ?_
  refine x_iload_n C (i := 3) dX9_leastTo_10 rfl rfl ?_
  refine x_if_lt C (tgt := 19) dX9_leastTo_11 (by decide) (fun c3 => ?_) (fun c3 => ?_)
  · have h := ifP h c3
    refine x_ldc C kc_X9_189 dX9_leastTo_19 ?_
    refine x_goto C (tgt := 39) dX9_leastTo_21 (by decide) ?_
    exact x_iret C E dX9_leastTo_39 (hE ((-1000000), r1) (Option.some.inj h).symm)
  · have h := ifN h c3
    refine x_iload_n C (i := 2) dX9_leastTo_14 rfl rfl ?_
    refine x_iload_n C (i := 3) dX9_leastTo_15 rfl rfl ?_
    refine x_icmp_lt C (tgt := 24) dX9_leastTo_16 (by decide) (fun c4 => ?_) (fun c4 => ?_)
    · have h := ifP h c4
      refine x_iload_n C (i := 2) dX9_leastTo_24 rfl rfl ?_
      refine x_if_ge C (tgt := 32) dX9_leastTo_25 (by decide) (fun c5 => ?_) (fun c5 => ?_)
      · have h := ifP h c5
        refine x_aload_n C (i := 0) dX9_leastTo_32 rfl rfl ?_
        refine x_iload_n C (i := 1) dX9_leastTo_33 rfl rfl ?_
        refine x_iload_n C (i := 3) dX9_leastTo_34 rfl rfl ?_
        refine x_iload_n C (i := 2) dX9_leastTo_35 rfl rfl ?_
        obtain ⟨r6, er6, h⟩ := ob h
        refine x_callVr C Z mv_X9_kth lk_X9_208 (rv_h er6) (ct_X9_kth er6) (by decide) rfl rfl (Nat.le_of_ble_eq_true rfl) dX9_leastTo_36 ?_
        exact x_iret C E dX9_leastTo_39 (hE (r6.1, r6.2) (Option.some.inj h).symm)
      · have h := ifN h c5
        refine x_iload_n C (i := 3) dX9_leastTo_28 rfl rfl ?_
        refine x_goto C (tgt := 39) dX9_leastTo_29 (by decide) ?_
        exact x_iret C E dX9_leastTo_39 (hE (r2, r1) (Option.some.inj h).symm)
    · have h := ifN h c4
      refine x_ldc C kc_X9_189 dX9_leastTo_19 ?_
      refine x_goto C (tgt := 39) dX9_leastTo_21 (by decide) ?_
      exact x_iret C E dX9_leastTo_39 (hE ((-1000000), r1) (Option.some.inj h).symm)
theorem dX9_wrongOf_0 : decode cX9_wrongOf 0 = .ok (.aload_n 0, 1) := by decide +kernel
theorem dX9_wrongOf_1 : decode cX9_wrongOf 1 = .ok (.getfield 13, 3) := by decide +kernel
theorem dX9_wrongOf_4 : decode cX9_wrongOf 4 = .ok (.iload_n 1, 1) := by decide +kernel
theorem dX9_wrongOf_5 : decode cX9_wrongOf 5 = .ok (.iaload, 1) := by decide +kernel
theorem dX9_wrongOf_6 : decode cX9_wrongOf 6 = .ok (.ifCond .ge 7, 3) := by decide +kernel
theorem dX9_wrongOf_9 : decode cX9_wrongOf 9 = .ok (.iconst 1, 1) := by decide +kernel
theorem dX9_wrongOf_10 : decode cX9_wrongOf 10 = .ok (.goto 18, 3) := by decide +kernel
theorem dX9_wrongOf_13 : decode cX9_wrongOf 13 = .ok (.aload_n 0, 1) := by decide +kernel
theorem dX9_wrongOf_14 : decode cX9_wrongOf 14 = .ok (.iload_n 1, 1) := by decide +kernel
theorem dX9_wrongOf_15 : decode cX9_wrongOf 15 = .ok (.iload_n 2, 1) := by decide +kernel
theorem dX9_wrongOf_16 : decode cX9_wrongOf 16 = .ok (.iload_n 3, 1) := by decide +kernel
theorem dX9_wrongOf_17 : decode cX9_wrongOf 17 = .ok (.invokevirtual 78, 3) := by decide +kernel
theorem dX9_wrongOf_20 : decode cX9_wrongOf 20 = .ok (.ifCond .ne 7, 3) := by decide +kernel
theorem dX9_wrongOf_23 : decode cX9_wrongOf 23 = .ok (.iconst 2, 1) := by decide +kernel
theorem dX9_wrongOf_24 : decode cX9_wrongOf 24 = .ok (.goto 4, 3) := by decide +kernel
theorem dX9_wrongOf_27 : decode cX9_wrongOf 27 = .ok (.iconst 0, 1) := by decide +kernel
theorem dX9_wrongOf_28 : decode cX9_wrongOf 28 = .ok (.ireturn, 1) := by decide +kernel
def m_X9_wrongOf (N : Nat) (σ : Hp) (t0 : Nat) (p1 : Int32) (p2 : Int32) (p3 : Int32) : Option (Int32) :=
  (rv N σ t0 9).bind fun _ =>
  (gR N σ t0 9 1).bind fun x1 =>
  (aI 0 N σ x1 p1).bind fun x2 =>
  if 0 ≤ x2 then
   (m_X9_isWithin N σ t0 p1 p2 p3).bind fun r4 =>
  if r4 = 0 then
   some 2
  else
   some 0
  else
   some 1
set_option maxHeartbeats 4000000 in
set_option maxRecDepth 100000 in
theorem ct_X9_wrongOf {l : Launch} {D : va_G} {cy : Nat → Nat} {N : Nat} {σ : Hp} {t0 : Nat} {p1 : Int32} {p2 : Int32} {p3 : Int32} {r : Int32} (h : m_X9_wrongOf N σ t0 p1 p2 p3 = some r) : Ct l D cy yX9_wrongOf cX9_wrongOf 4 (some .int) 2 [.ref t0, .int p1, .int p2, .int p3] N σ (fun v s' => v = (some (.int r)) ∧ s' = σ) := by
  refine Ct.intro [some (.ref t0), some (.int p1), some (.int p2), some (.int p3)] (by decide) rfl (Nat.le_of_ble_eq_true rfl) ?_
  intro κ ω e1 e2 e3 e4 C Z E
  subst e1; subst e2; subst e3; subst e4
  have C : Cx κ 4 2 cX9_wrongOf RX9 "wrongOf" := C
  have hE : ∀ x : Int32, r = x → ((some (Value.int x)) = (some (Value.int r)) ∧ σ = σ) := fun x hx => by subst hx; exact ⟨rfl, rfl⟩
  unfold m_X9_wrongOf at h
  obtain ⟨_, _, h⟩ := ob h
  refine x_aload_n C (i := 0) dX9_wrongOf_0 rfl rfl ?_
  obtain ⟨x1, ex1, h⟩ := ob h
  refine x_getR C fl_X9_13 dX9_wrongOf_1 ex1 ?_
  refine x_iload_n C (i := 1) dX9_wrongOf_4 rfl rfl ?_
  obtain ⟨x2, ex2, h⟩ := ob h
  refine x_iald C dX9_wrongOf_5 ex2 ?_
  refine x_if_ge C (tgt := 13) dX9_wrongOf_6 (by decide) (fun c3 => ?_) (fun c3 => ?_)
  · have h := ifP h c3
    refine x_aload_n C (i := 0) dX9_wrongOf_13 rfl rfl ?_
    refine x_iload_n C (i := 1) dX9_wrongOf_14 rfl rfl ?_
    refine x_iload_n C (i := 2) dX9_wrongOf_15 rfl rfl ?_
    refine x_iload_n C (i := 3) dX9_wrongOf_16 rfl rfl ?_
    obtain ⟨r4, er4, h⟩ := ob h
    refine x_callVr C Z mv_X9_isWithin lk_X9_78 (rv_h er4) (ct_X9_isWithin er4) (by decide) rfl rfl (Nat.le_of_ble_eq_true rfl) dX9_wrongOf_17 ?_
    refine x_if_ne C (tgt := 27) dX9_wrongOf_20 (by decide) (fun c5 => ?_) (fun c5 => ?_)
    · have h := ifN h c5
      refine x_iconst C (v := 0) dX9_wrongOf_27 (by decide) ?_
      exact x_iret C E dX9_wrongOf_28 (hE 0 (Option.some.inj h).symm)
    · have h := ifP h c5
      refine x_iconst C (v := 2) dX9_wrongOf_23 (by decide) ?_
      refine x_goto C (tgt := 28) dX9_wrongOf_24 (by decide) ?_
      exact x_iret C E dX9_wrongOf_28 (hE 2 (Option.some.inj h).symm)
  · have h := ifN h c3
    refine x_iconst C (v := 1) dX9_wrongOf_9 (by decide) ?_
    refine x_goto C (tgt := 28) dX9_wrongOf_10 (by decide) ?_
    exact x_iret C E dX9_wrongOf_28 (hE 1 (Option.some.inj h).symm)
theorem dX9_told_0 : decode cX9_told 0 = .ok (.iconst 0, 1) := by decide +kernel
theorem dX9_told_1 : decode cX9_told 1 = .ok (.istore_n 3, 1) := by decide +kernel
theorem dX9_told_2 : decode cX9_told 2 = .ok (.aload_n 0, 1) := by decide +kernel
theorem dX9_told_3 : decode cX9_told 3 = .ok (.getfield 23, 3) := by decide +kernel
theorem dX9_told_6 : decode cX9_told 6 = .ok (.iconst 2, 1) := by decide +kernel
theorem dX9_told_7 : decode cX9_told 7 = .ok (.iaload, 1) := by decide +kernel
theorem dX9_told_8 : decode cX9_told 8 = .ok (.iconst 1, 1) := by decide +kernel
theorem dX9_told_9 : decode cX9_told 9 = .ok (.isub, 1) := by decide +kernel
theorem dX9_told_10 : decode cX9_told 10 = .ok (.istore 4, 2) := by decide +kernel
theorem dX9_told_12 : decode cX9_told 12 = .ok (.iload 4, 2) := by decide +kernel
theorem dX9_told_14 : decode cX9_told 14 = .ok (.ifCond .lt 49, 3) := by decide +kernel
theorem dX9_told_17 : decode cX9_told 17 = .ok (.aload_n 0, 1) := by decide +kernel
theorem dX9_told_18 : decode cX9_told 18 = .ok (.getfield 7, 3) := by decide +kernel
theorem dX9_told_21 : decode cX9_told 21 = .ok (.bipush 40, 2) := by decide +kernel
theorem dX9_told_23 : decode cX9_told 23 = .ok (.iload_n 1, 1) := by decide +kernel
theorem dX9_told_24 : decode cX9_told 24 = .ok (.imul, 1) := by decide +kernel
theorem dX9_told_25 : decode cX9_told 25 = .ok (.iload_n 2, 1) := by decide +kernel
theorem dX9_told_26 : decode cX9_told 26 = .ok (.iadd, 1) := by decide +kernel
theorem dX9_told_27 : decode cX9_told 27 = .ok (.iload 4, 2) := by decide +kernel
theorem dX9_told_29 : decode cX9_told 29 = .ok (.iadd, 1) := by decide +kernel
theorem dX9_told_30 : decode cX9_told 30 = .ok (.iaload, 1) := by decide +kernel
theorem dX9_told_31 : decode cX9_told 31 = .ok (.istore 5, 2) := by decide +kernel
theorem dX9_told_33 : decode cX9_told 33 = .ok (.iload_n 3, 1) := by decide +kernel
theorem dX9_told_34 : decode cX9_told 34 = .ok (.ifCond .lt 12, 3) := by decide +kernel
theorem dX9_told_37 : decode cX9_told 37 = .ok (.aload_n 0, 1) := by decide +kernel
theorem dX9_told_38 : decode cX9_told 38 = .ok (.iload 5, 2) := by decide +kernel
theorem dX9_told_40 : decode cX9_told 40 = .ok (.invokevirtual 163, 3) := by decide +kernel
theorem dX9_told_43 : decode cX9_told 43 = .ok (.ifCond .ne 7, 3) := by decide +kernel
theorem dX9_told_46 : decode cX9_told 46 = .ok (.iconst (-1), 1) := by decide +kernel
theorem dX9_told_47 : decode cX9_told 47 = .ok (.goto 9, 3) := by decide +kernel
theorem dX9_told_50 : decode cX9_told 50 = .ok (.iconst 4, 1) := by decide +kernel
theorem dX9_told_51 : decode cX9_told 51 = .ok (.iload_n 3, 1) := by decide +kernel
theorem dX9_told_52 : decode cX9_told 52 = .ok (.imul, 1) := by decide +kernel
theorem dX9_told_53 : decode cX9_told 53 = .ok (.iload 5, 2) := by decide +kernel
theorem dX9_told_55 : decode cX9_told 55 = .ok (.iadd, 1) := by decide +kernel
theorem dX9_told_56 : decode cX9_told 56 = .ok (.istore_n 3, 1) := by decide +kernel
theorem dX9_told_57 : decode cX9_told 57 = .ok (.iinc 4 (-1), 3) := by decide +kernel
theorem dX9_told_60 : decode cX9_told 60 = .ok (.goto (-48), 3) := by decide +kernel
theorem dX9_told_63 : decode cX9_told 63 = .ok (.iload_n 3, 1) := by decide +kernel
theorem dX9_told_64 : decode cX9_told 64 = .ok (.ireturn, 1) := by decide +kernel
def L_X9_told_12 (N : Nat) (σ : Hp) (v0 : Nat) (v1 : Int32) (v2 : Int32) : Nat → Int32 → Int32 → Option (Int32)
  | 0, _, _ => none
  | n + 1, v3, v4 =>
  if v4 < 0 then
   some v3
  else
   (gR N σ v0 9 0).bind fun x4 =>
  (aI 0 N σ x4 ((((40 : Int32) * v1) + v2) + v4)).bind fun x5 =>
  if v3 < 0 then
   L_X9_told_12 N σ v0 v1 v2 n (-1) (v4 + (-1))
  else
   (m_X9_isPeg N σ v0 x5).bind fun r7 =>
  if r7 = 0 then
   L_X9_told_12 N σ v0 v1 v2 n (-1) (v4 + (-1))
  else
   L_X9_told_12 N σ v0 v1 v2 n (((4 : Int32) * v3) + x5) (v4 + (-1))
def m_X9_told (N : Nat) (σ : Hp) (t0 : Nat) (p1 : Int32) (p2 : Int32) : Option (Int32) :=
  (rv N σ t0 9).bind fun _ =>
  (gR N σ t0 9 10).bind fun x1 =>
  (aI 0 N σ x1 2).bind fun x2 =>
  (L_X9_told_12 N σ t0 p1 p2 fu 0 (x2 - 1)).bind fun z9 =>
  some z9
set_option maxHeartbeats 4000000 in
set_option maxRecDepth 100000 in
theorem lp_X9_told_12 {κ : Kx} {ω : Om} (C : Cx κ 6 2 cX9_told RX9 "told") (Z : Zx κ ω) (σ : Hp) (v0 : Nat) (v1 : Int32) (v2 : Int32) {r : Int32} (hk : X κ 6 ω 63 [none, none, none, some (.int r), none, none] [] σ) : ∀ (n : Nat) (v3 : Int32) (v4 : Int32), L_X9_told_12 ω.1 σ v0 v1 v2 n v3 v4 = some r → X κ 6 ω 12 [some (.ref v0), some (.int v1), some (.int v2), some (.int v3), some (.int v4), none] [] σ := by
  intro n
  induction n with
  | zero => intro v3 v4 h; cases h
  | succ n ih =>
    intro v3 v4 h
    rw [L_X9_told_12.eq_2] at h
    refine x_iload C (i := 4) dX9_told_12 rfl ?_
    refine x_if_lt C (tgt := 63) dX9_told_14 (by decide) (fun c3 => ?_) (fun c3 => ?_)
    · have h := ifP h c3
      refine x_wk [false, false, false, true, false, false] (lo' := [none, none, none, some (.int v3), none, none]) rfl ?_
      obtain rfl := Option.some.inj h
      exact hk
    · have h := ifN h c3
      refine x_aload_n C (i := 0) dX9_told_17 rfl rfl ?_
      obtain ⟨x4, ex4, h⟩ := ob h
      refine x_getR C fl_X9_7 dX9_told_18 ex4 ?_
      refine x_bipush C (v := 40) dX9_told_21 (by decide) ?_
      refine x_iload_n C (i := 1) dX9_told_23 rfl rfl ?_
      refine x_imul C dX9_told_24 ?_
      refine x_iload_n C (i := 2) dX9_told_25 rfl rfl ?_
      refine x_iadd C dX9_told_26 ?_
      refine x_iload C (i := 4) dX9_told_27 rfl ?_
      refine x_iadd C dX9_told_29 ?_
      obtain ⟨x5, ex5, h⟩ := ob h
      refine x_iald C dX9_told_30 ex5 ?_
      refine x_istore C (i := 5) (lo' := [some (.ref v0), some (.int v1), some (.int v2), some (.int v3), some (.int v4), some (.int x5)]) dX9_told_31 (by decide) rfl rfl ?_
      refine x_iload_n C (i := 3) dX9_told_33 rfl rfl ?_
      refine x_if_lt C (tgt := 46) dX9_told_34 (by decide) (fun c6 => ?_) (fun c6 => ?_)
      · have h := ifP h c6
        refine x_iconst C (v := (-1)) dX9_told_46 (by decide) ?_
        refine x_goto C (tgt := 56) dX9_told_47 (by decide) ?_
        refine x_istore_n C (i := 3) (lo' := [some (.ref v0), some (.int v1), some (.int v2), some (.int (-1)), some (.int v4), some (.int x5)]) dX9_told_56 rfl (by decide) rfl rfl ?_
        refine x_iinc C (i := 4) (y := v4 + (-1)) (lo' := [some (.ref v0), some (.int v1), some (.int v2), some (.int (-1)), some (.int (v4 + (-1))), some (.int x5)]) dX9_told_57 rfl rfl (by decide) rfl rfl ?_
        refine x_goto C (tgt := 12) dX9_told_60 (by decide) ?_
        refine x_wk [true, true, true, true, true, false] (lo' := [some (.ref v0), some (.int v1), some (.int v2), some (.int (-1)), some (.int (v4 + (-1))), none]) rfl ?_
        exact ih (-1) (v4 + (-1)) h
      · have h := ifN h c6
        refine x_aload_n C (i := 0) dX9_told_37 rfl rfl ?_
        refine x_iload C (i := 5) dX9_told_38 rfl ?_
        obtain ⟨r7, er7, h⟩ := ob h
        refine x_callVr C Z mv_X9_isPeg lk_X9_163 (rv_h er7) (ct_X9_isPeg er7) (by decide) rfl rfl (Nat.le_of_ble_eq_true rfl) dX9_told_40 ?_
        refine x_if_ne C (tgt := 50) dX9_told_43 (by decide) (fun c8 => ?_) (fun c8 => ?_)
        · have h := ifN h c8
          refine x_iconst C (v := 4) dX9_told_50 (by decide) ?_
          refine x_iload_n C (i := 3) dX9_told_51 rfl rfl ?_
          refine x_imul C dX9_told_52 ?_
          refine x_iload C (i := 5) dX9_told_53 rfl ?_
          refine x_iadd C dX9_told_55 ?_
          refine x_istore_n C (i := 3) (lo' := [some (.ref v0), some (.int v1), some (.int v2), some (.int (((4 : Int32) * v3) + x5)), some (.int v4), some (.int x5)]) dX9_told_56 rfl (by decide) rfl rfl ?_
          refine x_iinc C (i := 4) (y := v4 + (-1)) (lo' := [some (.ref v0), some (.int v1), some (.int v2), some (.int (((4 : Int32) * v3) + x5)), some (.int (v4 + (-1))), some (.int x5)]) dX9_told_57 rfl rfl (by decide) rfl rfl ?_
          refine x_goto C (tgt := 12) dX9_told_60 (by decide) ?_
          refine x_wk [true, true, true, true, true, false] (lo' := [some (.ref v0), some (.int v1), some (.int v2), some (.int (((4 : Int32) * v3) + x5)), some (.int (v4 + (-1))), none]) rfl ?_
          exact ih (((4 : Int32) * v3) + x5) (v4 + (-1)) h
        · have h := ifP h c8
          refine x_iconst C (v := (-1)) dX9_told_46 (by decide) ?_
          refine x_goto C (tgt := 56) dX9_told_47 (by decide) ?_
          refine x_istore_n C (i := 3) (lo' := [some (.ref v0), some (.int v1), some (.int v2), some (.int (-1)), some (.int v4), some (.int x5)]) dX9_told_56 rfl (by decide) rfl rfl ?_
          refine x_iinc C (i := 4) (y := v4 + (-1)) (lo' := [some (.ref v0), some (.int v1), some (.int v2), some (.int (-1)), some (.int (v4 + (-1))), some (.int x5)]) dX9_told_57 rfl rfl (by decide) rfl rfl ?_
          refine x_goto C (tgt := 12) dX9_told_60 (by decide) ?_
          refine x_wk [true, true, true, true, true, false] (lo' := [some (.ref v0), some (.int v1), some (.int v2), some (.int (-1)), some (.int (v4 + (-1))), none]) rfl ?_
          exact ih (-1) (v4 + (-1)) h
set_option maxHeartbeats 4000000 in
set_option maxRecDepth 100000 in
theorem ct_X9_told {l : Launch} {D : va_G} {cy : Nat → Nat} {N : Nat} {σ : Hp} {t0 : Nat} {p1 : Int32} {p2 : Int32} {r : Int32} (h : m_X9_told N σ t0 p1 p2 = some r) : Ct l D cy yX9_told cX9_told 6 (some .int) 2 [.ref t0, .int p1, .int p2] N σ (fun v s' => v = (some (.int r)) ∧ s' = σ) := by
  refine Ct.intro [some (.ref t0), some (.int p1), some (.int p2), none, none, none] (by decide) rfl (Nat.le_of_ble_eq_true rfl) ?_
  intro κ ω e1 e2 e3 e4 C Z E
  subst e1; subst e2; subst e3; subst e4
  have C : Cx κ 6 2 cX9_told RX9 "told" := C
  have hE : ∀ x : Int32, r = x → ((some (Value.int x)) = (some (Value.int r)) ∧ σ = σ) := fun x hx => by subst hx; exact ⟨rfl, rfl⟩
  unfold m_X9_told at h
  obtain ⟨_, _, h⟩ := ob h
  refine x_iconst C (v := 0) dX9_told_0 (by decide) ?_
  refine x_istore_n C (i := 3) (lo' := [some (.ref t0), some (.int p1), some (.int p2), some (.int 0), none, none]) dX9_told_1 rfl (by decide) rfl rfl ?_
  refine x_aload_n C (i := 0) dX9_told_2 rfl rfl ?_
  obtain ⟨x1, ex1, h⟩ := ob h
  refine x_getR C fl_X9_23 dX9_told_3 ex1 ?_
  refine x_iconst C (v := 2) dX9_told_6 (by decide) ?_
  obtain ⟨x2, ex2, h⟩ := ob h
  refine x_iald C dX9_told_7 ex2 ?_
  refine x_iconst C (v := 1) dX9_told_8 (by decide) ?_
  refine x_isub C dX9_told_9 ?_
  refine x_istore C (i := 4) (lo' := [some (.ref t0), some (.int p1), some (.int p2), some (.int 0), some (.int (x2 - 1)), none]) dX9_told_10 (by decide) rfl rfl ?_
  obtain ⟨z9, ez9, h⟩ := ob h
  refine x_wk [true, true, true, true, true, false] (lo' := [some (.ref t0), some (.int p1), some (.int p2), some (.int 0), some (.int (x2 - 1)), none]) rfl ?_
  refine lp_X9_told_12 C Z σ t0 p1 p2 ?_ _ 0 (x2 - 1) ez9
  refine x_iload_n C (i := 3) dX9_told_63 rfl rfl ?_
  exact x_iret C E dX9_told_64 (hE z9 (Option.some.inj h).symm)
theorem dX9_least_0 : decode cX9_least 0 = .ok (.aload_n 0, 1) := by decide +kernel
theorem dX9_least_1 : decode cX9_least 1 = .ok (.invokevirtual 183, 3) := by decide +kernel
theorem dX9_least_4 : decode cX9_least 4 = .ok (.ifCond .ne 6, 3) := by decide +kernel
theorem dX9_least_7 : decode cX9_least 7 = .ok (.ldc 176, 2) := by decide +kernel
theorem dX9_least_9 : decode cX9_least 9 = .ok (.ireturn, 1) := by decide +kernel
theorem dX9_least_10 : decode cX9_least 10 = .ok (.iload_n 1, 1) := by decide +kernel
theorem dX9_least_11 : decode cX9_least 11 = .ok (.invokestatic 60, 3) := by decide +kernel
theorem dX9_least_14 : decode cX9_least 14 = .ok (.ifCond .eq 8, 3) := by decide +kernel
theorem dX9_least_17 : decode cX9_least 17 = .ok (.iload_n 3, 1) := by decide +kernel
theorem dX9_least_18 : decode cX9_least 18 = .ok (.iconst (-1), 1) := by decide +kernel
theorem dX9_least_19 : decode cX9_least 19 = .ok (.if_icmp .ge 6, 3) := by decide +kernel
theorem dX9_least_22 : decode cX9_least 22 = .ok (.ldc 66, 2) := by decide +kernel
theorem dX9_least_24 : decode cX9_least 24 = .ok (.ireturn, 1) := by decide +kernel
theorem dX9_least_25 : decode cX9_least 25 = .ok (.aload_n 0, 1) := by decide +kernel
theorem dX9_least_26 : decode cX9_least 26 = .ok (.iload_n 1, 1) := by decide +kernel
theorem dX9_least_27 : decode cX9_least 27 = .ok (.iload_n 2, 1) := by decide +kernel
theorem dX9_least_28 : decode cX9_least 28 = .ok (.aload_n 0, 1) := by decide +kernel
theorem dX9_least_29 : decode cX9_least 29 = .ok (.getfield 23, 3) := by decide +kernel
theorem dX9_least_32 : decode cX9_least 32 = .ok (.iconst 2, 1) := by decide +kernel
theorem dX9_least_33 : decode cX9_least 33 = .ok (.iaload, 1) := by decide +kernel
theorem dX9_least_34 : decode cX9_least 34 = .ok (.invokevirtual 211, 3) := by decide +kernel
theorem dX9_least_37 : decode cX9_least 37 = .ok (.istore 4, 2) := by decide +kernel
theorem dX9_least_39 : decode cX9_least 39 = .ok (.iload 4, 2) := by decide +kernel
theorem dX9_least_41 : decode cX9_least 41 = .ok (.ifCond .eq 10, 3) := by decide +kernel
theorem dX9_least_44 : decode cX9_least 44 = .ok (.aload_n 0, 1) := by decide +kernel
theorem dX9_least_45 : decode cX9_least 45 = .ok (.iload 4, 2) := by decide +kernel
theorem dX9_least_47 : decode cX9_least 47 = .ok (.invokevirtual 67, 3) := by decide +kernel
theorem dX9_least_50 : decode cX9_least 50 = .ok (.ireturn, 1) := by decide +kernel
theorem dX9_least_51 : decode cX9_least 51 = .ok (.aload_n 0, 1) := by decide +kernel
theorem dX9_least_52 : decode cX9_least 52 = .ok (.iload_n 1, 1) := by decide +kernel
theorem dX9_least_53 : decode cX9_least 53 = .ok (.iload_n 2, 1) := by decide +kernel
theorem dX9_least_54 : decode cX9_least 54 = .ok (.invokevirtual 214, 3) := by decide +kernel
theorem dX9_least_57 : decode cX9_least 57 = .ok (.istore 5, 2) := by decide +kernel
theorem dX9_least_59 : decode cX9_least 59 = .ok (.aload_n 0, 1) := by decide +kernel
theorem dX9_least_60 : decode cX9_least 60 = .ok (.iload 5, 2) := by decide +kernel
theorem dX9_least_62 : decode cX9_least 62 = .ok (.ifCond .ge 8, 3) := by decide +kernel
theorem dX9_least_65 : decode cX9_least 65 = .ok (.ldc 189, 2) := by decide +kernel
theorem dX9_least_67 : decode cX9_least 67 = .ok (.goto 10, 3) := by decide +kernel
theorem dX9_least_70 : decode cX9_least 70 = .ok (.aload_n 0, 1) := by decide +kernel
theorem dX9_least_71 : decode cX9_least 71 = .ok (.iload 5, 2) := by decide +kernel
theorem dX9_least_73 : decode cX9_least 73 = .ok (.iload_n 3, 1) := by decide +kernel
theorem dX9_least_74 : decode cX9_least 74 = .ok (.invokevirtual 217, 3) := by decide +kernel
theorem dX9_least_77 : decode cX9_least 77 = .ok (.invokevirtual 71, 3) := by decide +kernel
theorem dX9_least_80 : decode cX9_least 80 = .ok (.ireturn, 1) := by decide +kernel
def m_X9_least (N : Nat) (σ : Hp) (t0 : Nat) (p1 : Int32) (p2 : Int32) (p3 : Int32) : Option (Int32 × Hp) :=
  (rv N σ t0 9).bind fun _ =>
  (m_X9_isBoard N σ t0).bind fun r1 =>
  if r1 = 0 then
   some ((-1000002), σ)
  else
   (m_X9_isRow p1).bind fun r3 =>
  if r3 = 0 then
   some ((-1000001), σ)
  else
   if (-1) ≤ p3 then
   (gR N σ t0 9 10).bind fun x6 =>
  (aI 0 N σ x6 2).bind fun x7 =>
  (m_X9_wrongOf N σ t0 p1 p2 x7).bind fun r8 =>
  if r8 = 0 then
   (m_X9_told N σ t0 p1 p2).bind fun r10 =>
  ((if 0 ≤ r10 then
   (m_X9_leastTo N σ t0 r10 p3).bind fun r16 =>
  some (r16.1, r16.2)
  else
   some ((-1000000), σ)) : Option (Int32 × Hp)).bind fun z11 =>
  (m_X9_good N z11.2 t0 z11.1).bind fun r12 =>
  some (r12.1, r12.2)
  else
   (m_X9_finds N σ t0 r8).bind fun r17 =>
  some (r17.1, r17.2)
  else
   some ((-1000001), σ)
set_option maxHeartbeats 4000000 in
set_option maxRecDepth 100000 in
theorem ct_X9_least {l : Launch} {D : va_G} {cy : Nat → Nat} {N : Nat} {σ : Hp} {t0 : Nat} {p1 : Int32} {p2 : Int32} {p3 : Int32} {r : Int32 × Hp} (h : m_X9_least N σ t0 p1 p2 p3 = some r) : Ct l D cy yX9_least cX9_least 6 (some .int) 6 [.ref t0, .int p1, .int p2, .int p3] N σ (fun v s' => v = (some (.int r.1)) ∧ s' = r.2) := by
  refine Ct.intro [some (.ref t0), some (.int p1), some (.int p2), some (.int p3), none, none] (by decide) rfl (Nat.le_of_ble_eq_true rfl) ?_
  intro κ ω e1 e2 e3 e4 C Z E
  subst e1; subst e2; subst e3; subst e4
  have C : Cx κ 6 6 cX9_least RX9 "least" := C
  have hE : ∀ x : Int32 × Hp, r = x → ((some (Value.int x.1)) = (some (Value.int r.1)) ∧ x.2 = r.2) := fun x hx => by subst hx; exact ⟨rfl, rfl⟩
  unfold m_X9_least at h
  obtain ⟨_, _, h⟩ := ob h
  refine x_aload_n C (i := 0) dX9_least_0 rfl rfl ?_
  obtain ⟨r1, er1, h⟩ := ob h
  refine x_callVr C Z mv_X9_isBoard lk_X9_183 (rv_h er1) (ct_X9_isBoard er1) (by decide) rfl rfl (Nat.le_of_ble_eq_true rfl) dX9_least_1 ?_
  refine x_if_ne C (tgt := 10) dX9_least_4 (by decide) (fun c2 => ?_) (fun c2 => ?_)
  · have h := ifN h c2
    refine x_iload_n C (i := 1) dX9_least_10 rfl rfl ?_
    obtain ⟨r3, er3, h⟩ := ob h
    refine x_callSr C Z ms_X9_isRow lk_X9_60 (ct_X9_isRow (N := ω.1) (σ := σ) er3) (by decide) rfl rfl (Nat.le_of_ble_eq_true rfl) dX9_least_11 ?_
    refine x_if_eq C (tgt := 22) dX9_least_14 (by decide) (fun c4 => ?_) (fun c4 => ?_)
    · have h := ifP h c4
      refine x_ldc C kc_X9_66 dX9_least_22 ?_
      exact x_iret C E dX9_least_24 (hE ((-1000001), σ) (Option.some.inj h).symm)
    · have h := ifN h c4
      refine x_iload_n C (i := 3) dX9_least_17 rfl rfl ?_
      refine x_iconst C (v := (-1)) dX9_least_18 (by decide) ?_
      refine x_icmp_ge C (tgt := 25) dX9_least_19 (by decide) (fun c5 => ?_) (fun c5 => ?_)
      · have h := ifP h c5
        refine x_aload_n C (i := 0) dX9_least_25 rfl rfl ?_
        refine x_iload_n C (i := 1) dX9_least_26 rfl rfl ?_
        refine x_iload_n C (i := 2) dX9_least_27 rfl rfl ?_
        refine x_aload_n C (i := 0) dX9_least_28 rfl rfl ?_
        obtain ⟨x6, ex6, h⟩ := ob h
        refine x_getR C fl_X9_23 dX9_least_29 ex6 ?_
        refine x_iconst C (v := 2) dX9_least_32 (by decide) ?_
        obtain ⟨x7, ex7, h⟩ := ob h
        refine x_iald C dX9_least_33 ex7 ?_
        obtain ⟨r8, er8, h⟩ := ob h
        refine x_callVr C Z mv_X9_wrongOf lk_X9_211 (rv_h er8) (ct_X9_wrongOf er8) (by decide) rfl rfl (Nat.le_of_ble_eq_true rfl) dX9_least_34 ?_
        refine x_istore C (i := 4) (lo' := [some (.ref t0), some (.int p1), some (.int p2), some (.int p3), some (.int r8), none]) dX9_least_37 (by decide) rfl rfl ?_
        refine x_iload C (i := 4) dX9_least_39 rfl ?_
        refine x_if_eq C (tgt := 51) dX9_least_41 (by decide) (fun c9 => ?_) (fun c9 => ?_)
        · have h := ifP h c9
          refine x_aload_n C (i := 0) dX9_least_51 rfl rfl ?_
          refine x_iload_n C (i := 1) dX9_least_52 rfl rfl ?_
          refine x_iload_n C (i := 2) dX9_least_53 rfl rfl ?_
          obtain ⟨r10, er10, h⟩ := ob h
          refine x_callVr C Z mv_X9_told lk_X9_214 (rv_h er10) (ct_X9_told er10) (by decide) rfl rfl (Nat.le_of_ble_eq_true rfl) dX9_least_54 ?_
          refine x_istore C (i := 5) (lo' := [some (.ref t0), some (.int p1), some (.int p2), some (.int p3), some (.int r8), some (.int r10)]) dX9_least_57 (by decide) rfl rfl ?_
          refine x_aload_n C (i := 0) dX9_least_59 rfl rfl ?_
          refine x_iload C (i := 5) dX9_least_60 rfl ?_
          obtain ⟨z11, hz11, h⟩ := ob h
          have hJ13 : X κ 6 ω 77 [none, none, none, none, none, none] [.int z11.1, .ref t0] z11.2 := by
            obtain ⟨r12, er12, h⟩ := ob h
            refine x_callVr C Z mv_X9_good lk_X9_71 (rv_h er12) (ct_X9_good er12) (by decide) rfl rfl (Nat.le_of_ble_eq_true rfl) dX9_least_77 ?_
            exact x_iret C E dX9_least_80 (hE (r12.1, r12.2) (Option.some.inj h).symm)
          clear h
          have h := hz11
          refine x_if_ge C (tgt := 70) dX9_least_62 (by decide) (fun c15 => ?_) (fun c15 => ?_)
          · have h := ifP h c15
            refine x_aload_n C (i := 0) dX9_least_70 rfl rfl ?_
            refine x_iload C (i := 5) dX9_least_71 rfl ?_
            refine x_iload_n C (i := 3) dX9_least_73 rfl rfl ?_
            obtain ⟨r16, er16, h⟩ := ob h
            refine x_callVr C Z mv_X9_leastTo lk_X9_217 (rv_h er16) (ct_X9_leastTo er16) (by decide) rfl rfl (Nat.le_of_ble_eq_true rfl) dX9_least_74 ?_
            refine x_wk [false, false, false, false, false, false] (lo' := [none, none, none, none, none, none]) rfl ?_
            obtain rfl := Option.some.inj h
            exact hJ13
          · have h := ifN h c15
            refine x_ldc C kc_X9_189 dX9_least_65 ?_
            refine x_goto C (tgt := 77) dX9_least_67 (by decide) ?_
            refine x_wk [false, false, false, false, false, false] (lo' := [none, none, none, none, none, none]) rfl ?_
            obtain rfl := Option.some.inj h
            exact hJ13
        · have h := ifN h c9
          refine x_aload_n C (i := 0) dX9_least_44 rfl rfl ?_
          refine x_iload C (i := 4) dX9_least_45 rfl ?_
          obtain ⟨r17, er17, h⟩ := ob h
          refine x_callVr C Z mv_X9_finds lk_X9_67 (rv_h er17) (ct_X9_finds er17) (by decide) rfl rfl (Nat.le_of_ble_eq_true rfl) dX9_least_47 ?_
          exact x_iret C E dX9_least_50 (hE (r17.1, r17.2) (Option.some.inj h).symm)
      · have h := ifN h c5
        refine x_ldc C kc_X9_66 dX9_least_22 ?_
        exact x_iret C E dX9_least_24 (hE ((-1000001), σ) (Option.some.inj h).symm)
  · have h := ifP h c2
    refine x_ldc C kc_X9_176 dX9_least_7 ?_
    exact x_iret C E dX9_least_9 (hE ((-1000002), σ) (Option.some.inj h).symm)
theorem dX9_tower_0 : decode cX9_tower 0 = .ok (.aload_n 0, 1) := by decide +kernel
theorem dX9_tower_1 : decode cX9_tower 1 = .ok (.invokevirtual 183, 3) := by decide +kernel
theorem dX9_tower_4 : decode cX9_tower 4 = .ok (.ifCond .ne 6, 3) := by decide +kernel
theorem dX9_tower_7 : decode cX9_tower 7 = .ok (.ldc 176, 2) := by decide +kernel
theorem dX9_tower_9 : decode cX9_tower 9 = .ok (.ireturn, 1) := by decide +kernel
theorem dX9_tower_10 : decode cX9_tower 10 = .ok (.aload_n 0, 1) := by decide +kernel
theorem dX9_tower_11 : decode cX9_tower 11 = .ok (.iload_n 1, 1) := by decide +kernel
theorem dX9_tower_12 : decode cX9_tower 12 = .ok (.invokevirtual 163, 3) := by decide +kernel
theorem dX9_tower_15 : decode cX9_tower 15 = .ok (.ifCond .eq 8, 3) := by decide +kernel
theorem dX9_tower_18 : decode cX9_tower 18 = .ok (.iload_n 2, 1) := by decide +kernel
theorem dX9_tower_19 : decode cX9_tower 19 = .ok (.iconst (-1), 1) := by decide +kernel
theorem dX9_tower_20 : decode cX9_tower 20 = .ok (.if_icmp .ge 6, 3) := by decide +kernel
theorem dX9_tower_23 : decode cX9_tower 23 = .ok (.ldc 66, 2) := by decide +kernel
theorem dX9_tower_25 : decode cX9_tower 25 = .ok (.ireturn, 1) := by decide +kernel
theorem dX9_tower_26 : decode cX9_tower 26 = .ok (.iconst 0, 1) := by decide +kernel
theorem dX9_tower_27 : decode cX9_tower 27 = .ok (.istore_n 3, 1) := by decide +kernel
theorem dX9_tower_28 : decode cX9_tower 28 = .ok (.iconst 0, 1) := by decide +kernel
theorem dX9_tower_29 : decode cX9_tower 29 = .ok (.istore 4, 2) := by decide +kernel
theorem dX9_tower_31 : decode cX9_tower 31 = .ok (.iload 4, 2) := by decide +kernel
theorem dX9_tower_33 : decode cX9_tower 33 = .ok (.aload_n 0, 1) := by decide +kernel
theorem dX9_tower_34 : decode cX9_tower 34 = .ok (.getfield 23, 3) := by decide +kernel
theorem dX9_tower_37 : decode cX9_tower 37 = .ok (.iconst 2, 1) := by decide +kernel
theorem dX9_tower_38 : decode cX9_tower 38 = .ok (.iaload, 1) := by decide +kernel
theorem dX9_tower_39 : decode cX9_tower 39 = .ok (.if_icmp .ge 15, 3) := by decide +kernel
theorem dX9_tower_42 : decode cX9_tower 42 = .ok (.iconst 4, 1) := by decide +kernel
theorem dX9_tower_43 : decode cX9_tower 43 = .ok (.iload_n 3, 1) := by decide +kernel
theorem dX9_tower_44 : decode cX9_tower 44 = .ok (.imul, 1) := by decide +kernel
theorem dX9_tower_45 : decode cX9_tower 45 = .ok (.iload_n 1, 1) := by decide +kernel
theorem dX9_tower_46 : decode cX9_tower 46 = .ok (.iadd, 1) := by decide +kernel
theorem dX9_tower_47 : decode cX9_tower 47 = .ok (.istore_n 3, 1) := by decide +kernel
theorem dX9_tower_48 : decode cX9_tower 48 = .ok (.iinc 4 1, 3) := by decide +kernel
theorem dX9_tower_51 : decode cX9_tower 51 = .ok (.goto (-20), 3) := by decide +kernel
theorem dX9_tower_54 : decode cX9_tower 54 = .ok (.aload_n 0, 1) := by decide +kernel
theorem dX9_tower_55 : decode cX9_tower 55 = .ok (.iload_n 3, 1) := by decide +kernel
theorem dX9_tower_56 : decode cX9_tower 56 = .ok (.iload_n 2, 1) := by decide +kernel
theorem dX9_tower_57 : decode cX9_tower 57 = .ok (.invokevirtual 217, 3) := by decide +kernel
theorem dX9_tower_60 : decode cX9_tower 60 = .ok (.ireturn, 1) := by decide +kernel
def L_X9_tower_31 (N : Nat) (σ : Hp) (v0 : Nat) (v1 : Int32) (v2 : Int32) : Nat → Int32 → Int32 → Option (Int32)
  | 0, _, _ => none
  | n + 1, v3, v4 =>
  (gR N σ v0 9 10).bind fun x6 =>
  (aI 0 N σ x6 2).bind fun x7 =>
  if x7 ≤ v4 then
   some v3
  else
   L_X9_tower_31 N σ v0 v1 v2 n (((4 : Int32) * v3) + v1) (v4 + 1)
def m_X9_tower (N : Nat) (σ : Hp) (t0 : Nat) (p1 : Int32) (p2 : Int32) : Option (Int32 × Hp) :=
  (rv N σ t0 9).bind fun _ =>
  (m_X9_isBoard N σ t0).bind fun r1 =>
  if r1 = 0 then
   some ((-1000002), σ)
  else
   (m_X9_isPeg N σ t0 p1).bind fun r3 =>
  if r3 = 0 then
   some ((-1000001), σ)
  else
   if (-1) ≤ p2 then
   (L_X9_tower_31 N σ t0 p1 p2 fu 0 0).bind fun z9 =>
  (m_X9_leastTo N σ t0 z9 p2).bind fun r10 =>
  some (r10.1, r10.2)
  else
   some ((-1000001), σ)
set_option maxHeartbeats 4000000 in
set_option maxRecDepth 100000 in
theorem lp_X9_tower_31 {κ : Kx} {ω : Om} (C : Cx κ 5 6 cX9_tower RX9 "tower") (Z : Zx κ ω) (σ : Hp) (v0 : Nat) (v1 : Int32) (v2 : Int32) {r : Int32} (hk : X κ 5 ω 54 [some (.ref v0), none, some (.int v2), some (.int r), none] [] σ) : ∀ (n : Nat) (v3 : Int32) (v4 : Int32), L_X9_tower_31 ω.1 σ v0 v1 v2 n v3 v4 = some r → X κ 5 ω 31 [some (.ref v0), some (.int v1), some (.int v2), some (.int v3), some (.int v4)] [] σ := by
  intro n
  induction n with
  | zero => intro v3 v4 h; cases h
  | succ n ih =>
    intro v3 v4 h
    rw [L_X9_tower_31.eq_2] at h
    refine x_iload C (i := 4) dX9_tower_31 rfl ?_
    refine x_aload_n C (i := 0) dX9_tower_33 rfl rfl ?_
    obtain ⟨x6, ex6, h⟩ := ob h
    refine x_getR C fl_X9_23 dX9_tower_34 ex6 ?_
    refine x_iconst C (v := 2) dX9_tower_37 (by decide) ?_
    obtain ⟨x7, ex7, h⟩ := ob h
    refine x_iald C dX9_tower_38 ex7 ?_
    refine x_icmp_ge C (tgt := 54) dX9_tower_39 (by decide) (fun c8 => ?_) (fun c8 => ?_)
    · have h := ifP h c8
      refine x_wk [true, false, true, true, false] (lo' := [some (.ref v0), none, some (.int v2), some (.int v3), none]) rfl ?_
      obtain rfl := Option.some.inj h
      exact hk
    · have h := ifN h c8
      refine x_iconst C (v := 4) dX9_tower_42 (by decide) ?_
      refine x_iload_n C (i := 3) dX9_tower_43 rfl rfl ?_
      refine x_imul C dX9_tower_44 ?_
      refine x_iload_n C (i := 1) dX9_tower_45 rfl rfl ?_
      refine x_iadd C dX9_tower_46 ?_
      refine x_istore_n C (i := 3) (lo' := [some (.ref v0), some (.int v1), some (.int v2), some (.int (((4 : Int32) * v3) + v1)), some (.int v4)]) dX9_tower_47 rfl (by decide) rfl rfl ?_
      refine x_iinc C (i := 4) (y := v4 + 1) (lo' := [some (.ref v0), some (.int v1), some (.int v2), some (.int (((4 : Int32) * v3) + v1)), some (.int (v4 + 1))]) dX9_tower_48 rfl rfl (by decide) rfl rfl ?_
      refine x_goto C (tgt := 31) dX9_tower_51 (by decide) ?_
      refine x_wk [true, true, true, true, true] (lo' := [some (.ref v0), some (.int v1), some (.int v2), some (.int (((4 : Int32) * v3) + v1)), some (.int (v4 + 1))]) rfl ?_
      exact ih (((4 : Int32) * v3) + v1) (v4 + 1) h
set_option maxHeartbeats 4000000 in
set_option maxRecDepth 100000 in
theorem ct_X9_tower {l : Launch} {D : va_G} {cy : Nat → Nat} {N : Nat} {σ : Hp} {t0 : Nat} {p1 : Int32} {p2 : Int32} {r : Int32 × Hp} (h : m_X9_tower N σ t0 p1 p2 = some r) : Ct l D cy yX9_tower cX9_tower 5 (some .int) 6 [.ref t0, .int p1, .int p2] N σ (fun v s' => v = (some (.int r.1)) ∧ s' = r.2) := by
  refine Ct.intro [some (.ref t0), some (.int p1), some (.int p2), none, none] (by decide) rfl (Nat.le_of_ble_eq_true rfl) ?_
  intro κ ω e1 e2 e3 e4 C Z E
  subst e1; subst e2; subst e3; subst e4
  have C : Cx κ 5 6 cX9_tower RX9 "tower" := C
  have hE : ∀ x : Int32 × Hp, r = x → ((some (Value.int x.1)) = (some (Value.int r.1)) ∧ x.2 = r.2) := fun x hx => by subst hx; exact ⟨rfl, rfl⟩
  unfold m_X9_tower at h
  obtain ⟨_, _, h⟩ := ob h
  refine x_aload_n C (i := 0) dX9_tower_0 rfl rfl ?_
  obtain ⟨r1, er1, h⟩ := ob h
  refine x_callVr C Z mv_X9_isBoard lk_X9_183 (rv_h er1) (ct_X9_isBoard er1) (by decide) rfl rfl (Nat.le_of_ble_eq_true rfl) dX9_tower_1 ?_
  refine x_if_ne C (tgt := 10) dX9_tower_4 (by decide) (fun c2 => ?_) (fun c2 => ?_)
  · have h := ifN h c2
    refine x_aload_n C (i := 0) dX9_tower_10 rfl rfl ?_
    refine x_iload_n C (i := 1) dX9_tower_11 rfl rfl ?_
    obtain ⟨r3, er3, h⟩ := ob h
    refine x_callVr C Z mv_X9_isPeg lk_X9_163 (rv_h er3) (ct_X9_isPeg er3) (by decide) rfl rfl (Nat.le_of_ble_eq_true rfl) dX9_tower_12 ?_
    refine x_if_eq C (tgt := 23) dX9_tower_15 (by decide) (fun c4 => ?_) (fun c4 => ?_)
    · have h := ifP h c4
      refine x_ldc C kc_X9_66 dX9_tower_23 ?_
      exact x_iret C E dX9_tower_25 (hE ((-1000001), σ) (Option.some.inj h).symm)
    · have h := ifN h c4
      refine x_iload_n C (i := 2) dX9_tower_18 rfl rfl ?_
      refine x_iconst C (v := (-1)) dX9_tower_19 (by decide) ?_
      refine x_icmp_ge C (tgt := 26) dX9_tower_20 (by decide) (fun c5 => ?_) (fun c5 => ?_)
      · have h := ifP h c5
        refine x_iconst C (v := 0) dX9_tower_26 (by decide) ?_
        refine x_istore_n C (i := 3) (lo' := [some (.ref t0), some (.int p1), some (.int p2), some (.int 0), none]) dX9_tower_27 rfl (by decide) rfl rfl ?_
        refine x_iconst C (v := 0) dX9_tower_28 (by decide) ?_
        refine x_istore C (i := 4) (lo' := [some (.ref t0), some (.int p1), some (.int p2), some (.int 0), some (.int 0)]) dX9_tower_29 (by decide) rfl rfl ?_
        obtain ⟨z9, ez9, h⟩ := ob h
        refine x_wk [true, true, true, true, true] (lo' := [some (.ref t0), some (.int p1), some (.int p2), some (.int 0), some (.int 0)]) rfl ?_
        refine lp_X9_tower_31 C Z σ t0 p1 p2 ?_ _ 0 0 ez9
        refine x_aload_n C (i := 0) dX9_tower_54 rfl rfl ?_
        refine x_iload_n C (i := 3) dX9_tower_55 rfl rfl ?_
        refine x_iload_n C (i := 2) dX9_tower_56 rfl rfl ?_
        obtain ⟨r10, er10, h⟩ := ob h
        refine x_callVr C Z mv_X9_leastTo lk_X9_217 (rv_h er10) (ct_X9_leastTo er10) (by decide) rfl rfl (Nat.le_of_ble_eq_true rfl) dX9_tower_57 ?_
        exact x_iret C E dX9_tower_60 (hE (r10.1, r10.2) (Option.some.inj h).symm)
      · have h := ifN h c5
        refine x_ldc C kc_X9_66 dX9_tower_23 ?_
        exact x_iret C E dX9_tower_25 (hE ((-1000001), σ) (Option.some.inj h).symm)
  · have h := ifP h c2
    refine x_ldc C kc_X9_176 dX9_tower_7 ?_
    exact x_iret C E dX9_tower_9 (hE ((-1000002), σ) (Option.some.inj h).symm)
theorem dX9_world_0 : decode cX9_world 0 = .ok (.aload_n 0, 1) := by decide +kernel
theorem dX9_world_1 : decode cX9_world 1 = .ok (.invokevirtual 183, 3) := by decide +kernel
theorem dX9_world_4 : decode cX9_world 4 = .ok (.ifCond .ne 6, 3) := by decide +kernel
theorem dX9_world_7 : decode cX9_world 7 = .ok (.ldc 176, 2) := by decide +kernel
theorem dX9_world_9 : decode cX9_world 9 = .ok (.ireturn, 1) := by decide +kernel
theorem dX9_world_10 : decode cX9_world 10 = .ok (.iload_n 1, 1) := by decide +kernel
theorem dX9_world_11 : decode cX9_world 11 = .ok (.i2l, 1) := by decide +kernel
theorem dX9_world_12 : decode cX9_world 12 = .ok (.lconst 0, 1) := by decide +kernel
theorem dX9_world_13 : decode cX9_world 13 = .ok (.ldc2_w 220, 3) := by decide +kernel
theorem dX9_world_16 : decode cX9_world 16 = .ok (.invokestatic 56, 3) := by decide +kernel
theorem dX9_world_19 : decode cX9_world 19 = .ok (.ifCond .ne 6, 3) := by decide +kernel
theorem dX9_world_22 : decode cX9_world 22 = .ok (.ldc 66, 2) := by decide +kernel
theorem dX9_world_24 : decode cX9_world 24 = .ok (.ireturn, 1) := by decide +kernel
theorem dX9_world_25 : decode cX9_world 25 = .ok (.aload_n 0, 1) := by decide +kernel
theorem dX9_world_26 : decode cX9_world 26 = .ok (.invokevirtual 202, 3) := by decide +kernel
theorem dX9_world_29 : decode cX9_world 29 = .ok (.iconst 0, 1) := by decide +kernel
theorem dX9_world_30 : decode cX9_world 30 = .ok (.istore_n 2, 1) := by decide +kernel
theorem dX9_world_31 : decode cX9_world 31 = .ok (.iconst (-1), 1) := by decide +kernel
theorem dX9_world_32 : decode cX9_world 32 = .ok (.istore_n 3, 1) := by decide +kernel
theorem dX9_world_33 : decode cX9_world 33 = .ok (.iconst 0, 1) := by decide +kernel
theorem dX9_world_34 : decode cX9_world 34 = .ok (.istore 4, 2) := by decide +kernel
theorem dX9_world_36 : decode cX9_world 36 = .ok (.iconst 0, 1) := by decide +kernel
theorem dX9_world_37 : decode cX9_world 37 = .ok (.istore 5, 2) := by decide +kernel
theorem dX9_world_39 : decode cX9_world 39 = .ok (.iconst 0, 1) := by decide +kernel
theorem dX9_world_40 : decode cX9_world 40 = .ok (.istore 6, 2) := by decide +kernel
theorem dX9_world_42 : decode cX9_world 42 = .ok (.iload 6, 2) := by decide +kernel
theorem dX9_world_44 : decode cX9_world 44 = .ok (.sipush 4096, 3) := by decide +kernel
theorem dX9_world_47 : decode cX9_world 47 = .ok (.if_icmp .ge 112, 3) := by decide +kernel
theorem dX9_world_50 : decode cX9_world 50 = .ok (.aload_n 0, 1) := by decide +kernel
theorem dX9_world_51 : decode cX9_world 51 = .ok (.iload 6, 2) := by decide +kernel
theorem dX9_world_53 : decode cX9_world 53 = .ok (.invokevirtual 205, 3) := by decide +kernel
theorem dX9_world_56 : decode cX9_world 56 = .ok (.istore 7, 2) := by decide +kernel
theorem dX9_world_58 : decode cX9_world 58 = .ok (.iload 7, 2) := by decide +kernel
theorem dX9_world_60 : decode cX9_world 60 = .ok (.ifCond .lt 93, 3) := by decide +kernel
theorem dX9_world_63 : decode cX9_world 63 = .ok (.aload_n 0, 1) := by decide +kernel
theorem dX9_world_64 : decode cX9_world 64 = .ok (.getfield 30, 3) := by decide +kernel
theorem dX9_world_67 : decode cX9_world 67 = .ok (.iload 6, 2) := by decide +kernel
theorem dX9_world_69 : decode cX9_world 69 = .ok (.iaload, 1) := by decide +kernel
theorem dX9_world_70 : decode cX9_world 70 = .ok (.iload 7, 2) := by decide +kernel
theorem dX9_world_72 : decode cX9_world 72 = .ok (.if_icmp .ne 8, 3) := by decide +kernel
theorem dX9_world_75 : decode cX9_world 75 = .ok (.iload 6, 2) := by decide +kernel
theorem dX9_world_77 : decode cX9_world 77 = .ok (.goto 9, 3) := by decide +kernel
theorem dX9_world_80 : decode cX9_world 80 = .ok (.iload 6, 2) := by decide +kernel
theorem dX9_world_82 : decode cX9_world 82 = .ok (.sipush 4096, 3) := by decide +kernel
theorem dX9_world_85 : decode cX9_world 85 = .ok (.iadd, 1) := by decide +kernel
theorem dX9_world_86 : decode cX9_world 86 = .ok (.istore 8, 2) := by decide +kernel
theorem dX9_world_88 : decode cX9_world 88 = .ok (.iinc 2 1, 3) := by decide +kernel
theorem dX9_world_91 : decode cX9_world 91 = .ok (.iload 7, 2) := by decide +kernel
theorem dX9_world_93 : decode cX9_world 93 = .ok (.iload_n 3, 1) := by decide +kernel
theorem dX9_world_94 : decode cX9_world 94 = .ok (.if_icmp .gt 20, 3) := by decide +kernel
theorem dX9_world_97 : decode cX9_world 97 = .ok (.iload 7, 2) := by decide +kernel
theorem dX9_world_99 : decode cX9_world 99 = .ok (.iload_n 3, 1) := by decide +kernel
theorem dX9_world_100 : decode cX9_world 100 = .ok (.if_icmp .ne 23, 3) := by decide +kernel
theorem dX9_world_103 : decode cX9_world 103 = .ok (.aload_n 0, 1) := by decide +kernel
theorem dX9_world_104 : decode cX9_world 104 = .ok (.iload 6, 2) := by decide +kernel
theorem dX9_world_106 : decode cX9_world 106 = .ok (.invokevirtual 222, 3) := by decide +kernel
theorem dX9_world_109 : decode cX9_world 109 = .ok (.iload 4, 2) := by decide +kernel
theorem dX9_world_111 : decode cX9_world 111 = .ok (.if_icmp .ge 12, 3) := by decide +kernel
theorem dX9_world_114 : decode cX9_world 114 = .ok (.aload_n 0, 1) := by decide +kernel
theorem dX9_world_115 : decode cX9_world 115 = .ok (.iload 6, 2) := by decide +kernel
theorem dX9_world_117 : decode cX9_world 117 = .ok (.invokevirtual 222, 3) := by decide +kernel
theorem dX9_world_120 : decode cX9_world 120 = .ok (.goto 5, 3) := by decide +kernel
theorem dX9_world_123 : decode cX9_world 123 = .ok (.iload 4, 2) := by decide +kernel
theorem dX9_world_125 : decode cX9_world 125 = .ok (.istore 4, 2) := by decide +kernel
theorem dX9_world_127 : decode cX9_world 127 = .ok (.iload_n 3, 1) := by decide +kernel
theorem dX9_world_128 : decode cX9_world 128 = .ok (.iload 7, 2) := by decide +kernel
theorem dX9_world_130 : decode cX9_world 130 = .ok (.invokestatic 225, 3) := by decide +kernel
theorem dX9_world_133 : decode cX9_world 133 = .ok (.istore_n 3, 1) := by decide +kernel
theorem dX9_world_134 : decode cX9_world 134 = .ok (.iload 5, 2) := by decide +kernel
theorem dX9_world_136 : decode cX9_world 136 = .ok (.aload_n 0, 1) := by decide +kernel
theorem dX9_world_137 : decode cX9_world 137 = .ok (.iload 8, 2) := by decide +kernel
theorem dX9_world_139 : decode cX9_world 139 = .ok (.invokevirtual 190, 3) := by decide +kernel
theorem dX9_world_142 : decode cX9_world 142 = .ok (.ifCond .ne 7, 3) := by decide +kernel
theorem dX9_world_145 : decode cX9_world 145 = .ok (.iconst 1, 1) := by decide +kernel
theorem dX9_world_146 : decode cX9_world 146 = .ok (.goto 4, 3) := by decide +kernel
theorem dX9_world_149 : decode cX9_world 149 = .ok (.iconst 0, 1) := by decide +kernel
theorem dX9_world_150 : decode cX9_world 150 = .ok (.iadd, 1) := by decide +kernel
theorem dX9_world_151 : decode cX9_world 151 = .ok (.istore 5, 2) := by decide +kernel
theorem dX9_world_153 : decode cX9_world 153 = .ok (.iinc 6 1, 3) := by decide +kernel
theorem dX9_world_156 : decode cX9_world 156 = .ok (.goto (-114), 3) := by decide +kernel
theorem dX9_world_159 : decode cX9_world 159 = .ok (.iload_n 1, 1) := by decide +kernel
theorem dX9_world_160 : decode cX9_world 160 = .ok (.ifCond .ne 7, 3) := by decide +kernel
theorem dX9_world_163 : decode cX9_world 163 = .ok (.iload_n 2, 1) := by decide +kernel
theorem dX9_world_164 : decode cX9_world 164 = .ok (.goto 24, 3) := by decide +kernel
theorem dX9_world_167 : decode cX9_world 167 = .ok (.iload_n 1, 1) := by decide +kernel
theorem dX9_world_168 : decode cX9_world 168 = .ok (.iconst 1, 1) := by decide +kernel
theorem dX9_world_169 : decode cX9_world 169 = .ok (.if_icmp .ne 7, 3) := by decide +kernel
theorem dX9_world_172 : decode cX9_world 172 = .ok (.iload_n 3, 1) := by decide +kernel
theorem dX9_world_173 : decode cX9_world 173 = .ok (.goto 15, 3) := by decide +kernel
theorem dX9_world_176 : decode cX9_world 176 = .ok (.iload_n 1, 1) := by decide +kernel
theorem dX9_world_177 : decode cX9_world 177 = .ok (.iconst 2, 1) := by decide +kernel
theorem dX9_world_178 : decode cX9_world 178 = .ok (.if_icmp .ne 8, 3) := by decide +kernel
theorem dX9_world_181 : decode cX9_world 181 = .ok (.iload 4, 2) := by decide +kernel
theorem dX9_world_183 : decode cX9_world 183 = .ok (.goto 5, 3) := by decide +kernel
theorem dX9_world_186 : decode cX9_world 186 = .ok (.iload 5, 2) := by decide +kernel
theorem dX9_world_188 : decode cX9_world 188 = .ok (.ireturn, 1) := by decide +kernel
def L_X9_world_42 (N : Nat) (σ : Hp) (v0 : Nat) (v1 : Int32) : Nat → Int32 → Int32 → Int32 → Int32 → Int32 → Option (Int32 × Int32 × Int32 × Int32)
  | 0, _, _, _, _, _ => none
  | n + 1, v2, v3, v4, v5, v6 =>
  if 4096 ≤ v6 then
   some (v2, v3, v4, v5)
  else
   (m_X9_farTo N σ v0 v6).bind fun r7 =>
  if r7 < 0 then
   L_X9_world_42 N σ v0 v1 n v2 v3 v4 v5 (v6 + 1)
  else
   (gR N σ v0 9 13).bind fun x9 =>
  (aI 0 N σ x9 v6).bind fun x10 =>
  ((if x10 = r7 then
   some v6
  else
   some (v6 + 4096)) : Option (Int32)).bind fun z11 =>
  ((if v3 < r7 then
   (m_X9_codeOf N σ v0 v6).bind fun r19 =>
  some r19
  else
   if r7 = v3 then
   (m_X9_codeOf N σ v0 v6).bind fun r21 =>
  if v4 ≤ r21 then
   some v4
  else
   (m_X9_codeOf N σ v0 v6).bind fun r23 =>
  some r23
  else
   some v4) : Option (Int32)).bind fun z12 =>
  (m_X9_larger v3 r7).bind fun r13 =>
  (m_X9_movesOf N σ v0 z11).bind fun r14 =>
  if r14 = 0 then
   L_X9_world_42 N σ v0 v1 n (v2 + 1) r13 z12 (v5 + 1) (v6 + 1)
  else
   L_X9_world_42 N σ v0 v1 n (v2 + 1) r13 z12 (v5 + 0) (v6 + 1)
def m_X9_world (N : Nat) (σ : Hp) (t0 : Nat) (p1 : Int32) : Option (Int32 × Hp) :=
  (rv N σ t0 9).bind fun _ =>
  (m_X9_isBoard N σ t0).bind fun r1 =>
  if r1 = 0 then
   some ((-1000002), σ)
  else
   (m_X9_in p1.toInt64 0 3).bind fun r3 =>
  if r3 = 0 then
   some ((-1000001), σ)
  else
   (m_X9_spreads N σ t0).bind fun r5 =>
  (L_X9_world_42 N r5 t0 p1 fu 0 (-1) 0 0 0).bind fun z27 =>
  if p1 = 0 then
   some (z27.1, r5)
  else
   if p1 = 1 then
   some (z27.2.1, r5)
  else
   if p1 = 2 then
   some (z27.2.2.1, r5)
  else
   some (z27.2.2.2, r5)
set_option maxHeartbeats 4000000 in
set_option maxRecDepth 100000 in
theorem lp_X9_world_42 {κ : Kx} {ω : Om} (C : Cx κ 9 5 cX9_world RX9 "world") (Z : Zx κ ω) (σ : Hp) (v0 : Nat) (v1 : Int32) {r : Int32 × Int32 × Int32 × Int32} (hk : X κ 9 ω 159 [none, some (.int v1), some (.int r.1), some (.int r.2.1), some (.int r.2.2.1), some (.int r.2.2.2), none, none, none] [] σ) : ∀ (n : Nat) (v2 : Int32) (v3 : Int32) (v4 : Int32) (v5 : Int32) (v6 : Int32), L_X9_world_42 ω.1 σ v0 v1 n v2 v3 v4 v5 v6 = some r → X κ 9 ω 42 [some (.ref v0), some (.int v1), some (.int v2), some (.int v3), some (.int v4), some (.int v5), some (.int v6), none, none] [] σ := by
  intro n
  induction n with
  | zero => intro v2 v3 v4 v5 v6 h; cases h
  | succ n ih =>
    intro v2 v3 v4 v5 v6 h
    rw [L_X9_world_42.eq_2] at h
    refine x_iload C (i := 6) dX9_world_42 rfl ?_
    refine x_sipush C (v := 4096) dX9_world_44 (by decide) ?_
    refine x_icmp_ge C (tgt := 159) dX9_world_47 (by decide) (fun c6 => ?_) (fun c6 => ?_)
    · have h := ifP h c6
      refine x_wk [false, true, true, true, true, true, false, false, false] (lo' := [none, some (.int v1), some (.int v2), some (.int v3), some (.int v4), some (.int v5), none, none, none]) rfl ?_
      obtain rfl := Option.some.inj h
      exact hk
    · have h := ifN h c6
      refine x_aload_n C (i := 0) dX9_world_50 rfl rfl ?_
      refine x_iload C (i := 6) dX9_world_51 rfl ?_
      obtain ⟨r7, er7, h⟩ := ob h
      refine x_callVr C Z mv_X9_farTo lk_X9_205 (rv_h er7) (ct_X9_farTo er7) (by decide) rfl rfl (Nat.le_of_ble_eq_true rfl) dX9_world_53 ?_
      refine x_istore C (i := 7) (lo' := [some (.ref v0), some (.int v1), some (.int v2), some (.int v3), some (.int v4), some (.int v5), some (.int v6), some (.int r7), none]) dX9_world_56 (by decide) rfl rfl ?_
      refine x_iload C (i := 7) dX9_world_58 rfl ?_
      refine x_if_lt C (tgt := 153) dX9_world_60 (by decide) (fun c8 => ?_) (fun c8 => ?_)
      · have h := ifP h c8
        refine x_iinc C (i := 6) (y := v6 + 1) (lo' := [some (.ref v0), some (.int v1), some (.int v2), some (.int v3), some (.int v4), some (.int v5), some (.int (v6 + 1)), some (.int r7), none]) dX9_world_153 rfl rfl (by decide) rfl rfl ?_
        refine x_goto C (tgt := 42) dX9_world_156 (by decide) ?_
        refine x_wk [true, true, true, true, true, true, true, false, false] (lo' := [some (.ref v0), some (.int v1), some (.int v2), some (.int v3), some (.int v4), some (.int v5), some (.int (v6 + 1)), none, none]) rfl ?_
        exact ih v2 v3 v4 v5 (v6 + 1) h
      · have h := ifN h c8
        refine x_aload_n C (i := 0) dX9_world_63 rfl rfl ?_
        obtain ⟨x9, ex9, h⟩ := ob h
        refine x_getR C fl_X9_30 dX9_world_64 ex9 ?_
        refine x_iload C (i := 6) dX9_world_67 rfl ?_
        obtain ⟨x10, ex10, h⟩ := ob h
        refine x_iald C dX9_world_69 ex10 ?_
        refine x_iload C (i := 7) dX9_world_70 rfl ?_
        obtain ⟨z11, hz11, h⟩ := ob h
        have hJ24 : X κ 9 ω 86 [some (.ref v0), some (.int v1), some (.int v2), some (.int v3), some (.int v4), some (.int v5), some (.int v6), some (.int r7), none] [.int z11] σ := by
          refine x_istore C (i := 8) (lo' := [some (.ref v0), some (.int v1), some (.int v2), some (.int v3), some (.int v4), some (.int v5), some (.int v6), some (.int r7), some (.int z11)]) dX9_world_86 (by decide) rfl rfl ?_
          refine x_iinc C (i := 2) (y := v2 + 1) (lo' := [some (.ref v0), some (.int v1), some (.int (v2 + 1)), some (.int v3), some (.int v4), some (.int v5), some (.int v6), some (.int r7), some (.int z11)]) dX9_world_88 rfl rfl (by decide) rfl rfl ?_
          refine x_iload C (i := 7) dX9_world_91 rfl ?_
          refine x_iload_n C (i := 3) dX9_world_93 rfl rfl ?_
          obtain ⟨z12, hz12, h⟩ := ob h
          have hJ16 : X κ 9 ω 125 [some (.ref v0), some (.int v1), some (.int (v2 + 1)), some (.int v3), none, some (.int v5), some (.int v6), some (.int r7), some (.int z11)] [.int z12] σ := by
            refine x_istore C (i := 4) (lo' := [some (.ref v0), some (.int v1), some (.int (v2 + 1)), some (.int v3), some (.int z12), some (.int v5), some (.int v6), some (.int r7), some (.int z11)]) dX9_world_125 (by decide) rfl rfl ?_
            refine x_iload_n C (i := 3) dX9_world_127 rfl rfl ?_
            refine x_iload C (i := 7) dX9_world_128 rfl ?_
            obtain ⟨r13, er13, h⟩ := ob h
            refine x_callSr C Z ms_X9_larger lk_X9_225 (ct_X9_larger (N := ω.1) (σ := σ) er13) (by decide) rfl rfl (Nat.le_of_ble_eq_true rfl) dX9_world_130 ?_
            refine x_istore_n C (i := 3) (lo' := [some (.ref v0), some (.int v1), some (.int (v2 + 1)), some (.int r13), some (.int z12), some (.int v5), some (.int v6), some (.int r7), some (.int z11)]) dX9_world_133 rfl (by decide) rfl rfl ?_
            refine x_iload C (i := 5) dX9_world_134 rfl ?_
            refine x_aload_n C (i := 0) dX9_world_136 rfl rfl ?_
            refine x_iload C (i := 8) dX9_world_137 rfl ?_
            obtain ⟨r14, er14, h⟩ := ob h
            refine x_callVr C Z mv_X9_movesOf lk_X9_190 (rv_h er14) (ct_X9_movesOf er14) (by decide) rfl rfl (Nat.le_of_ble_eq_true rfl) dX9_world_139 ?_
            refine x_if_ne C (tgt := 149) dX9_world_142 (by decide) (fun c15 => ?_) (fun c15 => ?_)
            · have h := ifN h c15
              refine x_iconst C (v := 0) dX9_world_149 (by decide) ?_
              refine x_iadd C dX9_world_150 ?_
              refine x_istore C (i := 5) (lo' := [some (.ref v0), some (.int v1), some (.int (v2 + 1)), some (.int r13), some (.int z12), some (.int (v5 + 0)), some (.int v6), some (.int r7), some (.int z11)]) dX9_world_151 (by decide) rfl rfl ?_
              refine x_iinc C (i := 6) (y := v6 + 1) (lo' := [some (.ref v0), some (.int v1), some (.int (v2 + 1)), some (.int r13), some (.int z12), some (.int (v5 + 0)), some (.int (v6 + 1)), some (.int r7), some (.int z11)]) dX9_world_153 rfl rfl (by decide) rfl rfl ?_
              refine x_goto C (tgt := 42) dX9_world_156 (by decide) ?_
              refine x_wk [true, true, true, true, true, true, true, false, false] (lo' := [some (.ref v0), some (.int v1), some (.int (v2 + 1)), some (.int r13), some (.int z12), some (.int (v5 + 0)), some (.int (v6 + 1)), none, none]) rfl ?_
              exact ih (v2 + 1) r13 z12 (v5 + 0) (v6 + 1) h
            · have h := ifP h c15
              refine x_iconst C (v := 1) dX9_world_145 (by decide) ?_
              refine x_goto C (tgt := 150) dX9_world_146 (by decide) ?_
              refine x_iadd C dX9_world_150 ?_
              refine x_istore C (i := 5) (lo' := [some (.ref v0), some (.int v1), some (.int (v2 + 1)), some (.int r13), some (.int z12), some (.int (v5 + 1)), some (.int v6), some (.int r7), some (.int z11)]) dX9_world_151 (by decide) rfl rfl ?_
              refine x_iinc C (i := 6) (y := v6 + 1) (lo' := [some (.ref v0), some (.int v1), some (.int (v2 + 1)), some (.int r13), some (.int z12), some (.int (v5 + 1)), some (.int (v6 + 1)), some (.int r7), some (.int z11)]) dX9_world_153 rfl rfl (by decide) rfl rfl ?_
              refine x_goto C (tgt := 42) dX9_world_156 (by decide) ?_
              refine x_wk [true, true, true, true, true, true, true, false, false] (lo' := [some (.ref v0), some (.int v1), some (.int (v2 + 1)), some (.int r13), some (.int z12), some (.int (v5 + 1)), some (.int (v6 + 1)), none, none]) rfl ?_
              exact ih (v2 + 1) r13 z12 (v5 + 1) (v6 + 1) h
          clear h
          have h := hz12
          refine x_icmp_gt C (tgt := 114) dX9_world_94 (by decide) (fun c18 => ?_) (fun c18 => ?_)
          · have h := ifP h c18
            refine x_aload_n C (i := 0) dX9_world_114 rfl rfl ?_
            refine x_iload C (i := 6) dX9_world_115 rfl ?_
            obtain ⟨r19, er19, h⟩ := ob h
            refine x_callVr C Z mv_X9_codeOf lk_X9_222 (rv_h er19) (ct_X9_codeOf er19) (by decide) rfl rfl (Nat.le_of_ble_eq_true rfl) dX9_world_117 ?_
            refine x_goto C (tgt := 125) dX9_world_120 (by decide) ?_
            refine x_wk [true, true, true, true, false, true, true, true, true] (lo' := [some (.ref v0), some (.int v1), some (.int (v2 + 1)), some (.int v3), none, some (.int v5), some (.int v6), some (.int r7), some (.int z11)]) rfl ?_
            obtain rfl := Option.some.inj h
            exact hJ16
          · have h := ifN h c18
            refine x_iload C (i := 7) dX9_world_97 rfl ?_
            refine x_iload_n C (i := 3) dX9_world_99 rfl rfl ?_
            refine x_icmp_ne C (tgt := 123) dX9_world_100 (by decide) (fun c20 => ?_) (fun c20 => ?_)
            · have h := ifN h c20
              refine x_iload C (i := 4) dX9_world_123 rfl ?_
              refine x_wk [true, true, true, true, false, true, true, true, true] (lo' := [some (.ref v0), some (.int v1), some (.int (v2 + 1)), some (.int v3), none, some (.int v5), some (.int v6), some (.int r7), some (.int z11)]) rfl ?_
              obtain rfl := Option.some.inj h
              exact hJ16
            · have h := ifP h c20
              refine x_aload_n C (i := 0) dX9_world_103 rfl rfl ?_
              refine x_iload C (i := 6) dX9_world_104 rfl ?_
              obtain ⟨r21, er21, h⟩ := ob h
              refine x_callVr C Z mv_X9_codeOf lk_X9_222 (rv_h er21) (ct_X9_codeOf er21) (by decide) rfl rfl (Nat.le_of_ble_eq_true rfl) dX9_world_106 ?_
              refine x_iload C (i := 4) dX9_world_109 rfl ?_
              refine x_icmp_ge C (tgt := 123) dX9_world_111 (by decide) (fun c22 => ?_) (fun c22 => ?_)
              · have h := ifP h c22
                refine x_iload C (i := 4) dX9_world_123 rfl ?_
                refine x_wk [true, true, true, true, false, true, true, true, true] (lo' := [some (.ref v0), some (.int v1), some (.int (v2 + 1)), some (.int v3), none, some (.int v5), some (.int v6), some (.int r7), some (.int z11)]) rfl ?_
                obtain rfl := Option.some.inj h
                exact hJ16
              · have h := ifN h c22
                refine x_aload_n C (i := 0) dX9_world_114 rfl rfl ?_
                refine x_iload C (i := 6) dX9_world_115 rfl ?_
                obtain ⟨r23, er23, h⟩ := ob h
                refine x_callVr C Z mv_X9_codeOf lk_X9_222 (rv_h er23) (ct_X9_codeOf er23) (by decide) rfl rfl (Nat.le_of_ble_eq_true rfl) dX9_world_117 ?_
                refine x_goto C (tgt := 125) dX9_world_120 (by decide) ?_
                refine x_wk [true, true, true, true, false, true, true, true, true] (lo' := [some (.ref v0), some (.int v1), some (.int (v2 + 1)), some (.int v3), none, some (.int v5), some (.int v6), some (.int r7), some (.int z11)]) rfl ?_
                obtain rfl := Option.some.inj h
                exact hJ16
        clear h
        have h := hz11
        refine x_icmp_ne C (tgt := 80) dX9_world_72 (by decide) (fun c26 => ?_) (fun c26 => ?_)
        · have h := ifN h c26
          refine x_iload C (i := 6) dX9_world_80 rfl ?_
          refine x_sipush C (v := 4096) dX9_world_82 (by decide) ?_
          refine x_iadd C dX9_world_85 ?_
          refine x_wk [true, true, true, true, true, true, true, true, false] (lo' := [some (.ref v0), some (.int v1), some (.int v2), some (.int v3), some (.int v4), some (.int v5), some (.int v6), some (.int r7), none]) rfl ?_
          obtain rfl := Option.some.inj h
          exact hJ24
        · have h := ifP h c26
          refine x_iload C (i := 6) dX9_world_75 rfl ?_
          refine x_goto C (tgt := 86) dX9_world_77 (by decide) ?_
          refine x_wk [true, true, true, true, true, true, true, true, false] (lo' := [some (.ref v0), some (.int v1), some (.int v2), some (.int v3), some (.int v4), some (.int v5), some (.int v6), some (.int r7), none]) rfl ?_
          obtain rfl := Option.some.inj h
          exact hJ24
set_option maxHeartbeats 4000000 in
set_option maxRecDepth 100000 in
theorem ct_X9_world {l : Launch} {D : va_G} {cy : Nat → Nat} {N : Nat} {σ : Hp} {t0 : Nat} {p1 : Int32} {r : Int32 × Hp} (h : m_X9_world N σ t0 p1 = some r) : Ct l D cy yX9_world cX9_world 9 (some .int) 5 [.ref t0, .int p1] N σ (fun v s' => v = (some (.int r.1)) ∧ s' = r.2) := by
  refine Ct.intro [some (.ref t0), some (.int p1), none, none, none, none, none, none, none] (by decide) rfl (Nat.le_of_ble_eq_true rfl) ?_
  intro κ ω e1 e2 e3 e4 C Z E
  subst e1; subst e2; subst e3; subst e4
  have C : Cx κ 9 5 cX9_world RX9 "world" := C
  have hE : ∀ x : Int32 × Hp, r = x → ((some (Value.int x.1)) = (some (Value.int r.1)) ∧ x.2 = r.2) := fun x hx => by subst hx; exact ⟨rfl, rfl⟩
  unfold m_X9_world at h
  obtain ⟨_, _, h⟩ := ob h
  refine x_aload_n C (i := 0) dX9_world_0 rfl rfl ?_
  obtain ⟨r1, er1, h⟩ := ob h
  refine x_callVr C Z mv_X9_isBoard lk_X9_183 (rv_h er1) (ct_X9_isBoard er1) (by decide) rfl rfl (Nat.le_of_ble_eq_true rfl) dX9_world_1 ?_
  refine x_if_ne C (tgt := 10) dX9_world_4 (by decide) (fun c2 => ?_) (fun c2 => ?_)
  · have h := ifN h c2
    refine x_iload_n C (i := 1) dX9_world_10 rfl rfl ?_
    refine x_i2l C dX9_world_11 ?_
    refine x_lconst C (v := 0) dX9_world_12 (by decide) ?_
    refine x_ldc2 C kj_X9_220 dX9_world_13 ?_
    obtain ⟨r3, er3, h⟩ := ob h
    refine x_callSr C Z ms_X9_in lk_X9_56 (ct_X9_in (N := ω.1) (σ := σ) er3) (by decide) rfl rfl (Nat.le_of_ble_eq_true rfl) dX9_world_16 ?_
    refine x_if_ne C (tgt := 25) dX9_world_19 (by decide) (fun c4 => ?_) (fun c4 => ?_)
    · have h := ifN h c4
      refine x_aload_n C (i := 0) dX9_world_25 rfl rfl ?_
      obtain ⟨r5, er5, h⟩ := ob h
      refine x_callVn C Z mv_X9_spreads lk_X9_202 (rv_h er5) (ct_X9_spreads er5) (by decide) rfl rfl (Nat.le_of_ble_eq_true rfl) dX9_world_26 ?_
      refine x_iconst C (v := 0) dX9_world_29 (by decide) ?_
      refine x_istore_n C (i := 2) (lo' := [some (.ref t0), some (.int p1), some (.int 0), none, none, none, none, none, none]) dX9_world_30 rfl (by decide) rfl rfl ?_
      refine x_iconst C (v := (-1)) dX9_world_31 (by decide) ?_
      refine x_istore_n C (i := 3) (lo' := [some (.ref t0), some (.int p1), some (.int 0), some (.int (-1)), none, none, none, none, none]) dX9_world_32 rfl (by decide) rfl rfl ?_
      refine x_iconst C (v := 0) dX9_world_33 (by decide) ?_
      refine x_istore C (i := 4) (lo' := [some (.ref t0), some (.int p1), some (.int 0), some (.int (-1)), some (.int 0), none, none, none, none]) dX9_world_34 (by decide) rfl rfl ?_
      refine x_iconst C (v := 0) dX9_world_36 (by decide) ?_
      refine x_istore C (i := 5) (lo' := [some (.ref t0), some (.int p1), some (.int 0), some (.int (-1)), some (.int 0), some (.int 0), none, none, none]) dX9_world_37 (by decide) rfl rfl ?_
      refine x_iconst C (v := 0) dX9_world_39 (by decide) ?_
      refine x_istore C (i := 6) (lo' := [some (.ref t0), some (.int p1), some (.int 0), some (.int (-1)), some (.int 0), some (.int 0), some (.int 0), none, none]) dX9_world_40 (by decide) rfl rfl ?_
      obtain ⟨z27, ez27, h⟩ := ob h
      refine x_wk [true, true, true, true, true, true, true, false, false] (lo' := [some (.ref t0), some (.int p1), some (.int 0), some (.int (-1)), some (.int 0), some (.int 0), some (.int 0), none, none]) rfl ?_
      refine lp_X9_world_42 C Z r5 t0 p1 ?_ _ 0 (-1) 0 0 0 ez27
      refine x_iload_n C (i := 1) dX9_world_159 rfl rfl ?_
      refine x_if_ne C (tgt := 167) dX9_world_160 (by decide) (fun c28 => ?_) (fun c28 => ?_)
      · have h := ifN h c28
        refine x_iload_n C (i := 1) dX9_world_167 rfl rfl ?_
        refine x_iconst C (v := 1) dX9_world_168 (by decide) ?_
        refine x_icmp_ne C (tgt := 176) dX9_world_169 (by decide) (fun c29 => ?_) (fun c29 => ?_)
        · have h := ifN h c29
          refine x_iload_n C (i := 1) dX9_world_176 rfl rfl ?_
          refine x_iconst C (v := 2) dX9_world_177 (by decide) ?_
          refine x_icmp_ne C (tgt := 186) dX9_world_178 (by decide) (fun c30 => ?_) (fun c30 => ?_)
          · have h := ifN h c30
            refine x_iload C (i := 5) dX9_world_186 rfl ?_
            exact x_iret C E dX9_world_188 (hE (z27.2.2.2, r5) (Option.some.inj h).symm)
          · have h := ifP h c30
            refine x_iload C (i := 4) dX9_world_181 rfl ?_
            refine x_goto C (tgt := 188) dX9_world_183 (by decide) ?_
            exact x_iret C E dX9_world_188 (hE (z27.2.2.1, r5) (Option.some.inj h).symm)
        · have h := ifP h c29
          refine x_iload_n C (i := 3) dX9_world_172 rfl rfl ?_
          refine x_goto C (tgt := 188) dX9_world_173 (by decide) ?_
          exact x_iret C E dX9_world_188 (hE (z27.2.1, r5) (Option.some.inj h).symm)
      · have h := ifP h c28
        refine x_iload_n C (i := 2) dX9_world_163 rfl rfl ?_
        refine x_goto C (tgt := 188) dX9_world_164 (by decide) ?_
        exact x_iret C E dX9_world_188 (hE (z27.1, r5) (Option.some.inj h).symm)
    · have h := ifP h c4
      refine x_ldc C kc_X9_66 dX9_world_22 ?_
      exact x_iret C E dX9_world_24 (hE ((-1000001), σ) (Option.some.inj h).symm)
  · have h := ifP h c2
    refine x_ldc C kc_X9_176 dX9_world_7 ?_
    exact x_iret C E dX9_world_9 (hE ((-1000002), σ) (Option.some.inj h).symm)
theorem dX9_ring_0 : decode cX9_ring 0 = .ok (.aload_n 0, 1) := by decide +kernel
theorem dX9_ring_1 : decode cX9_ring 1 = .ok (.invokevirtual 183, 3) := by decide +kernel
theorem dX9_ring_4 : decode cX9_ring 4 = .ok (.ifCond .ne 6, 3) := by decide +kernel
theorem dX9_ring_7 : decode cX9_ring 7 = .ok (.ldc 176, 2) := by decide +kernel
theorem dX9_ring_9 : decode cX9_ring 9 = .ok (.ireturn, 1) := by decide +kernel
theorem dX9_ring_10 : decode cX9_ring 10 = .ok (.aload_n 0, 1) := by decide +kernel
theorem dX9_ring_11 : decode cX9_ring 11 = .ok (.invokevirtual 202, 3) := by decide +kernel
theorem dX9_ring_14 : decode cX9_ring 14 = .ok (.aload_n 0, 1) := by decide +kernel
theorem dX9_ring_15 : decode cX9_ring 15 = .ok (.getfield 33, 3) := by decide +kernel
theorem dX9_ring_18 : decode cX9_ring 18 = .ok (.iconst 0, 1) := by decide +kernel
theorem dX9_ring_19 : decode cX9_ring 19 = .ok (.iaload, 1) := by decide +kernel
theorem dX9_ring_20 : decode cX9_ring 20 = .ok (.istore_n 1, 1) := by decide +kernel
theorem dX9_ring_21 : decode cX9_ring 21 = .ok (.aload_n 0, 1) := by decide +kernel
theorem dX9_ring_22 : decode cX9_ring 22 = .ok (.getfield 30, 3) := by decide +kernel
theorem dX9_ring_25 : decode cX9_ring 25 = .ok (.iload_n 1, 1) := by decide +kernel
theorem dX9_ring_26 : decode cX9_ring 26 = .ok (.sipush 4096, 3) := by decide +kernel
theorem dX9_ring_29 : decode cX9_ring 29 = .ok (.ixor, 1) := by decide +kernel
theorem dX9_ring_30 : decode cX9_ring 30 = .ok (.iaload, 1) := by decide +kernel
theorem dX9_ring_31 : decode cX9_ring 31 = .ok (.istore_n 2, 1) := by decide +kernel
theorem dX9_ring_32 : decode cX9_ring 32 = .ok (.iconst 0, 1) := by decide +kernel
theorem dX9_ring_33 : decode cX9_ring 33 = .ok (.istore_n 3, 1) := by decide +kernel
theorem dX9_ring_34 : decode cX9_ring 34 = .ok (.iload_n 3, 1) := by decide +kernel
theorem dX9_ring_35 : decode cX9_ring 35 = .ok (.aload_n 0, 1) := by decide +kernel
theorem dX9_ring_36 : decode cX9_ring 36 = .ok (.getfield 196, 3) := by decide +kernel
theorem dX9_ring_39 : decode cX9_ring 39 = .ok (.if_icmp .ge 93, 3) := by decide +kernel
theorem dX9_ring_42 : decode cX9_ring 42 = .ok (.aload_n 0, 1) := by decide +kernel
theorem dX9_ring_43 : decode cX9_ring 43 = .ok (.getfield 33, 3) := by decide +kernel
theorem dX9_ring_46 : decode cX9_ring 46 = .ok (.iload_n 3, 1) := by decide +kernel
theorem dX9_ring_47 : decode cX9_ring 47 = .ok (.iaload, 1) := by decide +kernel
theorem dX9_ring_48 : decode cX9_ring 48 = .ok (.istore 4, 2) := by decide +kernel
theorem dX9_ring_50 : decode cX9_ring 50 = .ok (.aload_n 0, 1) := by decide +kernel
theorem dX9_ring_51 : decode cX9_ring 51 = .ok (.iload 4, 2) := by decide +kernel
theorem dX9_ring_53 : decode cX9_ring 53 = .ok (.invokevirtual 190, 3) := by decide +kernel
theorem dX9_ring_56 : decode cX9_ring 56 = .ok (.istore 5, 2) := by decide +kernel
theorem dX9_ring_58 : decode cX9_ring 58 = .ok (.iconst 0, 1) := by decide +kernel
theorem dX9_ring_59 : decode cX9_ring 59 = .ok (.istore 6, 2) := by decide +kernel
theorem dX9_ring_61 : decode cX9_ring 61 = .ok (.iload 6, 2) := by decide +kernel
theorem dX9_ring_63 : decode cX9_ring 63 = .ok (.bipush 16, 2) := by decide +kernel
theorem dX9_ring_65 : decode cX9_ring 65 = .ok (.if_icmp .ge 61, 3) := by decide +kernel
theorem dX9_ring_68 : decode cX9_ring 68 = .ok (.iload 5, 2) := by decide +kernel
theorem dX9_ring_70 : decode cX9_ring 70 = .ok (.iload 6, 2) := by decide +kernel
theorem dX9_ring_72 : decode cX9_ring 72 = .ok (.invokestatic 138, 3) := by decide +kernel
theorem dX9_ring_75 : decode cX9_ring 75 = .ok (.ifCond .eq 45, 3) := by decide +kernel
theorem dX9_ring_78 : decode cX9_ring 78 = .ok (.aload_n 0, 1) := by decide +kernel
theorem dX9_ring_79 : decode cX9_ring 79 = .ok (.iload 4, 2) := by decide +kernel
theorem dX9_ring_81 : decode cX9_ring 81 = .ok (.iload 6, 2) := by decide +kernel
theorem dX9_ring_83 : decode cX9_ring 83 = .ok (.invokevirtual 199, 3) := by decide +kernel
theorem dX9_ring_86 : decode cX9_ring 86 = .ok (.iload_n 1, 1) := by decide +kernel
theorem dX9_ring_87 : decode cX9_ring 87 = .ok (.if_icmp .ne 33, 3) := by decide +kernel
theorem dX9_ring_90 : decode cX9_ring 90 = .ok (.iload_n 2, 1) := by decide +kernel
theorem dX9_ring_91 : decode cX9_ring 91 = .ok (.ifCond .ge 15, 3) := by decide +kernel
theorem dX9_ring_94 : decode cX9_ring 94 = .ok (.aload_n 0, 1) := by decide +kernel
theorem dX9_ring_95 : decode cX9_ring 95 = .ok (.getfield 30, 3) := by decide +kernel
theorem dX9_ring_98 : decode cX9_ring 98 = .ok (.iload 4, 2) := by decide +kernel
theorem dX9_ring_100 : decode cX9_ring 100 = .ok (.iaload, 1) := by decide +kernel
theorem dX9_ring_101 : decode cX9_ring 101 = .ok (.iconst 1, 1) := by decide +kernel
theorem dX9_ring_102 : decode cX9_ring 102 = .ok (.iadd, 1) := by decide +kernel
theorem dX9_ring_103 : decode cX9_ring 103 = .ok (.goto 16, 3) := by decide +kernel
theorem dX9_ring_106 : decode cX9_ring 106 = .ok (.iload_n 2, 1) := by decide +kernel
theorem dX9_ring_107 : decode cX9_ring 107 = .ok (.aload_n 0, 1) := by decide +kernel
theorem dX9_ring_108 : decode cX9_ring 108 = .ok (.getfield 30, 3) := by decide +kernel
theorem dX9_ring_111 : decode cX9_ring 111 = .ok (.iload 4, 2) := by decide +kernel
theorem dX9_ring_113 : decode cX9_ring 113 = .ok (.iaload, 1) := by decide +kernel
theorem dX9_ring_114 : decode cX9_ring 114 = .ok (.iconst 1, 1) := by decide +kernel
theorem dX9_ring_115 : decode cX9_ring 115 = .ok (.iadd, 1) := by decide +kernel
theorem dX9_ring_116 : decode cX9_ring 116 = .ok (.invokestatic 122, 3) := by decide +kernel
theorem dX9_ring_119 : decode cX9_ring 119 = .ok (.istore_n 2, 1) := by decide +kernel
theorem dX9_ring_120 : decode cX9_ring 120 = .ok (.iinc 6 1, 3) := by decide +kernel
theorem dX9_ring_123 : decode cX9_ring 123 = .ok (.goto (-62), 3) := by decide +kernel
theorem dX9_ring_126 : decode cX9_ring 126 = .ok (.iinc 3 1, 3) := by decide +kernel
theorem dX9_ring_129 : decode cX9_ring 129 = .ok (.goto (-95), 3) := by decide +kernel
theorem dX9_ring_132 : decode cX9_ring 132 = .ok (.iload_n 2, 1) := by decide +kernel
theorem dX9_ring_133 : decode cX9_ring 133 = .ok (.ifCond .ge 8, 3) := by decide +kernel
theorem dX9_ring_136 : decode cX9_ring 136 = .ok (.ldc 189, 2) := by decide +kernel
theorem dX9_ring_138 : decode cX9_ring 138 = .ok (.goto 4, 3) := by decide +kernel
theorem dX9_ring_141 : decode cX9_ring 141 = .ok (.iload_n 2, 1) := by decide +kernel
theorem dX9_ring_142 : decode cX9_ring 142 = .ok (.ireturn, 1) := by decide +kernel
def L_X9_ring_61 (N : Nat) (σ : Hp) (v0 : Nat) (v1 : Int32) (v3 : Int32) (v4 : Int32) (v5 : Int32) : Nat → Int32 → Int32 → Option (Int32)
  | 0, _, _ => none
  | n + 1, v2, v6 =>
  if 16 ≤ v6 then
   some v2
  else
   (m_X9_has v5 v6).bind fun r14 =>
  if r14 = 0 then
   L_X9_ring_61 N σ v0 v1 v3 v4 v5 n v2 (v6 + 1)
  else
   (m_X9_behind N σ v0 v4 v6).bind fun r16 =>
  if r16 = v1 then
   if 0 ≤ v2 then
   (gR N σ v0 9 13).bind fun x19 =>
  (aI 0 N σ x19 v4).bind fun x20 =>
  (m_X9_smaller v2 (x20 + 1)).bind fun r21 =>
  L_X9_ring_61 N σ v0 v1 v3 v4 v5 n r21 (v6 + 1)
  else
   (gR N σ v0 9 13).bind fun x22 =>
  (aI 0 N σ x22 v4).bind fun x23 =>
  L_X9_ring_61 N σ v0 v1 v3 v4 v5 n (x23 + 1) (v6 + 1)
  else
   L_X9_ring_61 N σ v0 v1 v3 v4 v5 n v2 (v6 + 1)
def L_X9_ring_34 (N : Nat) (σ : Hp) (v0 : Nat) (v1 : Int32) : Nat → Int32 → Int32 → Option (Int32)
  | 0, _, _ => none
  | n + 1, v2, v3 =>
  (gI N σ v0 9 16).bind fun x8 =>
  if x8 ≤ v3 then
   some v2
  else
   (gR N σ v0 9 14).bind fun x10 =>
  (aI 0 N σ x10 v3).bind fun x11 =>
  (m_X9_movesOf N σ v0 x11).bind fun r12 =>
  (L_X9_ring_61 N σ v0 v1 v3 x11 r12 fu v2 0).bind fun z24 =>
  L_X9_ring_34 N σ v0 v1 n z24 (v3 + 1)
def m_X9_ring (N : Nat) (σ : Hp) (t0 : Nat) : Option (Int32 × Hp) :=
  (rv N σ t0 9).bind fun _ =>
  (m_X9_isBoard N σ t0).bind fun r1 =>
  if r1 = 0 then
   some ((-1000002), σ)
  else
   (m_X9_spreads N σ t0).bind fun r3 =>
  (gR N r3 t0 9 14).bind fun x4 =>
  (aI 0 N r3 x4 0).bind fun x5 =>
  (gR N r3 t0 9 13).bind fun x6 =>
  (aI 0 N r3 x6 (x5 ^^^ 4096)).bind fun x7 =>
  (L_X9_ring_34 N r3 t0 x5 fu x7 0).bind fun z25 =>
  if 0 ≤ z25 then
   some (z25, r3)
  else
   some ((-1000000), r3)
set_option maxHeartbeats 4000000 in
set_option maxRecDepth 100000 in
theorem lp_X9_ring_61 {κ : Kx} {ω : Om} (C : Cx κ 7 5 cX9_ring RX9 "ring") (Z : Zx κ ω) (σ : Hp) (v0 : Nat) (v1 : Int32) (v3 : Int32) (v4 : Int32) (v5 : Int32) {r : Int32} (hk : X κ 7 ω 126 [some (.ref v0), some (.int v1), some (.int r), some (.int v3), none, none, none] [] σ) : ∀ (n : Nat) (v2 : Int32) (v6 : Int32), L_X9_ring_61 ω.1 σ v0 v1 v3 v4 v5 n v2 v6 = some r → X κ 7 ω 61 [some (.ref v0), some (.int v1), some (.int v2), some (.int v3), some (.int v4), some (.int v5), some (.int v6)] [] σ := by
  intro n
  induction n with
  | zero => intro v2 v6 h; cases h
  | succ n ih =>
    intro v2 v6 h
    rw [L_X9_ring_61.eq_2] at h
    refine x_iload C (i := 6) dX9_ring_61 rfl ?_
    refine x_bipush C (v := 16) dX9_ring_63 (by decide) ?_
    refine x_icmp_ge C (tgt := 126) dX9_ring_65 (by decide) (fun c13 => ?_) (fun c13 => ?_)
    · have h := ifP h c13
      refine x_wk [true, true, true, true, false, false, false] (lo' := [some (.ref v0), some (.int v1), some (.int v2), some (.int v3), none, none, none]) rfl ?_
      obtain rfl := Option.some.inj h
      exact hk
    · have h := ifN h c13
      refine x_iload C (i := 5) dX9_ring_68 rfl ?_
      refine x_iload C (i := 6) dX9_ring_70 rfl ?_
      obtain ⟨r14, er14, h⟩ := ob h
      refine x_callSr C Z ms_X9_has lk_X9_138 (ct_X9_has (N := ω.1) (σ := σ) er14) (by decide) rfl rfl (Nat.le_of_ble_eq_true rfl) dX9_ring_72 ?_
      refine x_if_eq C (tgt := 120) dX9_ring_75 (by decide) (fun c15 => ?_) (fun c15 => ?_)
      · have h := ifP h c15
        refine x_iinc C (i := 6) (y := v6 + 1) (lo' := [some (.ref v0), some (.int v1), some (.int v2), some (.int v3), some (.int v4), some (.int v5), some (.int (v6 + 1))]) dX9_ring_120 rfl rfl (by decide) rfl rfl ?_
        refine x_goto C (tgt := 61) dX9_ring_123 (by decide) ?_
        refine x_wk [true, true, true, true, true, true, true] (lo' := [some (.ref v0), some (.int v1), some (.int v2), some (.int v3), some (.int v4), some (.int v5), some (.int (v6 + 1))]) rfl ?_
        exact ih v2 (v6 + 1) h
      · have h := ifN h c15
        refine x_aload_n C (i := 0) dX9_ring_78 rfl rfl ?_
        refine x_iload C (i := 4) dX9_ring_79 rfl ?_
        refine x_iload C (i := 6) dX9_ring_81 rfl ?_
        obtain ⟨r16, er16, h⟩ := ob h
        refine x_callVr C Z mv_X9_behind lk_X9_199 (rv_h er16) (ct_X9_behind er16) (by decide) rfl rfl (Nat.le_of_ble_eq_true rfl) dX9_ring_83 ?_
        refine x_iload_n C (i := 1) dX9_ring_86 rfl rfl ?_
        refine x_icmp_ne C (tgt := 120) dX9_ring_87 (by decide) (fun c17 => ?_) (fun c17 => ?_)
        · have h := ifN h c17
          refine x_iinc C (i := 6) (y := v6 + 1) (lo' := [some (.ref v0), some (.int v1), some (.int v2), some (.int v3), some (.int v4), some (.int v5), some (.int (v6 + 1))]) dX9_ring_120 rfl rfl (by decide) rfl rfl ?_
          refine x_goto C (tgt := 61) dX9_ring_123 (by decide) ?_
          refine x_wk [true, true, true, true, true, true, true] (lo' := [some (.ref v0), some (.int v1), some (.int v2), some (.int v3), some (.int v4), some (.int v5), some (.int (v6 + 1))]) rfl ?_
          exact ih v2 (v6 + 1) h
        · have h := ifP h c17
          refine x_iload_n C (i := 2) dX9_ring_90 rfl rfl ?_
          refine x_if_ge C (tgt := 106) dX9_ring_91 (by decide) (fun c18 => ?_) (fun c18 => ?_)
          · have h := ifP h c18
            refine x_iload_n C (i := 2) dX9_ring_106 rfl rfl ?_
            refine x_aload_n C (i := 0) dX9_ring_107 rfl rfl ?_
            obtain ⟨x19, ex19, h⟩ := ob h
            refine x_getR C fl_X9_30 dX9_ring_108 ex19 ?_
            refine x_iload C (i := 4) dX9_ring_111 rfl ?_
            obtain ⟨x20, ex20, h⟩ := ob h
            refine x_iald C dX9_ring_113 ex20 ?_
            refine x_iconst C (v := 1) dX9_ring_114 (by decide) ?_
            refine x_iadd C dX9_ring_115 ?_
            obtain ⟨r21, er21, h⟩ := ob h
            refine x_callSr C Z ms_X9_smaller lk_X9_122 (ct_X9_smaller (N := ω.1) (σ := σ) er21) (by decide) rfl rfl (Nat.le_of_ble_eq_true rfl) dX9_ring_116 ?_
            refine x_istore_n C (i := 2) (lo' := [some (.ref v0), some (.int v1), some (.int r21), some (.int v3), some (.int v4), some (.int v5), some (.int v6)]) dX9_ring_119 rfl (by decide) rfl rfl ?_
            refine x_iinc C (i := 6) (y := v6 + 1) (lo' := [some (.ref v0), some (.int v1), some (.int r21), some (.int v3), some (.int v4), some (.int v5), some (.int (v6 + 1))]) dX9_ring_120 rfl rfl (by decide) rfl rfl ?_
            refine x_goto C (tgt := 61) dX9_ring_123 (by decide) ?_
            refine x_wk [true, true, true, true, true, true, true] (lo' := [some (.ref v0), some (.int v1), some (.int r21), some (.int v3), some (.int v4), some (.int v5), some (.int (v6 + 1))]) rfl ?_
            exact ih r21 (v6 + 1) h
          · have h := ifN h c18
            refine x_aload_n C (i := 0) dX9_ring_94 rfl rfl ?_
            obtain ⟨x22, ex22, h⟩ := ob h
            refine x_getR C fl_X9_30 dX9_ring_95 ex22 ?_
            refine x_iload C (i := 4) dX9_ring_98 rfl ?_
            obtain ⟨x23, ex23, h⟩ := ob h
            refine x_iald C dX9_ring_100 ex23 ?_
            refine x_iconst C (v := 1) dX9_ring_101 (by decide) ?_
            refine x_iadd C dX9_ring_102 ?_
            refine x_goto C (tgt := 119) dX9_ring_103 (by decide) ?_
            refine x_istore_n C (i := 2) (lo' := [some (.ref v0), some (.int v1), some (.int (x23 + 1)), some (.int v3), some (.int v4), some (.int v5), some (.int v6)]) dX9_ring_119 rfl (by decide) rfl rfl ?_
            refine x_iinc C (i := 6) (y := v6 + 1) (lo' := [some (.ref v0), some (.int v1), some (.int (x23 + 1)), some (.int v3), some (.int v4), some (.int v5), some (.int (v6 + 1))]) dX9_ring_120 rfl rfl (by decide) rfl rfl ?_
            refine x_goto C (tgt := 61) dX9_ring_123 (by decide) ?_
            refine x_wk [true, true, true, true, true, true, true] (lo' := [some (.ref v0), some (.int v1), some (.int (x23 + 1)), some (.int v3), some (.int v4), some (.int v5), some (.int (v6 + 1))]) rfl ?_
            exact ih (x23 + 1) (v6 + 1) h
set_option maxHeartbeats 4000000 in
set_option maxRecDepth 100000 in
theorem lp_X9_ring_34 {κ : Kx} {ω : Om} (C : Cx κ 7 5 cX9_ring RX9 "ring") (Z : Zx κ ω) (σ : Hp) (v0 : Nat) (v1 : Int32) {r : Int32} (hk : X κ 7 ω 132 [none, none, some (.int r), none, none, none, none] [] σ) : ∀ (n : Nat) (v2 : Int32) (v3 : Int32), L_X9_ring_34 ω.1 σ v0 v1 n v2 v3 = some r → X κ 7 ω 34 [some (.ref v0), some (.int v1), some (.int v2), some (.int v3), none, none, none] [] σ := by
  intro n
  induction n with
  | zero => intro v2 v3 h; cases h
  | succ n ih =>
    intro v2 v3 h
    rw [L_X9_ring_34.eq_2] at h
    refine x_iload_n C (i := 3) dX9_ring_34 rfl rfl ?_
    refine x_aload_n C (i := 0) dX9_ring_35 rfl rfl ?_
    obtain ⟨x8, ex8, h⟩ := ob h
    refine x_getI C fl_X9_196 dX9_ring_36 ex8 ?_
    refine x_icmp_ge C (tgt := 132) dX9_ring_39 (by decide) (fun c9 => ?_) (fun c9 => ?_)
    · have h := ifP h c9
      refine x_wk [false, false, true, false, false, false, false] (lo' := [none, none, some (.int v2), none, none, none, none]) rfl ?_
      obtain rfl := Option.some.inj h
      exact hk
    · have h := ifN h c9
      refine x_aload_n C (i := 0) dX9_ring_42 rfl rfl ?_
      obtain ⟨x10, ex10, h⟩ := ob h
      refine x_getR C fl_X9_33 dX9_ring_43 ex10 ?_
      refine x_iload_n C (i := 3) dX9_ring_46 rfl rfl ?_
      obtain ⟨x11, ex11, h⟩ := ob h
      refine x_iald C dX9_ring_47 ex11 ?_
      refine x_istore C (i := 4) (lo' := [some (.ref v0), some (.int v1), some (.int v2), some (.int v3), some (.int x11), none, none]) dX9_ring_48 (by decide) rfl rfl ?_
      refine x_aload_n C (i := 0) dX9_ring_50 rfl rfl ?_
      refine x_iload C (i := 4) dX9_ring_51 rfl ?_
      obtain ⟨r12, er12, h⟩ := ob h
      refine x_callVr C Z mv_X9_movesOf lk_X9_190 (rv_h er12) (ct_X9_movesOf er12) (by decide) rfl rfl (Nat.le_of_ble_eq_true rfl) dX9_ring_53 ?_
      refine x_istore C (i := 5) (lo' := [some (.ref v0), some (.int v1), some (.int v2), some (.int v3), some (.int x11), some (.int r12), none]) dX9_ring_56 (by decide) rfl rfl ?_
      refine x_iconst C (v := 0) dX9_ring_58 (by decide) ?_
      refine x_istore C (i := 6) (lo' := [some (.ref v0), some (.int v1), some (.int v2), some (.int v3), some (.int x11), some (.int r12), some (.int 0)]) dX9_ring_59 (by decide) rfl rfl ?_
      obtain ⟨z24, ez24, h⟩ := ob h
      refine x_wk [true, true, true, true, true, true, true] (lo' := [some (.ref v0), some (.int v1), some (.int v2), some (.int v3), some (.int x11), some (.int r12), some (.int 0)]) rfl ?_
      refine lp_X9_ring_61 C Z σ v0 v1 v3 x11 r12 ?_ _ v2 0 ez24
      refine x_iinc C (i := 3) (y := v3 + 1) (lo' := [some (.ref v0), some (.int v1), some (.int z24), some (.int (v3 + 1)), none, none, none]) dX9_ring_126 rfl rfl (by decide) rfl rfl ?_
      refine x_goto C (tgt := 34) dX9_ring_129 (by decide) ?_
      refine x_wk [true, true, true, true, false, false, false] (lo' := [some (.ref v0), some (.int v1), some (.int z24), some (.int (v3 + 1)), none, none, none]) rfl ?_
      exact ih z24 (v3 + 1) h
set_option maxHeartbeats 4000000 in
set_option maxRecDepth 100000 in
theorem ct_X9_ring {l : Launch} {D : va_G} {cy : Nat → Nat} {N : Nat} {σ : Hp} {t0 : Nat} {r : Int32 × Hp} (h : m_X9_ring N σ t0 = some r) : Ct l D cy yX9_ring cX9_ring 7 (some .int) 5 [.ref t0] N σ (fun v s' => v = (some (.int r.1)) ∧ s' = r.2) := by
  refine Ct.intro [some (.ref t0), none, none, none, none, none, none] (by decide) rfl (Nat.le_of_ble_eq_true rfl) ?_
  intro κ ω e1 e2 e3 e4 C Z E
  subst e1; subst e2; subst e3; subst e4
  have C : Cx κ 7 5 cX9_ring RX9 "ring" := C
  have hE : ∀ x : Int32 × Hp, r = x → ((some (Value.int x.1)) = (some (Value.int r.1)) ∧ x.2 = r.2) := fun x hx => by subst hx; exact ⟨rfl, rfl⟩
  unfold m_X9_ring at h
  obtain ⟨_, _, h⟩ := ob h
  refine x_aload_n C (i := 0) dX9_ring_0 rfl rfl ?_
  obtain ⟨r1, er1, h⟩ := ob h
  refine x_callVr C Z mv_X9_isBoard lk_X9_183 (rv_h er1) (ct_X9_isBoard er1) (by decide) rfl rfl (Nat.le_of_ble_eq_true rfl) dX9_ring_1 ?_
  refine x_if_ne C (tgt := 10) dX9_ring_4 (by decide) (fun c2 => ?_) (fun c2 => ?_)
  · have h := ifN h c2
    refine x_aload_n C (i := 0) dX9_ring_10 rfl rfl ?_
    obtain ⟨r3, er3, h⟩ := ob h
    refine x_callVn C Z mv_X9_spreads lk_X9_202 (rv_h er3) (ct_X9_spreads er3) (by decide) rfl rfl (Nat.le_of_ble_eq_true rfl) dX9_ring_11 ?_
    refine x_aload_n C (i := 0) dX9_ring_14 rfl rfl ?_
    obtain ⟨x4, ex4, h⟩ := ob h
    refine x_getR C fl_X9_33 dX9_ring_15 ex4 ?_
    refine x_iconst C (v := 0) dX9_ring_18 (by decide) ?_
    obtain ⟨x5, ex5, h⟩ := ob h
    refine x_iald C dX9_ring_19 ex5 ?_
    refine x_istore_n C (i := 1) (lo' := [some (.ref t0), some (.int x5), none, none, none, none, none]) dX9_ring_20 rfl (by decide) rfl rfl ?_
    refine x_aload_n C (i := 0) dX9_ring_21 rfl rfl ?_
    obtain ⟨x6, ex6, h⟩ := ob h
    refine x_getR C fl_X9_30 dX9_ring_22 ex6 ?_
    refine x_iload_n C (i := 1) dX9_ring_25 rfl rfl ?_
    refine x_sipush C (v := 4096) dX9_ring_26 (by decide) ?_
    refine x_ixor C dX9_ring_29 ?_
    obtain ⟨x7, ex7, h⟩ := ob h
    refine x_iald C dX9_ring_30 ex7 ?_
    refine x_istore_n C (i := 2) (lo' := [some (.ref t0), some (.int x5), some (.int x7), none, none, none, none]) dX9_ring_31 rfl (by decide) rfl rfl ?_
    refine x_iconst C (v := 0) dX9_ring_32 (by decide) ?_
    refine x_istore_n C (i := 3) (lo' := [some (.ref t0), some (.int x5), some (.int x7), some (.int 0), none, none, none]) dX9_ring_33 rfl (by decide) rfl rfl ?_
    obtain ⟨z25, ez25, h⟩ := ob h
    refine x_wk [true, true, true, true, false, false, false] (lo' := [some (.ref t0), some (.int x5), some (.int x7), some (.int 0), none, none, none]) rfl ?_
    refine lp_X9_ring_34 C Z r3 t0 x5 ?_ _ x7 0 ez25
    refine x_iload_n C (i := 2) dX9_ring_132 rfl rfl ?_
    refine x_if_ge C (tgt := 141) dX9_ring_133 (by decide) (fun c26 => ?_) (fun c26 => ?_)
    · have h := ifP h c26
      refine x_iload_n C (i := 2) dX9_ring_141 rfl rfl ?_
      exact x_iret C E dX9_ring_142 (hE (z25, r3) (Option.some.inj h).symm)
    · have h := ifN h c26
      refine x_ldc C kc_X9_189 dX9_ring_136 ?_
      refine x_goto C (tgt := 142) dX9_ring_138 (by decide) ?_
      exact x_iret C E dX9_ring_142 (hE ((-1000000), r3) (Option.some.inj h).symm)
  · have h := ifP h c2
    refine x_ldc C kc_X9_176 dX9_ring_7 ?_
    exact x_iret C E dX9_ring_9 (hE ((-1000002), σ) (Option.some.inj h).symm)
