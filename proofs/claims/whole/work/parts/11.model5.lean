theorem dX9_chance_0 : decode cX9_chance 0 = .ok (.aload_n 0, 1) := by decide +kernel
theorem dX9_chance_1 : decode cX9_chance 1 = .ok (.iload_n 1, 1) := by decide +kernel
theorem dX9_chance_2 : decode cX9_chance 2 = .ok (.invokevirtual 180, 3) := by decide +kernel
theorem dX9_chance_5 : decode cX9_chance 5 = .ok (.ifCond .eq 34, 3) := by decide +kernel
theorem dX9_chance_8 : decode cX9_chance 8 = .ok (.aload_n 0, 1) := by decide +kernel
theorem dX9_chance_9 : decode cX9_chance 9 = .ok (.iload_n 2, 1) := by decide +kernel
theorem dX9_chance_10 : decode cX9_chance 10 = .ok (.invokevirtual 163, 3) := by decide +kernel
theorem dX9_chance_13 : decode cX9_chance 13 = .ok (.ifCond .eq 26, 3) := by decide +kernel
theorem dX9_chance_16 : decode cX9_chance 16 = .ok (.iload_n 3, 1) := by decide +kernel
theorem dX9_chance_17 : decode cX9_chance 17 = .ok (.i2l, 1) := by decide +kernel
theorem dX9_chance_18 : decode cX9_chance 18 = .ok (.lconst 0, 1) := by decide +kernel
theorem dX9_chance_19 : decode cX9_chance 19 = .ok (.ldc2_w 54, 3) := by decide +kernel
theorem dX9_chance_22 : decode cX9_chance 22 = .ok (.invokestatic 56, 3) := by decide +kernel
theorem dX9_chance_25 : decode cX9_chance 25 = .ok (.ifCond .eq 14, 3) := by decide +kernel
theorem dX9_chance_28 : decode cX9_chance 28 = .ok (.iload 4, 2) := by decide +kernel
theorem dX9_chance_30 : decode cX9_chance 30 = .ok (.i2l, 1) := by decide +kernel
theorem dX9_chance_31 : decode cX9_chance 31 = .ok (.lconst 0, 1) := by decide +kernel
theorem dX9_chance_32 : decode cX9_chance 32 = .ok (.lconst 1, 1) := by decide +kernel
theorem dX9_chance_33 : decode cX9_chance 33 = .ok (.invokestatic 56, 3) := by decide +kernel
theorem dX9_chance_36 : decode cX9_chance 36 = .ok (.ifCond .ne 7, 3) := by decide +kernel
theorem dX9_chance_39 : decode cX9_chance 39 = .ok (.ldc2_w 234, 3) := by decide +kernel
theorem dX9_chance_42 : decode cX9_chance 42 = .ok (.lreturn, 1) := by decide +kernel
theorem dX9_chance_43 : decode cX9_chance 43 = .ok (.aload_n 0, 1) := by decide +kernel
theorem dX9_chance_44 : decode cX9_chance 44 = .ok (.invokevirtual 236, 3) := by decide +kernel
theorem dX9_chance_47 : decode cX9_chance 47 = .ok (.lconst 1, 1) := by decide +kernel
theorem dX9_chance_48 : decode cX9_chance 48 = .ok (.lstore 5, 2) := by decide +kernel
theorem dX9_chance_50 : decode cX9_chance 50 = .ok (.iconst 0, 1) := by decide +kernel
theorem dX9_chance_51 : decode cX9_chance 51 = .ok (.istore 7, 2) := by decide +kernel
theorem dX9_chance_53 : decode cX9_chance 53 = .ok (.iload 7, 2) := by decide +kernel
theorem dX9_chance_55 : decode cX9_chance 55 = .ok (.iload_n 3, 1) := by decide +kernel
theorem dX9_chance_56 : decode cX9_chance 56 = .ok (.if_icmp .ge 22, 3) := by decide +kernel
theorem dX9_chance_59 : decode cX9_chance 59 = .ok (.aload_n 0, 1) := by decide +kernel
theorem dX9_chance_60 : decode cX9_chance 60 = .ok (.iconst 1, 1) := by decide +kernel
theorem dX9_chance_61 : decode cX9_chance 61 = .ok (.invokevirtual 239, 3) := by decide +kernel
theorem dX9_chance_64 : decode cX9_chance 64 = .ok (.lload 5, 2) := by decide +kernel
theorem dX9_chance_66 : decode cX9_chance 66 = .ok (.ldc2_w 228, 3) := by decide +kernel
theorem dX9_chance_69 : decode cX9_chance 69 = .ok (.lmul, 1) := by decide +kernel
theorem dX9_chance_70 : decode cX9_chance 70 = .ok (.lstore 5, 2) := by decide +kernel
theorem dX9_chance_72 : decode cX9_chance 72 = .ok (.iinc 7 1, 3) := by decide +kernel
theorem dX9_chance_75 : decode cX9_chance 75 = .ok (.goto (-22), 3) := by decide +kernel
theorem dX9_chance_78 : decode cX9_chance 78 = .ok (.lconst 0, 1) := by decide +kernel
theorem dX9_chance_79 : decode cX9_chance 79 = .ok (.lstore 7, 2) := by decide +kernel
theorem dX9_chance_81 : decode cX9_chance 81 = .ok (.iconst 0, 1) := by decide +kernel
theorem dX9_chance_82 : decode cX9_chance 82 = .ok (.istore 9, 2) := by decide +kernel
theorem dX9_chance_84 : decode cX9_chance 84 = .ok (.iload 9, 2) := by decide +kernel
theorem dX9_chance_86 : decode cX9_chance 86 = .ok (.sipush 8192, 3) := by decide +kernel
theorem dX9_chance_89 : decode cX9_chance 89 = .ok (.if_icmp .ge 35, 3) := by decide +kernel
theorem dX9_chance_92 : decode cX9_chance 92 = .ok (.lload 7, 2) := by decide +kernel
theorem dX9_chance_94 : decode cX9_chance 94 = .ok (.iload 9, 2) := by decide +kernel
theorem dX9_chance_96 : decode cX9_chance 96 = .ok (.iload_n 1, 1) := by decide +kernel
theorem dX9_chance_97 : decode cX9_chance 97 = .ok (.invokestatic 135, 3) := by decide +kernel
theorem dX9_chance_100 : decode cX9_chance 100 = .ok (.iload_n 2, 1) := by decide +kernel
theorem dX9_chance_101 : decode cX9_chance 101 = .ok (.if_icmp .ne 13, 3) := by decide +kernel
theorem dX9_chance_104 : decode cX9_chance 104 = .ok (.aload_n 0, 1) := by decide +kernel
theorem dX9_chance_105 : decode cX9_chance 105 = .ok (.getfield 39, 3) := by decide +kernel
theorem dX9_chance_108 : decode cX9_chance 108 = .ok (.iload 9, 2) := by decide +kernel
theorem dX9_chance_110 : decode cX9_chance 110 = .ok (.laload, 1) := by decide +kernel
theorem dX9_chance_111 : decode cX9_chance 111 = .ok (.goto 4, 3) := by decide +kernel
theorem dX9_chance_114 : decode cX9_chance 114 = .ok (.lconst 0, 1) := by decide +kernel
theorem dX9_chance_115 : decode cX9_chance 115 = .ok (.ladd, 1) := by decide +kernel
theorem dX9_chance_116 : decode cX9_chance 116 = .ok (.lstore 7, 2) := by decide +kernel
theorem dX9_chance_118 : decode cX9_chance 118 = .ok (.iinc 9 1, 3) := by decide +kernel
theorem dX9_chance_121 : decode cX9_chance 121 = .ok (.goto (-37), 3) := by decide +kernel
theorem dX9_chance_124 : decode cX9_chance 124 = .ok (.lload 7, 2) := by decide +kernel
theorem dX9_chance_126 : decode cX9_chance 126 = .ok (.lstore 9, 2) := by decide +kernel
theorem dX9_chance_128 : decode cX9_chance 128 = .ok (.lload 5, 2) := by decide +kernel
theorem dX9_chance_130 : decode cX9_chance 130 = .ok (.lstore 11, 2) := by decide +kernel
theorem dX9_chance_132 : decode cX9_chance 132 = .ok (.lload 11, 2) := by decide +kernel
theorem dX9_chance_134 : decode cX9_chance 134 = .ok (.lconst 0, 1) := by decide +kernel
theorem dX9_chance_135 : decode cX9_chance 135 = .ok (.lcmp, 1) := by decide +kernel
theorem dX9_chance_136 : decode cX9_chance 136 = .ok (.ifCond .eq 21, 3) := by decide +kernel
theorem dX9_chance_139 : decode cX9_chance 139 = .ok (.lload 9, 2) := by decide +kernel
theorem dX9_chance_141 : decode cX9_chance 141 = .ok (.lload 11, 2) := by decide +kernel
theorem dX9_chance_143 : decode cX9_chance 143 = .ok (.lrem, 1) := by decide +kernel
theorem dX9_chance_144 : decode cX9_chance 144 = .ok (.lstore 13, 2) := by decide +kernel
theorem dX9_chance_146 : decode cX9_chance 146 = .ok (.lload 11, 2) := by decide +kernel
theorem dX9_chance_148 : decode cX9_chance 148 = .ok (.lstore 9, 2) := by decide +kernel
theorem dX9_chance_150 : decode cX9_chance 150 = .ok (.lload 13, 2) := by decide +kernel
theorem dX9_chance_152 : decode cX9_chance 152 = .ok (.lstore 11, 2) := by decide +kernel
theorem dX9_chance_154 : decode cX9_chance 154 = .ok (.goto (-22), 3) := by decide +kernel
theorem dX9_chance_157 : decode cX9_chance 157 = .ok (.iload 4, 2) := by decide +kernel
theorem dX9_chance_159 : decode cX9_chance 159 = .ok (.ifCond .ne 11, 3) := by decide +kernel
theorem dX9_chance_162 : decode cX9_chance 162 = .ok (.lload 7, 2) := by decide +kernel
theorem dX9_chance_164 : decode cX9_chance 164 = .ok (.lload 9, 2) := by decide +kernel
theorem dX9_chance_166 : decode cX9_chance 166 = .ok (.ldiv, 1) := by decide +kernel
theorem dX9_chance_167 : decode cX9_chance 167 = .ok (.goto 8, 3) := by decide +kernel
theorem dX9_chance_170 : decode cX9_chance 170 = .ok (.lload 5, 2) := by decide +kernel
theorem dX9_chance_172 : decode cX9_chance 172 = .ok (.lload 9, 2) := by decide +kernel
theorem dX9_chance_174 : decode cX9_chance 174 = .ok (.ldiv, 1) := by decide +kernel
theorem dX9_chance_175 : decode cX9_chance 175 = .ok (.lreturn, 1) := by decide +kernel
def L_X9_chance_53 (N : Nat) (v0 : Nat) (v1 : Int32) (v2 : Int32) (v3 : Int32) (v4 : Int32) : Nat → Hp → Int64 → Int32 → Option (Int64 × Hp)
  | 0, _, _, _ => none
  | n + 1, σ, v5, v7 =>
  if v3 ≤ v7 then
   some (v5, σ)
  else
   (m_X9_stepWays N σ v0 1).bind fun r11 =>
  L_X9_chance_53 N v0 v1 v2 v3 v4 n r11 (v5 * 60) (v7 + 1)
def L_X9_chance_84 (N : Nat) (σ : Hp) (v0 : Nat) (v1 : Int32) (v2 : Int32) (v4 : Int32) (v5 : Int64) : Nat → Int64 → Int32 → Option (Int64)
  | 0, _, _ => none
  | n + 1, v7, v9 =>
  if 8192 ≤ v9 then
   some v7
  else
   (m_X9_pegIn v9 v1).bind fun r14 =>
  if r14 = v2 then
   (gR N σ v0 9 17).bind fun x16 =>
  (aJ N σ x16 v9).bind fun x17 =>
  L_X9_chance_84 N σ v0 v1 v2 v4 v5 n (v7 + x17) (v9 + 1)
  else
   L_X9_chance_84 N σ v0 v1 v2 v4 v5 n (v7 + 0) (v9 + 1)
def L_X9_chance_132 (N : Nat) (σ : Hp) (v4 : Int32) (v5 : Int64) (v7 : Int64) : Nat → Int64 → Int64 → Option (Int64)
  | 0, _, _ => none
  | n + 1, v9, v11 =>
  if (lg_cmp v11 0) = 0 then
   some v9
  else
   (nzJ v11).bind fun u20 =>
  L_X9_chance_132 N σ v4 v5 v7 n v11 (v9 - v9 / v11 * v11)
def m_X9_chance (N : Nat) (σ : Hp) (t0 : Nat) (p1 : Int32) (p2 : Int32) (p3 : Int32) (p4 : Int32) : Option (Int64 × Hp) :=
  (rv N σ t0 9).bind fun _ =>
  (m_X9_isDisc N σ t0 p1).bind fun r1 =>
  if r1 = 0 then
   some ((-1000001), σ)
  else
   (m_X9_isPeg N σ t0 p2).bind fun r3 =>
  if r3 = 0 then
   some ((-1000001), σ)
  else
   (m_X9_in p3.toInt64 0 7).bind fun r5 =>
  if r5 = 0 then
   some ((-1000001), σ)
  else
   (m_X9_in p4.toInt64 0 1).bind fun r7 =>
  if r7 = 0 then
   some ((-1000001), σ)
  else
   (m_X9_beginsWays N σ t0).bind fun r9 =>
  (L_X9_chance_53 N t0 p1 p2 p3 p4 fu r9 1 0).bind fun z12 =>
  (L_X9_chance_84 N z12.2 t0 p1 p2 p4 z12.1 fu 0 0).bind fun z18 =>
  (L_X9_chance_132 N z12.2 p4 z12.1 z18 fu z18 z12.1).bind fun z21 =>
  if p4 = 0 then
   (nzJ z21).bind fun u24 =>
  some (z18 / z21, z12.2)
  else
   (nzJ z21).bind fun u23 =>
  some (z12.1 / z21, z12.2)
set_option maxHeartbeats 4000000 in
set_option maxRecDepth 100000 in
theorem lp_X9_chance_53 {κ : Kx} {ω : Om} (C : Cx κ 15 5 cX9_chance RX9 "chance") (Z : Zx κ ω) (v0 : Nat) (v1 : Int32) (v2 : Int32) (v3 : Int32) (v4 : Int32) {r : Int64 × Hp} (hk : X κ 15 ω 78 [some (.ref v0), some (.int v1), some (.int v2), none, some (.int v4), some (.long r.1), none, none, none, none, none, none, none, none, none] [] r.2) : ∀ (n : Nat) (σ : Hp) (v5 : Int64) (v7 : Int32), L_X9_chance_53 ω.1 v0 v1 v2 v3 v4 n σ v5 v7 = some r → X κ 15 ω 53 [some (.ref v0), some (.int v1), some (.int v2), some (.int v3), some (.int v4), some (.long v5), none, some (.int v7), none, none, none, none, none, none, none] [] σ := by
  intro n
  induction n with
  | zero => intro σ v5 v7 h; cases h
  | succ n ih =>
    intro σ v5 v7 h
    rw [L_X9_chance_53.eq_2] at h
    refine x_iload C (i := 7) dX9_chance_53 rfl ?_
    refine x_iload_n C (i := 3) dX9_chance_55 rfl rfl ?_
    refine x_icmp_ge C (tgt := 78) dX9_chance_56 (by decide) (fun c10 => ?_) (fun c10 => ?_)
    · have h := ifP h c10
      refine x_wk [true, true, true, false, true, true, false, false, false, false, false, false, false, false, false] (lo' := [some (.ref v0), some (.int v1), some (.int v2), none, some (.int v4), some (.long v5), none, none, none, none, none, none, none, none, none]) rfl ?_
      obtain rfl := Option.some.inj h
      exact hk
    · have h := ifN h c10
      refine x_aload_n C (i := 0) dX9_chance_59 rfl rfl ?_
      refine x_iconst C (v := 1) dX9_chance_60 (by decide) ?_
      obtain ⟨r11, er11, h⟩ := ob h
      refine x_callVn C Z mv_X9_stepWays lk_X9_239 (rv_h er11) (ct_X9_stepWays er11) (by decide) rfl rfl (Nat.le_of_ble_eq_true rfl) dX9_chance_61 ?_
      refine x_lload C (i := 5) dX9_chance_64 rfl ?_
      refine x_ldc2 C kj_X9_228 dX9_chance_66 ?_
      refine x_lmul C dX9_chance_69 ?_
      refine x_lstore C (i := 5) (lo' := [some (.ref v0), some (.int v1), some (.int v2), some (.int v3), some (.int v4), some (.long (v5 * 60)), none, some (.int v7), none, none, none, none, none, none, none]) dX9_chance_70 (by decide) rfl rfl ?_
      refine x_iinc C (i := 7) (y := v7 + 1) (lo' := [some (.ref v0), some (.int v1), some (.int v2), some (.int v3), some (.int v4), some (.long (v5 * 60)), none, some (.int (v7 + 1)), none, none, none, none, none, none, none]) dX9_chance_72 rfl rfl (by decide) rfl rfl ?_
      refine x_goto C (tgt := 53) dX9_chance_75 (by decide) ?_
      refine x_wk [true, true, true, true, true, true, false, true, false, false, false, false, false, false, false] (lo' := [some (.ref v0), some (.int v1), some (.int v2), some (.int v3), some (.int v4), some (.long (v5 * 60)), none, some (.int (v7 + 1)), none, none, none, none, none, none, none]) rfl ?_
      exact ih r11 (v5 * 60) (v7 + 1) h
set_option maxHeartbeats 4000000 in
set_option maxRecDepth 100000 in
theorem lp_X9_chance_84 {κ : Kx} {ω : Om} (C : Cx κ 15 5 cX9_chance RX9 "chance") (Z : Zx κ ω) (σ : Hp) (v0 : Nat) (v1 : Int32) (v2 : Int32) (v4 : Int32) (v5 : Int64) {r : Int64} (hk : X κ 15 ω 124 [none, none, none, none, some (.int v4), some (.long v5), none, some (.long r), none, none, none, none, none, none, none] [] σ) : ∀ (n : Nat) (v7 : Int64) (v9 : Int32), L_X9_chance_84 ω.1 σ v0 v1 v2 v4 v5 n v7 v9 = some r → X κ 15 ω 84 [some (.ref v0), some (.int v1), some (.int v2), none, some (.int v4), some (.long v5), none, some (.long v7), none, some (.int v9), none, none, none, none, none] [] σ := by
  intro n
  induction n with
  | zero => intro v7 v9 h; cases h
  | succ n ih =>
    intro v7 v9 h
    rw [L_X9_chance_84.eq_2] at h
    refine x_iload C (i := 9) dX9_chance_84 rfl ?_
    refine x_sipush C (v := 8192) dX9_chance_86 (by decide) ?_
    refine x_icmp_ge C (tgt := 124) dX9_chance_89 (by decide) (fun c13 => ?_) (fun c13 => ?_)
    · have h := ifP h c13
      refine x_wk [false, false, false, false, true, true, false, true, false, false, false, false, false, false, false] (lo' := [none, none, none, none, some (.int v4), some (.long v5), none, some (.long v7), none, none, none, none, none, none, none]) rfl ?_
      obtain rfl := Option.some.inj h
      exact hk
    · have h := ifN h c13
      refine x_lload C (i := 7) dX9_chance_92 rfl ?_
      refine x_iload C (i := 9) dX9_chance_94 rfl ?_
      refine x_iload_n C (i := 1) dX9_chance_96 rfl rfl ?_
      obtain ⟨r14, er14, h⟩ := ob h
      refine x_callSr C Z ms_X9_pegIn lk_X9_135 (ct_X9_pegIn (N := ω.1) (σ := σ) er14) (by decide) rfl rfl (Nat.le_of_ble_eq_true rfl) dX9_chance_97 ?_
      refine x_iload_n C (i := 2) dX9_chance_100 rfl rfl ?_
      refine x_icmp_ne C (tgt := 114) dX9_chance_101 (by decide) (fun c15 => ?_) (fun c15 => ?_)
      · have h := ifN h c15
        refine x_lconst C (v := 0) dX9_chance_114 (by decide) ?_
        refine x_ladd C dX9_chance_115 ?_
        refine x_lstore C (i := 7) (lo' := [some (.ref v0), some (.int v1), some (.int v2), none, some (.int v4), some (.long v5), none, some (.long (v7 + 0)), none, some (.int v9), none, none, none, none, none]) dX9_chance_116 (by decide) rfl rfl ?_
        refine x_iinc C (i := 9) (y := v9 + 1) (lo' := [some (.ref v0), some (.int v1), some (.int v2), none, some (.int v4), some (.long v5), none, some (.long (v7 + 0)), none, some (.int (v9 + 1)), none, none, none, none, none]) dX9_chance_118 rfl rfl (by decide) rfl rfl ?_
        refine x_goto C (tgt := 84) dX9_chance_121 (by decide) ?_
        refine x_wk [true, true, true, false, true, true, false, true, false, true, false, false, false, false, false] (lo' := [some (.ref v0), some (.int v1), some (.int v2), none, some (.int v4), some (.long v5), none, some (.long (v7 + 0)), none, some (.int (v9 + 1)), none, none, none, none, none]) rfl ?_
        exact ih (v7 + 0) (v9 + 1) h
      · have h := ifP h c15
        refine x_aload_n C (i := 0) dX9_chance_104 rfl rfl ?_
        obtain ⟨x16, ex16, h⟩ := ob h
        refine x_getR C fl_X9_39 dX9_chance_105 ex16 ?_
        refine x_iload C (i := 9) dX9_chance_108 rfl ?_
        obtain ⟨x17, ex17, h⟩ := ob h
        refine x_lald C dX9_chance_110 ex17 ?_
        refine x_goto C (tgt := 115) dX9_chance_111 (by decide) ?_
        refine x_ladd C dX9_chance_115 ?_
        refine x_lstore C (i := 7) (lo' := [some (.ref v0), some (.int v1), some (.int v2), none, some (.int v4), some (.long v5), none, some (.long (v7 + x17)), none, some (.int v9), none, none, none, none, none]) dX9_chance_116 (by decide) rfl rfl ?_
        refine x_iinc C (i := 9) (y := v9 + 1) (lo' := [some (.ref v0), some (.int v1), some (.int v2), none, some (.int v4), some (.long v5), none, some (.long (v7 + x17)), none, some (.int (v9 + 1)), none, none, none, none, none]) dX9_chance_118 rfl rfl (by decide) rfl rfl ?_
        refine x_goto C (tgt := 84) dX9_chance_121 (by decide) ?_
        refine x_wk [true, true, true, false, true, true, false, true, false, true, false, false, false, false, false] (lo' := [some (.ref v0), some (.int v1), some (.int v2), none, some (.int v4), some (.long v5), none, some (.long (v7 + x17)), none, some (.int (v9 + 1)), none, none, none, none, none]) rfl ?_
        exact ih (v7 + x17) (v9 + 1) h
set_option maxHeartbeats 4000000 in
set_option maxRecDepth 100000 in
theorem lp_X9_chance_132 {κ : Kx} {ω : Om} (C : Cx κ 15 5 cX9_chance RX9 "chance") (Z : Zx κ ω) (σ : Hp) (v4 : Int32) (v5 : Int64) (v7 : Int64) {r : Int64} (hk : X κ 15 ω 157 [none, none, none, none, some (.int v4), some (.long v5), none, some (.long v7), none, some (.long r), none, none, none, none, none] [] σ) : ∀ (n : Nat) (v9 : Int64) (v11 : Int64), L_X9_chance_132 ω.1 σ v4 v5 v7 n v9 v11 = some r → X κ 15 ω 132 [none, none, none, none, some (.int v4), some (.long v5), none, some (.long v7), none, some (.long v9), none, some (.long v11), none, none, none] [] σ := by
  intro n
  induction n with
  | zero => intro v9 v11 h; cases h
  | succ n ih =>
    intro v9 v11 h
    rw [L_X9_chance_132.eq_2] at h
    refine x_lload C (i := 11) dX9_chance_132 rfl ?_
    refine x_lconst C (v := 0) dX9_chance_134 (by decide) ?_
    refine x_lcmp C dX9_chance_135 ?_
    refine x_if_eq C (tgt := 157) dX9_chance_136 (by decide) (fun c19 => ?_) (fun c19 => ?_)
    · have h := ifP h c19
      refine x_wk [false, false, false, false, true, true, false, true, false, true, false, false, false, false, false] (lo' := [none, none, none, none, some (.int v4), some (.long v5), none, some (.long v7), none, some (.long v9), none, none, none, none, none]) rfl ?_
      obtain rfl := Option.some.inj h
      exact hk
    · have h := ifN h c19
      refine x_lload C (i := 9) dX9_chance_139 rfl ?_
      refine x_lload C (i := 11) dX9_chance_141 rfl ?_
      obtain ⟨u20, eu20, h⟩ := ob h
      refine x_lrem C dX9_chance_143 (nzJ_ne eu20) ?_
      refine x_lstore C (i := 13) (lo' := [none, none, none, none, some (.int v4), some (.long v5), none, some (.long v7), none, some (.long v9), none, some (.long v11), none, some (.long (v9 - v9 / v11 * v11)), none]) dX9_chance_144 (by decide) rfl rfl ?_
      refine x_lload C (i := 11) dX9_chance_146 rfl ?_
      refine x_lstore C (i := 9) (lo' := [none, none, none, none, some (.int v4), some (.long v5), none, some (.long v7), none, some (.long v11), none, some (.long v11), none, some (.long (v9 - v9 / v11 * v11)), none]) dX9_chance_148 (by decide) rfl rfl ?_
      refine x_lload C (i := 13) dX9_chance_150 rfl ?_
      refine x_lstore C (i := 11) (lo' := [none, none, none, none, some (.int v4), some (.long v5), none, some (.long v7), none, some (.long v11), none, some (.long (v9 - v9 / v11 * v11)), none, some (.long (v9 - v9 / v11 * v11)), none]) dX9_chance_152 (by decide) rfl rfl ?_
      refine x_goto C (tgt := 132) dX9_chance_154 (by decide) ?_
      refine x_wk [false, false, false, false, true, true, false, true, false, true, false, true, false, false, false] (lo' := [none, none, none, none, some (.int v4), some (.long v5), none, some (.long v7), none, some (.long v11), none, some (.long (v9 - v9 / v11 * v11)), none, none, none]) rfl ?_
      exact ih v11 (v9 - v9 / v11 * v11) h
set_option maxHeartbeats 4000000 in
set_option maxRecDepth 100000 in
theorem ct_X9_chance {l : Launch} {D : va_G} {cy : Nat → Nat} {N : Nat} {σ : Hp} {t0 : Nat} {p1 : Int32} {p2 : Int32} {p3 : Int32} {p4 : Int32} {r : Int64 × Hp} (h : m_X9_chance N σ t0 p1 p2 p3 p4 = some r) : Ct l D cy yX9_chance cX9_chance 15 (some .long) 5 [.ref t0, .int p1, .int p2, .int p3, .int p4] N σ (fun v s' => v = (some (.long r.1)) ∧ s' = r.2) := by
  refine Ct.intro [some (.ref t0), some (.int p1), some (.int p2), some (.int p3), some (.int p4), none, none, none, none, none, none, none, none, none, none] (by decide) rfl (Nat.le_of_ble_eq_true rfl) ?_
  intro κ ω e1 e2 e3 e4 C Z E
  subst e1; subst e2; subst e3; subst e4
  have C : Cx κ 15 5 cX9_chance RX9 "chance" := C
  have hE : ∀ x : Int64 × Hp, r = x → ((some (Value.long x.1)) = (some (Value.long r.1)) ∧ x.2 = r.2) := fun x hx => by subst hx; exact ⟨rfl, rfl⟩
  unfold m_X9_chance at h
  obtain ⟨_, _, h⟩ := ob h
  refine x_aload_n C (i := 0) dX9_chance_0 rfl rfl ?_
  refine x_iload_n C (i := 1) dX9_chance_1 rfl rfl ?_
  obtain ⟨r1, er1, h⟩ := ob h
  refine x_callVr C Z mv_X9_isDisc lk_X9_180 (rv_h er1) (ct_X9_isDisc er1) (by decide) rfl rfl (Nat.le_of_ble_eq_true rfl) dX9_chance_2 ?_
  refine x_if_eq C (tgt := 39) dX9_chance_5 (by decide) (fun c2 => ?_) (fun c2 => ?_)
  · have h := ifP h c2
    refine x_ldc2 C kj_X9_234 dX9_chance_39 ?_
    exact x_lret C E dX9_chance_42 (hE ((-1000001), σ) (Option.some.inj h).symm)
  · have h := ifN h c2
    refine x_aload_n C (i := 0) dX9_chance_8 rfl rfl ?_
    refine x_iload_n C (i := 2) dX9_chance_9 rfl rfl ?_
    obtain ⟨r3, er3, h⟩ := ob h
    refine x_callVr C Z mv_X9_isPeg lk_X9_163 (rv_h er3) (ct_X9_isPeg er3) (by decide) rfl rfl (Nat.le_of_ble_eq_true rfl) dX9_chance_10 ?_
    refine x_if_eq C (tgt := 39) dX9_chance_13 (by decide) (fun c4 => ?_) (fun c4 => ?_)
    · have h := ifP h c4
      refine x_ldc2 C kj_X9_234 dX9_chance_39 ?_
      exact x_lret C E dX9_chance_42 (hE ((-1000001), σ) (Option.some.inj h).symm)
    · have h := ifN h c4
      refine x_iload_n C (i := 3) dX9_chance_16 rfl rfl ?_
      refine x_i2l C dX9_chance_17 ?_
      refine x_lconst C (v := 0) dX9_chance_18 (by decide) ?_
      refine x_ldc2 C kj_X9_54 dX9_chance_19 ?_
      obtain ⟨r5, er5, h⟩ := ob h
      refine x_callSr C Z ms_X9_in lk_X9_56 (ct_X9_in (N := ω.1) (σ := σ) er5) (by decide) rfl rfl (Nat.le_of_ble_eq_true rfl) dX9_chance_22 ?_
      refine x_if_eq C (tgt := 39) dX9_chance_25 (by decide) (fun c6 => ?_) (fun c6 => ?_)
      · have h := ifP h c6
        refine x_ldc2 C kj_X9_234 dX9_chance_39 ?_
        exact x_lret C E dX9_chance_42 (hE ((-1000001), σ) (Option.some.inj h).symm)
      · have h := ifN h c6
        refine x_iload C (i := 4) dX9_chance_28 rfl ?_
        refine x_i2l C dX9_chance_30 ?_
        refine x_lconst C (v := 0) dX9_chance_31 (by decide) ?_
        refine x_lconst C (v := 1) dX9_chance_32 (by decide) ?_
        obtain ⟨r7, er7, h⟩ := ob h
        refine x_callSr C Z ms_X9_in lk_X9_56 (ct_X9_in (N := ω.1) (σ := σ) er7) (by decide) rfl rfl (Nat.le_of_ble_eq_true rfl) dX9_chance_33 ?_
        refine x_if_ne C (tgt := 43) dX9_chance_36 (by decide) (fun c8 => ?_) (fun c8 => ?_)
        · have h := ifN h c8
          refine x_aload_n C (i := 0) dX9_chance_43 rfl rfl ?_
          obtain ⟨r9, er9, h⟩ := ob h
          refine x_callVn C Z mv_X9_beginsWays lk_X9_236 (rv_h er9) (ct_X9_beginsWays er9) (by decide) rfl rfl (Nat.le_of_ble_eq_true rfl) dX9_chance_44 ?_
          refine x_lconst C (v := 1) dX9_chance_47 (by decide) ?_
          refine x_lstore C (i := 5) (lo' := [some (.ref t0), some (.int p1), some (.int p2), some (.int p3), some (.int p4), some (.long 1), none, none, none, none, none, none, none, none, none]) dX9_chance_48 (by decide) rfl rfl ?_
          refine x_iconst C (v := 0) dX9_chance_50 (by decide) ?_
          refine x_istore C (i := 7) (lo' := [some (.ref t0), some (.int p1), some (.int p2), some (.int p3), some (.int p4), some (.long 1), none, some (.int 0), none, none, none, none, none, none, none]) dX9_chance_51 (by decide) rfl rfl ?_
          obtain ⟨z12, ez12, h⟩ := ob h
          refine x_wk [true, true, true, true, true, true, false, true, false, false, false, false, false, false, false] (lo' := [some (.ref t0), some (.int p1), some (.int p2), some (.int p3), some (.int p4), some (.long 1), none, some (.int 0), none, none, none, none, none, none, none]) rfl ?_
          refine lp_X9_chance_53 C Z t0 p1 p2 p3 p4 ?_ _ r9 1 0 ez12
          refine x_lconst C (v := 0) dX9_chance_78 (by decide) ?_
          refine x_lstore C (i := 7) (lo' := [some (.ref t0), some (.int p1), some (.int p2), none, some (.int p4), some (.long z12.1), none, some (.long 0), none, none, none, none, none, none, none]) dX9_chance_79 (by decide) rfl rfl ?_
          refine x_iconst C (v := 0) dX9_chance_81 (by decide) ?_
          refine x_istore C (i := 9) (lo' := [some (.ref t0), some (.int p1), some (.int p2), none, some (.int p4), some (.long z12.1), none, some (.long 0), none, some (.int 0), none, none, none, none, none]) dX9_chance_82 (by decide) rfl rfl ?_
          obtain ⟨z18, ez18, h⟩ := ob h
          refine x_wk [true, true, true, false, true, true, false, true, false, true, false, false, false, false, false] (lo' := [some (.ref t0), some (.int p1), some (.int p2), none, some (.int p4), some (.long z12.1), none, some (.long 0), none, some (.int 0), none, none, none, none, none]) rfl ?_
          refine lp_X9_chance_84 C Z z12.2 t0 p1 p2 p4 z12.1 ?_ _ 0 0 ez18
          refine x_lload C (i := 7) dX9_chance_124 rfl ?_
          refine x_lstore C (i := 9) (lo' := [none, none, none, none, some (.int p4), some (.long z12.1), none, some (.long z18), none, some (.long z18), none, none, none, none, none]) dX9_chance_126 (by decide) rfl rfl ?_
          refine x_lload C (i := 5) dX9_chance_128 rfl ?_
          refine x_lstore C (i := 11) (lo' := [none, none, none, none, some (.int p4), some (.long z12.1), none, some (.long z18), none, some (.long z18), none, some (.long z12.1), none, none, none]) dX9_chance_130 (by decide) rfl rfl ?_
          obtain ⟨z21, ez21, h⟩ := ob h
          refine x_wk [false, false, false, false, true, true, false, true, false, true, false, true, false, false, false] (lo' := [none, none, none, none, some (.int p4), some (.long z12.1), none, some (.long z18), none, some (.long z18), none, some (.long z12.1), none, none, none]) rfl ?_
          refine lp_X9_chance_132 C Z z12.2 p4 z12.1 z18 ?_ _ z18 z12.1 ez21
          refine x_iload C (i := 4) dX9_chance_157 rfl ?_
          refine x_if_ne C (tgt := 170) dX9_chance_159 (by decide) (fun c22 => ?_) (fun c22 => ?_)
          · have h := ifN h c22
            refine x_lload C (i := 5) dX9_chance_170 rfl ?_
            refine x_lload C (i := 9) dX9_chance_172 rfl ?_
            obtain ⟨u23, eu23, h⟩ := ob h
            refine x_ldiv C dX9_chance_174 (nzJ_ne eu23) ?_
            exact x_lret C E dX9_chance_175 (hE (z12.1 / z21, z12.2) (Option.some.inj h).symm)
          · have h := ifP h c22
            refine x_lload C (i := 7) dX9_chance_162 rfl ?_
            refine x_lload C (i := 9) dX9_chance_164 rfl ?_
            obtain ⟨u24, eu24, h⟩ := ob h
            refine x_ldiv C dX9_chance_166 (nzJ_ne eu24) ?_
            refine x_goto C (tgt := 175) dX9_chance_167 (by decide) ?_
            exact x_lret C E dX9_chance_175 (hE (z18 / z21, z12.2) (Option.some.inj h).symm)
        · have h := ifP h c8
          refine x_ldc2 C kj_X9_234 dX9_chance_39 ?_
          exact x_lret C E dX9_chance_42 (hE ((-1000001), σ) (Option.some.inj h).symm)
theorem dX9_drawn_0 : decode cX9_drawn 0 = .ok (.aload_n 0, 1) := by decide +kernel
theorem dX9_drawn_1 : decode cX9_drawn 1 = .ok (.invokevirtual 183, 3) := by decide +kernel
theorem dX9_drawn_4 : decode cX9_drawn 4 = .ok (.ifCond .ne 6, 3) := by decide +kernel
theorem dX9_drawn_7 : decode cX9_drawn 7 = .ok (.ldc 176, 2) := by decide +kernel
theorem dX9_drawn_9 : decode cX9_drawn 9 = .ok (.ireturn, 1) := by decide +kernel
theorem dX9_drawn_10 : decode cX9_drawn 10 = .ok (.iload_n 1, 1) := by decide +kernel
theorem dX9_drawn_11 : decode cX9_drawn 11 = .ok (.i2l, 1) := by decide +kernel
theorem dX9_drawn_12 : decode cX9_drawn 12 = .ok (.lconst 0, 1) := by decide +kernel
theorem dX9_drawn_13 : decode cX9_drawn 13 = .ok (.ldc2_w 228, 3) := by decide +kernel
theorem dX9_drawn_16 : decode cX9_drawn 16 = .ok (.invokestatic 56, 3) := by decide +kernel
theorem dX9_drawn_19 : decode cX9_drawn 19 = .ok (.ifCond .eq 25, 3) := by decide +kernel
theorem dX9_drawn_22 : decode cX9_drawn 22 = .ok (.iload_n 2, 1) := by decide +kernel
theorem dX9_drawn_23 : decode cX9_drawn 23 = .ok (.i2l, 1) := by decide +kernel
theorem dX9_drawn_24 : decode cX9_drawn 24 = .ok (.lconst 1, 1) := by decide +kernel
theorem dX9_drawn_25 : decode cX9_drawn 25 = .ok (.ldc2_w 251, 3) := by decide +kernel
theorem dX9_drawn_28 : decode cX9_drawn 28 = .ok (.invokestatic 56, 3) := by decide +kernel
theorem dX9_drawn_31 : decode cX9_drawn 31 = .ok (.ifCond .eq 13, 3) := by decide +kernel
theorem dX9_drawn_34 : decode cX9_drawn 34 = .ok (.iload_n 3, 1) := by decide +kernel
theorem dX9_drawn_35 : decode cX9_drawn 35 = .ok (.i2l, 1) := by decide +kernel
theorem dX9_drawn_36 : decode cX9_drawn 36 = .ok (.lconst 0, 1) := by decide +kernel
theorem dX9_drawn_37 : decode cX9_drawn 37 = .ok (.lconst 1, 1) := by decide +kernel
theorem dX9_drawn_38 : decode cX9_drawn 38 = .ok (.invokestatic 56, 3) := by decide +kernel
theorem dX9_drawn_41 : decode cX9_drawn 41 = .ok (.ifCond .ne 6, 3) := by decide +kernel
theorem dX9_drawn_44 : decode cX9_drawn 44 = .ok (.ldc 66, 2) := by decide +kernel
theorem dX9_drawn_46 : decode cX9_drawn 46 = .ok (.ireturn, 1) := by decide +kernel
theorem dX9_drawn_47 : decode cX9_drawn 47 = .ok (.aload_n 0, 1) := by decide +kernel
theorem dX9_drawn_48 : decode cX9_drawn 48 = .ok (.invokevirtual 166, 3) := by decide +kernel
theorem dX9_drawn_51 : decode cX9_drawn 51 = .ok (.iload_n 2, 1) := by decide +kernel
theorem dX9_drawn_52 : decode cX9_drawn 52 = .ok (.i2l, 1) := by decide +kernel
theorem dX9_drawn_53 : decode cX9_drawn 53 = .ok (.lstore 4, 2) := by decide +kernel
theorem dX9_drawn_55 : decode cX9_drawn 55 = .ok (.aload_n 0, 1) := by decide +kernel
theorem dX9_drawn_56 : decode cX9_drawn 56 = .ok (.invokevirtual 169, 3) := by decide +kernel
theorem dX9_drawn_59 : decode cX9_drawn 59 = .ok (.istore 6, 2) := by decide +kernel
theorem dX9_drawn_61 : decode cX9_drawn 61 = .ok (.iconst 0, 1) := by decide +kernel
theorem dX9_drawn_62 : decode cX9_drawn 62 = .ok (.istore 7, 2) := by decide +kernel
theorem dX9_drawn_64 : decode cX9_drawn 64 = .ok (.iconst 0, 1) := by decide +kernel
theorem dX9_drawn_65 : decode cX9_drawn 65 = .ok (.istore 8, 2) := by decide +kernel
theorem dX9_drawn_67 : decode cX9_drawn 67 = .ok (.iload 8, 2) := by decide +kernel
theorem dX9_drawn_69 : decode cX9_drawn 69 = .ok (.iload_n 1, 1) := by decide +kernel
theorem dX9_drawn_70 : decode cX9_drawn 70 = .ok (.if_icmp .ge 147, 3) := by decide +kernel
theorem dX9_drawn_73 : decode cX9_drawn 73 = .ok (.lload 4, 2) := by decide +kernel
theorem dX9_drawn_75 : decode cX9_drawn 75 = .ok (.ldc2_w 253, 3) := by decide +kernel
theorem dX9_drawn_78 : decode cX9_drawn 78 = .ok (.lmul, 1) := by decide +kernel
theorem dX9_drawn_79 : decode cX9_drawn 79 = .ok (.ldc2_w 255, 3) := by decide +kernel
theorem dX9_drawn_82 : decode cX9_drawn 82 = .ok (.lrem, 1) := by decide +kernel
theorem dX9_drawn_83 : decode cX9_drawn 83 = .ok (.lstore 4, 2) := by decide +kernel
theorem dX9_drawn_85 : decode cX9_drawn 85 = .ok (.aload_n 0, 1) := by decide +kernel
theorem dX9_drawn_86 : decode cX9_drawn 86 = .ok (.iload 6, 2) := by decide +kernel
theorem dX9_drawn_88 : decode cX9_drawn 88 = .ok (.invokevirtual 190, 3) := by decide +kernel
theorem dX9_drawn_91 : decode cX9_drawn 91 = .ok (.istore 9, 2) := by decide +kernel
theorem dX9_drawn_93 : decode cX9_drawn 93 = .ok (.iconst 0, 1) := by decide +kernel
theorem dX9_drawn_94 : decode cX9_drawn 94 = .ok (.istore 10, 2) := by decide +kernel
theorem dX9_drawn_96 : decode cX9_drawn 96 = .ok (.iconst 0, 1) := by decide +kernel
theorem dX9_drawn_97 : decode cX9_drawn 97 = .ok (.istore 11, 2) := by decide +kernel
theorem dX9_drawn_99 : decode cX9_drawn 99 = .ok (.iload 11, 2) := by decide +kernel
theorem dX9_drawn_101 : decode cX9_drawn 101 = .ok (.bipush 16, 2) := by decide +kernel
theorem dX9_drawn_103 : decode cX9_drawn 103 = .ok (.if_icmp .ge 21, 3) := by decide +kernel
theorem dX9_drawn_106 : decode cX9_drawn 106 = .ok (.iload 10, 2) := by decide +kernel
theorem dX9_drawn_108 : decode cX9_drawn 108 = .ok (.iload 9, 2) := by decide +kernel
theorem dX9_drawn_110 : decode cX9_drawn 110 = .ok (.iload 11, 2) := by decide +kernel
theorem dX9_drawn_112 : decode cX9_drawn 112 = .ok (.ishr, 1) := by decide +kernel
theorem dX9_drawn_113 : decode cX9_drawn 113 = .ok (.iconst 1, 1) := by decide +kernel
theorem dX9_drawn_114 : decode cX9_drawn 114 = .ok (.iand, 1) := by decide +kernel
theorem dX9_drawn_115 : decode cX9_drawn 115 = .ok (.iadd, 1) := by decide +kernel
theorem dX9_drawn_116 : decode cX9_drawn 116 = .ok (.istore 10, 2) := by decide +kernel
theorem dX9_drawn_118 : decode cX9_drawn 118 = .ok (.iinc 11 1, 3) := by decide +kernel
theorem dX9_drawn_121 : decode cX9_drawn 121 = .ok (.goto (-22), 3) := by decide +kernel
theorem dX9_drawn_124 : decode cX9_drawn 124 = .ok (.iload 10, 2) := by decide +kernel
theorem dX9_drawn_126 : decode cX9_drawn 126 = .ok (.ifCond .le 85, 3) := by decide +kernel
theorem dX9_drawn_129 : decode cX9_drawn 129 = .ok (.lload 4, 2) := by decide +kernel
theorem dX9_drawn_131 : decode cX9_drawn 131 = .ok (.iload 10, 2) := by decide +kernel
theorem dX9_drawn_133 : decode cX9_drawn 133 = .ok (.i2l, 1) := by decide +kernel
theorem dX9_drawn_134 : decode cX9_drawn 134 = .ok (.lrem, 1) := by decide +kernel
theorem dX9_drawn_135 : decode cX9_drawn 135 = .ok (.l2i, 1) := by decide +kernel
theorem dX9_drawn_136 : decode cX9_drawn 136 = .ok (.istore 11, 2) := by decide +kernel
theorem dX9_drawn_138 : decode cX9_drawn 138 = .ok (.iconst 0, 1) := by decide +kernel
theorem dX9_drawn_139 : decode cX9_drawn 139 = .ok (.istore 12, 2) := by decide +kernel
theorem dX9_drawn_141 : decode cX9_drawn 141 = .ok (.iload 9, 2) := by decide +kernel
theorem dX9_drawn_143 : decode cX9_drawn 143 = .ok (.iload 12, 2) := by decide +kernel
theorem dX9_drawn_145 : decode cX9_drawn 145 = .ok (.invokestatic 138, 3) := by decide +kernel
theorem dX9_drawn_148 : decode cX9_drawn 148 = .ok (.ifCond .eq 8, 3) := by decide +kernel
theorem dX9_drawn_151 : decode cX9_drawn 151 = .ok (.iload 11, 2) := by decide +kernel
theorem dX9_drawn_153 : decode cX9_drawn 153 = .ok (.ifCond .le 21, 3) := by decide +kernel
theorem dX9_drawn_156 : decode cX9_drawn 156 = .ok (.iload 11, 2) := by decide +kernel
theorem dX9_drawn_158 : decode cX9_drawn 158 = .ok (.iload 9, 2) := by decide +kernel
theorem dX9_drawn_160 : decode cX9_drawn 160 = .ok (.iload 12, 2) := by decide +kernel
theorem dX9_drawn_162 : decode cX9_drawn 162 = .ok (.ishr, 1) := by decide +kernel
theorem dX9_drawn_163 : decode cX9_drawn 163 = .ok (.iconst 1, 1) := by decide +kernel
theorem dX9_drawn_164 : decode cX9_drawn 164 = .ok (.iand, 1) := by decide +kernel
theorem dX9_drawn_165 : decode cX9_drawn 165 = .ok (.isub, 1) := by decide +kernel
theorem dX9_drawn_166 : decode cX9_drawn 166 = .ok (.istore 11, 2) := by decide +kernel
theorem dX9_drawn_168 : decode cX9_drawn 168 = .ok (.iinc 12 1, 3) := by decide +kernel
theorem dX9_drawn_171 : decode cX9_drawn 171 = .ok (.goto (-30), 3) := by decide +kernel
theorem dX9_drawn_174 : decode cX9_drawn 174 = .ok (.iload 7, 2) := by decide +kernel
theorem dX9_drawn_176 : decode cX9_drawn 176 = .ok (.aload_n 0, 1) := by decide +kernel
theorem dX9_drawn_177 : decode cX9_drawn 177 = .ok (.iload 6, 2) := by decide +kernel
theorem dX9_drawn_179 : decode cX9_drawn 179 = .ok (.iload 12, 2) := by decide +kernel
theorem dX9_drawn_181 : decode cX9_drawn 181 = .ok (.iconst 4, 1) := by decide +kernel
theorem dX9_drawn_182 : decode cX9_drawn 182 = .ok (.idiv, 1) := by decide +kernel
theorem dX9_drawn_183 : decode cX9_drawn 183 = .ok (.iload 12, 2) := by decide +kernel
theorem dX9_drawn_185 : decode cX9_drawn 185 = .ok (.iconst 4, 1) := by decide +kernel
theorem dX9_drawn_186 : decode cX9_drawn 186 = .ok (.irem, 1) := by decide +kernel
theorem dX9_drawn_187 : decode cX9_drawn 187 = .ok (.invokevirtual 173, 3) := by decide +kernel
theorem dX9_drawn_190 : decode cX9_drawn 190 = .ok (.ifCond .ne 7, 3) := by decide +kernel
theorem dX9_drawn_193 : decode cX9_drawn 193 = .ok (.iconst 1, 1) := by decide +kernel
theorem dX9_drawn_194 : decode cX9_drawn 194 = .ok (.goto 4, 3) := by decide +kernel
theorem dX9_drawn_197 : decode cX9_drawn 197 = .ok (.iconst 0, 1) := by decide +kernel
theorem dX9_drawn_198 : decode cX9_drawn 198 = .ok (.iadd, 1) := by decide +kernel
theorem dX9_drawn_199 : decode cX9_drawn 199 = .ok (.istore 7, 2) := by decide +kernel
theorem dX9_drawn_201 : decode cX9_drawn 201 = .ok (.aload_n 0, 1) := by decide +kernel
theorem dX9_drawn_202 : decode cX9_drawn 202 = .ok (.iload 6, 2) := by decide +kernel
theorem dX9_drawn_204 : decode cX9_drawn 204 = .ok (.iload 12, 2) := by decide +kernel
theorem dX9_drawn_206 : decode cX9_drawn 206 = .ok (.invokevirtual 199, 3) := by decide +kernel
theorem dX9_drawn_209 : decode cX9_drawn 209 = .ok (.istore 6, 2) := by decide +kernel
theorem dX9_drawn_211 : decode cX9_drawn 211 = .ok (.iinc 8 1, 3) := by decide +kernel
theorem dX9_drawn_214 : decode cX9_drawn 214 = .ok (.goto (-147), 3) := by decide +kernel
theorem dX9_drawn_217 : decode cX9_drawn 217 = .ok (.iload_n 3, 1) := by decide +kernel
theorem dX9_drawn_218 : decode cX9_drawn 218 = .ok (.ifCond .ne 12, 3) := by decide +kernel
theorem dX9_drawn_221 : decode cX9_drawn 221 = .ok (.aload_n 0, 1) := by decide +kernel
theorem dX9_drawn_222 : decode cX9_drawn 222 = .ok (.iload 6, 2) := by decide +kernel
theorem dX9_drawn_224 : decode cX9_drawn 224 = .ok (.invokevirtual 222, 3) := by decide +kernel
theorem dX9_drawn_227 : decode cX9_drawn 227 = .ok (.goto 5, 3) := by decide +kernel
theorem dX9_drawn_230 : decode cX9_drawn 230 = .ok (.iload 7, 2) := by decide +kernel
theorem dX9_drawn_232 : decode cX9_drawn 232 = .ok (.ireturn, 1) := by decide +kernel
def L_X9_drawn_99 (N : Nat) (σ : Hp) (v0 : Nat) (v1 : Int32) (v3 : Int32) (v4 : Int64) (v6 : Int32) (v7 : Int32) (v8 : Int32) (v9 : Int32) : Nat → Int32 → Int32 → Option (Int32)
  | 0, _, _ => none
  | n + 1, v10, v11 =>
  if 16 ≤ v11 then
   some v10
  else
   lt (v10 + ((v9 >>> (v11 &&& 31)) &&& 1)) fun y15 =>
  L_X9_drawn_99 N σ v0 v1 v3 v4 v6 v7 v8 v9 n y15 (v11 + 1)
def L_X9_drawn_141 (N : Nat) (σ : Hp) (v0 : Nat) (v1 : Int32) (v3 : Int32) (v4 : Int64) (v6 : Int32) (v7 : Int32) (v8 : Int32) (v9 : Int32) : Nat → Int32 → Int32 → Option (Int32)
  | 0, _, _ => none
  | n + 1, v11, v12 =>
  (m_X9_has v9 v12).bind fun r20 =>
  if r20 = 0 then
   lt (v11 - ((v9 >>> (v12 &&& 31)) &&& 1)) fun y22 =>
  L_X9_drawn_141 N σ v0 v1 v3 v4 v6 v7 v8 v9 n y22 (v12 + 1)
  else
   if v11 ≤ 0 then
   some v12
  else
   lt (v11 - ((v9 >>> (v12 &&& 31)) &&& 1)) fun y24 =>
  L_X9_drawn_141 N σ v0 v1 v3 v4 v6 v7 v8 v9 n y24 (v12 + 1)
def L_X9_drawn_67 (N : Nat) (σ : Hp) (v0 : Nat) (v1 : Int32) (v3 : Int32) : Nat → Int64 → Int32 → Int32 → Int32 → Option (Int32 × Int32)
  | 0, _, _, _, _ => none
  | n + 1, v4, v6, v7, v8 =>
  if v1 ≤ v8 then
   some (v6, v7)
  else
   lt ((v4 * 16807) - (v4 * 16807) / 2147483647 * 2147483647) fun y12 =>
  (m_X9_movesOf N σ v0 v6).bind fun r13 =>
  (L_X9_drawn_99 N σ v0 v1 v3 y12 v6 v7 v8 r13 fu 0 0).bind fun z16 =>
  if z16 ≤ 0 then
   L_X9_drawn_67 N σ v0 v1 v3 n y12 v6 v7 (v8 + 1)
  else
   (nzJ z16.toInt64).bind fun u18 =>
  lt ((y12 - y12 / z16.toInt64 * z16.toInt64).toInt32) fun y19 =>
  (L_X9_drawn_141 N σ v0 v1 v3 y12 v6 v7 v8 r13 fu y19 0).bind fun z25 =>
  (m_X9_mover N σ v0 v6 (z25 / 4) (z25 - z25 / 4 * 4)).bind fun r26 =>
  ((if r26 = 0 then
   some 1
  else
   some 0) : Option (Int32)).bind fun z27 =>
  (m_X9_behind N σ v0 v6 z25).bind fun r28 =>
  L_X9_drawn_67 N σ v0 v1 v3 n y12 r28 (v7 + z27) (v8 + 1)
def m_X9_drawn (N : Nat) (σ : Hp) (t0 : Nat) (p1 : Int32) (p2 : Int32) (p3 : Int32) : Option (Int32 × Hp) :=
  (rv N σ t0 9).bind fun _ =>
  (m_X9_isBoard N σ t0).bind fun r1 =>
  if r1 = 0 then
   some ((-1000002), σ)
  else
   (m_X9_in p1.toInt64 0 60).bind fun r3 =>
  if r3 = 0 then
   some ((-1000001), σ)
  else
   (m_X9_in p2.toInt64 1 999999).bind fun r5 =>
  if r5 = 0 then
   some ((-1000001), σ)
  else
   (m_X9_in p3.toInt64 0 1).bind fun r7 =>
  if r7 = 0 then
   some ((-1000001), σ)
  else
   (m_X9_asTold N σ t0).bind fun r9 =>
  (m_X9_state N r9 t0).bind fun r10 =>
  (L_X9_drawn_67 N r9 t0 p1 p3 fu p2.toInt64 r10 0 0).bind fun z32 =>
  if p3 = 0 then
   (m_X9_codeOf N r9 t0 z32.1).bind fun r34 =>
  some (r34, r9)
  else
   some (z32.2, r9)
set_option maxHeartbeats 4000000 in
set_option maxRecDepth 100000 in
theorem lp_X9_drawn_99 {κ : Kx} {ω : Om} (C : Cx κ 13 4 cX9_drawn RX9 "drawn") (Z : Zx κ ω) (σ : Hp) (v0 : Nat) (v1 : Int32) (v3 : Int32) (v4 : Int64) (v6 : Int32) (v7 : Int32) (v8 : Int32) (v9 : Int32) {r : Int32} (hk : X κ 13 ω 124 [some (.ref v0), some (.int v1), none, some (.int v3), some (.long v4), none, some (.int v6), some (.int v7), some (.int v8), some (.int v9), some (.int r), none, none] [] σ) : ∀ (n : Nat) (v10 : Int32) (v11 : Int32), L_X9_drawn_99 ω.1 σ v0 v1 v3 v4 v6 v7 v8 v9 n v10 v11 = some r → X κ 13 ω 99 [some (.ref v0), some (.int v1), none, some (.int v3), some (.long v4), none, some (.int v6), some (.int v7), some (.int v8), some (.int v9), some (.int v10), some (.int v11), none] [] σ := by
  intro n
  induction n with
  | zero => intro v10 v11 h; cases h
  | succ n ih =>
    intro v10 v11 h
    rw [L_X9_drawn_99.eq_2] at h
    refine x_iload C (i := 11) dX9_drawn_99 rfl ?_
    refine x_bipush C (v := 16) dX9_drawn_101 (by decide) ?_
    refine x_icmp_ge C (tgt := 124) dX9_drawn_103 (by decide) (fun c14 => ?_) (fun c14 => ?_)
    · have h := ifP h c14
      refine x_wk [true, true, false, true, true, false, true, true, true, true, true, false, false] (lo' := [some (.ref v0), some (.int v1), none, some (.int v3), some (.long v4), none, some (.int v6), some (.int v7), some (.int v8), some (.int v9), some (.int v10), none, none]) rfl ?_
      obtain rfl := Option.some.inj h
      exact hk
    · have h := ifN h c14
      refine x_iload C (i := 10) dX9_drawn_106 rfl ?_
      refine x_iload C (i := 9) dX9_drawn_108 rfl ?_
      refine x_iload C (i := 11) dX9_drawn_110 rfl ?_
      refine x_ishr C dX9_drawn_112 ?_
      refine x_iconst C (v := 1) dX9_drawn_113 (by decide) ?_
      refine x_iand C dX9_drawn_114 ?_
      refine x_iadd C dX9_drawn_115 ?_
      refine x_topi (fun y15 ey15 => ?_)
      have h := lt_e h ey15
      refine x_istore C (i := 10) (lo' := [some (.ref v0), some (.int v1), none, some (.int v3), some (.long v4), none, some (.int v6), some (.int v7), some (.int v8), some (.int v9), some (.int y15), some (.int v11), none]) dX9_drawn_116 (by decide) rfl rfl ?_
      refine x_iinc C (i := 11) (y := v11 + 1) (lo' := [some (.ref v0), some (.int v1), none, some (.int v3), some (.long v4), none, some (.int v6), some (.int v7), some (.int v8), some (.int v9), some (.int y15), some (.int (v11 + 1)), none]) dX9_drawn_118 rfl rfl (by decide) rfl rfl ?_
      refine x_goto C (tgt := 99) dX9_drawn_121 (by decide) ?_
      refine x_wk [true, true, false, true, true, false, true, true, true, true, true, true, false] (lo' := [some (.ref v0), some (.int v1), none, some (.int v3), some (.long v4), none, some (.int v6), some (.int v7), some (.int v8), some (.int v9), some (.int y15), some (.int (v11 + 1)), none]) rfl ?_
      exact ih y15 (v11 + 1) h
set_option maxHeartbeats 4000000 in
set_option maxRecDepth 100000 in
theorem lp_X9_drawn_141 {κ : Kx} {ω : Om} (C : Cx κ 13 4 cX9_drawn RX9 "drawn") (Z : Zx κ ω) (σ : Hp) (v0 : Nat) (v1 : Int32) (v3 : Int32) (v4 : Int64) (v6 : Int32) (v7 : Int32) (v8 : Int32) (v9 : Int32) {r : Int32} (hk : X κ 13 ω 174 [some (.ref v0), some (.int v1), none, some (.int v3), some (.long v4), none, some (.int v6), some (.int v7), some (.int v8), none, none, none, some (.int r)] [] σ) : ∀ (n : Nat) (v11 : Int32) (v12 : Int32), L_X9_drawn_141 ω.1 σ v0 v1 v3 v4 v6 v7 v8 v9 n v11 v12 = some r → X κ 13 ω 141 [some (.ref v0), some (.int v1), none, some (.int v3), some (.long v4), none, some (.int v6), some (.int v7), some (.int v8), some (.int v9), none, some (.int v11), some (.int v12)] [] σ := by
  intro n
  induction n with
  | zero => intro v11 v12 h; cases h
  | succ n ih =>
    intro v11 v12 h
    rw [L_X9_drawn_141.eq_2] at h
    refine x_iload C (i := 9) dX9_drawn_141 rfl ?_
    refine x_iload C (i := 12) dX9_drawn_143 rfl ?_
    obtain ⟨r20, er20, h⟩ := ob h
    refine x_callSr C Z ms_X9_has lk_X9_138 (ct_X9_has (N := ω.1) (σ := σ) er20) (by decide) rfl rfl (Nat.le_of_ble_eq_true rfl) dX9_drawn_145 ?_
    refine x_if_eq C (tgt := 156) dX9_drawn_148 (by decide) (fun c21 => ?_) (fun c21 => ?_)
    · have h := ifP h c21
      refine x_iload C (i := 11) dX9_drawn_156 rfl ?_
      refine x_iload C (i := 9) dX9_drawn_158 rfl ?_
      refine x_iload C (i := 12) dX9_drawn_160 rfl ?_
      refine x_ishr C dX9_drawn_162 ?_
      refine x_iconst C (v := 1) dX9_drawn_163 (by decide) ?_
      refine x_iand C dX9_drawn_164 ?_
      refine x_isub C dX9_drawn_165 ?_
      refine x_topi (fun y22 ey22 => ?_)
      have h := lt_e h ey22
      refine x_istore C (i := 11) (lo' := [some (.ref v0), some (.int v1), none, some (.int v3), some (.long v4), none, some (.int v6), some (.int v7), some (.int v8), some (.int v9), none, some (.int y22), some (.int v12)]) dX9_drawn_166 (by decide) rfl rfl ?_
      refine x_iinc C (i := 12) (y := v12 + 1) (lo' := [some (.ref v0), some (.int v1), none, some (.int v3), some (.long v4), none, some (.int v6), some (.int v7), some (.int v8), some (.int v9), none, some (.int y22), some (.int (v12 + 1))]) dX9_drawn_168 rfl rfl (by decide) rfl rfl ?_
      refine x_goto C (tgt := 141) dX9_drawn_171 (by decide) ?_
      refine x_wk [true, true, false, true, true, false, true, true, true, true, false, true, true] (lo' := [some (.ref v0), some (.int v1), none, some (.int v3), some (.long v4), none, some (.int v6), some (.int v7), some (.int v8), some (.int v9), none, some (.int y22), some (.int (v12 + 1))]) rfl ?_
      exact ih y22 (v12 + 1) h
    · have h := ifN h c21
      refine x_iload C (i := 11) dX9_drawn_151 rfl ?_
      refine x_if_le C (tgt := 174) dX9_drawn_153 (by decide) (fun c23 => ?_) (fun c23 => ?_)
      · have h := ifP h c23
        refine x_wk [true, true, false, true, true, false, true, true, true, false, false, false, true] (lo' := [some (.ref v0), some (.int v1), none, some (.int v3), some (.long v4), none, some (.int v6), some (.int v7), some (.int v8), none, none, none, some (.int v12)]) rfl ?_
        obtain rfl := Option.some.inj h
        exact hk
      · have h := ifN h c23
        refine x_iload C (i := 11) dX9_drawn_156 rfl ?_
        refine x_iload C (i := 9) dX9_drawn_158 rfl ?_
        refine x_iload C (i := 12) dX9_drawn_160 rfl ?_
        refine x_ishr C dX9_drawn_162 ?_
        refine x_iconst C (v := 1) dX9_drawn_163 (by decide) ?_
        refine x_iand C dX9_drawn_164 ?_
        refine x_isub C dX9_drawn_165 ?_
        refine x_topi (fun y24 ey24 => ?_)
        have h := lt_e h ey24
        refine x_istore C (i := 11) (lo' := [some (.ref v0), some (.int v1), none, some (.int v3), some (.long v4), none, some (.int v6), some (.int v7), some (.int v8), some (.int v9), none, some (.int y24), some (.int v12)]) dX9_drawn_166 (by decide) rfl rfl ?_
        refine x_iinc C (i := 12) (y := v12 + 1) (lo' := [some (.ref v0), some (.int v1), none, some (.int v3), some (.long v4), none, some (.int v6), some (.int v7), some (.int v8), some (.int v9), none, some (.int y24), some (.int (v12 + 1))]) dX9_drawn_168 rfl rfl (by decide) rfl rfl ?_
        refine x_goto C (tgt := 141) dX9_drawn_171 (by decide) ?_
        refine x_wk [true, true, false, true, true, false, true, true, true, true, false, true, true] (lo' := [some (.ref v0), some (.int v1), none, some (.int v3), some (.long v4), none, some (.int v6), some (.int v7), some (.int v8), some (.int v9), none, some (.int y24), some (.int (v12 + 1))]) rfl ?_
        exact ih y24 (v12 + 1) h
set_option maxHeartbeats 4000000 in
set_option maxRecDepth 100000 in
theorem lp_X9_drawn_67 {κ : Kx} {ω : Om} (C : Cx κ 13 4 cX9_drawn RX9 "drawn") (Z : Zx κ ω) (σ : Hp) (v0 : Nat) (v1 : Int32) (v3 : Int32) {r : Int32 × Int32} (hk : X κ 13 ω 217 [some (.ref v0), none, none, some (.int v3), none, none, some (.int r.1), some (.int r.2), none, none, none, none, none] [] σ) : ∀ (n : Nat) (v4 : Int64) (v6 : Int32) (v7 : Int32) (v8 : Int32), L_X9_drawn_67 ω.1 σ v0 v1 v3 n v4 v6 v7 v8 = some r → X κ 13 ω 67 [some (.ref v0), some (.int v1), none, some (.int v3), some (.long v4), none, some (.int v6), some (.int v7), some (.int v8), none, none, none, none] [] σ := by
  intro n
  induction n with
  | zero => intro v4 v6 v7 v8 h; cases h
  | succ n ih =>
    intro v4 v6 v7 v8 h
    rw [L_X9_drawn_67.eq_2] at h
    refine x_iload C (i := 8) dX9_drawn_67 rfl ?_
    refine x_iload_n C (i := 1) dX9_drawn_69 rfl rfl ?_
    refine x_icmp_ge C (tgt := 217) dX9_drawn_70 (by decide) (fun c11 => ?_) (fun c11 => ?_)
    · have h := ifP h c11
      refine x_wk [true, false, false, true, false, false, true, true, false, false, false, false, false] (lo' := [some (.ref v0), none, none, some (.int v3), none, none, some (.int v6), some (.int v7), none, none, none, none, none]) rfl ?_
      obtain rfl := Option.some.inj h
      exact hk
    · have h := ifN h c11
      refine x_lload C (i := 4) dX9_drawn_73 rfl ?_
      refine x_ldc2 C kj_X9_253 dX9_drawn_75 ?_
      refine x_lmul C dX9_drawn_78 ?_
      refine x_ldc2 C kj_X9_255 dX9_drawn_79 ?_
      refine x_lrem C dX9_drawn_82 (by decide) ?_
      refine x_topl (fun y12 ey12 => ?_)
      have h := lt_e h ey12
      refine x_lstore C (i := 4) (lo' := [some (.ref v0), some (.int v1), none, some (.int v3), some (.long y12), none, some (.int v6), some (.int v7), some (.int v8), none, none, none, none]) dX9_drawn_83 (by decide) rfl rfl ?_
      refine x_aload_n C (i := 0) dX9_drawn_85 rfl rfl ?_
      refine x_iload C (i := 6) dX9_drawn_86 rfl ?_
      obtain ⟨r13, er13, h⟩ := ob h
      refine x_callVr C Z mv_X9_movesOf lk_X9_190 (rv_h er13) (ct_X9_movesOf er13) (by decide) rfl rfl (Nat.le_of_ble_eq_true rfl) dX9_drawn_88 ?_
      refine x_istore C (i := 9) (lo' := [some (.ref v0), some (.int v1), none, some (.int v3), some (.long y12), none, some (.int v6), some (.int v7), some (.int v8), some (.int r13), none, none, none]) dX9_drawn_91 (by decide) rfl rfl ?_
      refine x_iconst C (v := 0) dX9_drawn_93 (by decide) ?_
      refine x_istore C (i := 10) (lo' := [some (.ref v0), some (.int v1), none, some (.int v3), some (.long y12), none, some (.int v6), some (.int v7), some (.int v8), some (.int r13), some (.int 0), none, none]) dX9_drawn_94 (by decide) rfl rfl ?_
      refine x_iconst C (v := 0) dX9_drawn_96 (by decide) ?_
      refine x_istore C (i := 11) (lo' := [some (.ref v0), some (.int v1), none, some (.int v3), some (.long y12), none, some (.int v6), some (.int v7), some (.int v8), some (.int r13), some (.int 0), some (.int 0), none]) dX9_drawn_97 (by decide) rfl rfl ?_
      obtain ⟨z16, ez16, h⟩ := ob h
      refine x_wk [true, true, false, true, true, false, true, true, true, true, true, true, false] (lo' := [some (.ref v0), some (.int v1), none, some (.int v3), some (.long y12), none, some (.int v6), some (.int v7), some (.int v8), some (.int r13), some (.int 0), some (.int 0), none]) rfl ?_
      refine lp_X9_drawn_99 C Z σ v0 v1 v3 y12 v6 v7 v8 r13 ?_ _ 0 0 ez16
      refine x_iload C (i := 10) dX9_drawn_124 rfl ?_
      refine x_if_le C (tgt := 211) dX9_drawn_126 (by decide) (fun c17 => ?_) (fun c17 => ?_)
      · have h := ifP h c17
        refine x_iinc C (i := 8) (y := v8 + 1) (lo' := [some (.ref v0), some (.int v1), none, some (.int v3), some (.long y12), none, some (.int v6), some (.int v7), some (.int (v8 + 1)), some (.int r13), some (.int z16), none, none]) dX9_drawn_211 rfl rfl (by decide) rfl rfl ?_
        refine x_goto C (tgt := 67) dX9_drawn_214 (by decide) ?_
        refine x_wk [true, true, false, true, true, false, true, true, true, false, false, false, false] (lo' := [some (.ref v0), some (.int v1), none, some (.int v3), some (.long y12), none, some (.int v6), some (.int v7), some (.int (v8 + 1)), none, none, none, none]) rfl ?_
        exact ih y12 v6 v7 (v8 + 1) h
      · have h := ifN h c17
        refine x_lload C (i := 4) dX9_drawn_129 rfl ?_
        refine x_iload C (i := 10) dX9_drawn_131 rfl ?_
        refine x_i2l C dX9_drawn_133 ?_
        obtain ⟨u18, eu18, h⟩ := ob h
        refine x_lrem C dX9_drawn_134 (nzJ_ne eu18) ?_
        refine x_l2i C dX9_drawn_135 ?_
        refine x_topi (fun y19 ey19 => ?_)
        have h := lt_e h ey19
        refine x_istore C (i := 11) (lo' := [some (.ref v0), some (.int v1), none, some (.int v3), some (.long y12), none, some (.int v6), some (.int v7), some (.int v8), some (.int r13), some (.int z16), some (.int y19), none]) dX9_drawn_136 (by decide) rfl rfl ?_
        refine x_iconst C (v := 0) dX9_drawn_138 (by decide) ?_
        refine x_istore C (i := 12) (lo' := [some (.ref v0), some (.int v1), none, some (.int v3), some (.long y12), none, some (.int v6), some (.int v7), some (.int v8), some (.int r13), some (.int z16), some (.int y19), some (.int 0)]) dX9_drawn_139 (by decide) rfl rfl ?_
        obtain ⟨z25, ez25, h⟩ := ob h
        refine x_wk [true, true, false, true, true, false, true, true, true, true, false, true, true] (lo' := [some (.ref v0), some (.int v1), none, some (.int v3), some (.long y12), none, some (.int v6), some (.int v7), some (.int v8), some (.int r13), none, some (.int y19), some (.int 0)]) rfl ?_
        refine lp_X9_drawn_141 C Z σ v0 v1 v3 y12 v6 v7 v8 r13 ?_ _ y19 0 ez25
        refine x_iload C (i := 7) dX9_drawn_174 rfl ?_
        refine x_aload_n C (i := 0) dX9_drawn_176 rfl rfl ?_
        refine x_iload C (i := 6) dX9_drawn_177 rfl ?_
        refine x_iload C (i := 12) dX9_drawn_179 rfl ?_
        refine x_iconst C (v := 4) dX9_drawn_181 (by decide) ?_
        refine x_idiv C dX9_drawn_182 (by decide) ?_
        refine x_iload C (i := 12) dX9_drawn_183 rfl ?_
        refine x_iconst C (v := 4) dX9_drawn_185 (by decide) ?_
        refine x_irem C dX9_drawn_186 (by decide) ?_
        obtain ⟨r26, er26, h⟩ := ob h
        refine x_callVr C Z mv_X9_mover lk_X9_173 (rv_h er26) (ct_X9_mover er26) (by decide) rfl rfl (Nat.le_of_ble_eq_true rfl) dX9_drawn_187 ?_
        obtain ⟨z27, hz27, h⟩ := ob h
        have hJ29 : X κ 13 ω 198 [some (.ref v0), some (.int v1), none, some (.int v3), some (.long y12), none, some (.int v6), none, some (.int v8), none, none, none, some (.int z25)] [.int z27, .int v7] σ := by
          refine x_iadd C dX9_drawn_198 ?_
          refine x_istore C (i := 7) (lo' := [some (.ref v0), some (.int v1), none, some (.int v3), some (.long y12), none, some (.int v6), some (.int (v7 + z27)), some (.int v8), none, none, none, some (.int z25)]) dX9_drawn_199 (by decide) rfl rfl ?_
          refine x_aload_n C (i := 0) dX9_drawn_201 rfl rfl ?_
          refine x_iload C (i := 6) dX9_drawn_202 rfl ?_
          refine x_iload C (i := 12) dX9_drawn_204 rfl ?_
          obtain ⟨r28, er28, h⟩ := ob h
          refine x_callVr C Z mv_X9_behind lk_X9_199 (rv_h er28) (ct_X9_behind er28) (by decide) rfl rfl (Nat.le_of_ble_eq_true rfl) dX9_drawn_206 ?_
          refine x_istore C (i := 6) (lo' := [some (.ref v0), some (.int v1), none, some (.int v3), some (.long y12), none, some (.int r28), some (.int (v7 + z27)), some (.int v8), none, none, none, some (.int z25)]) dX9_drawn_209 (by decide) rfl rfl ?_
          refine x_iinc C (i := 8) (y := v8 + 1) (lo' := [some (.ref v0), some (.int v1), none, some (.int v3), some (.long y12), none, some (.int r28), some (.int (v7 + z27)), some (.int (v8 + 1)), none, none, none, some (.int z25)]) dX9_drawn_211 rfl rfl (by decide) rfl rfl ?_
          refine x_goto C (tgt := 67) dX9_drawn_214 (by decide) ?_
          refine x_wk [true, true, false, true, true, false, true, true, true, false, false, false, false] (lo' := [some (.ref v0), some (.int v1), none, some (.int v3), some (.long y12), none, some (.int r28), some (.int (v7 + z27)), some (.int (v8 + 1)), none, none, none, none]) rfl ?_
          exact ih y12 r28 (v7 + z27) (v8 + 1) h
        clear h
        have h := hz27
        refine x_if_ne C (tgt := 197) dX9_drawn_190 (by decide) (fun c31 => ?_) (fun c31 => ?_)
        · have h := ifN h c31
          refine x_iconst C (v := 0) dX9_drawn_197 (by decide) ?_
          refine x_wk [true, true, false, true, true, false, true, false, true, false, false, false, true] (lo' := [some (.ref v0), some (.int v1), none, some (.int v3), some (.long y12), none, some (.int v6), none, some (.int v8), none, none, none, some (.int z25)]) rfl ?_
          obtain rfl := Option.some.inj h
          exact hJ29
        · have h := ifP h c31
          refine x_iconst C (v := 1) dX9_drawn_193 (by decide) ?_
          refine x_goto C (tgt := 198) dX9_drawn_194 (by decide) ?_
          refine x_wk [true, true, false, true, true, false, true, false, true, false, false, false, true] (lo' := [some (.ref v0), some (.int v1), none, some (.int v3), some (.long y12), none, some (.int v6), none, some (.int v8), none, none, none, some (.int z25)]) rfl ?_
          obtain rfl := Option.some.inj h
          exact hJ29
set_option maxHeartbeats 4000000 in
set_option maxRecDepth 100000 in
theorem ct_X9_drawn {l : Launch} {D : va_G} {cy : Nat → Nat} {N : Nat} {σ : Hp} {t0 : Nat} {p1 : Int32} {p2 : Int32} {p3 : Int32} {r : Int32 × Hp} (h : m_X9_drawn N σ t0 p1 p2 p3 = some r) : Ct l D cy yX9_drawn cX9_drawn 13 (some .int) 4 [.ref t0, .int p1, .int p2, .int p3] N σ (fun v s' => v = (some (.int r.1)) ∧ s' = r.2) := by
  refine Ct.intro [some (.ref t0), some (.int p1), some (.int p2), some (.int p3), none, none, none, none, none, none, none, none, none] (by decide) rfl (Nat.le_of_ble_eq_true rfl) ?_
  intro κ ω e1 e2 e3 e4 C Z E
  subst e1; subst e2; subst e3; subst e4
  have C : Cx κ 13 4 cX9_drawn RX9 "drawn" := C
  have hE : ∀ x : Int32 × Hp, r = x → ((some (Value.int x.1)) = (some (Value.int r.1)) ∧ x.2 = r.2) := fun x hx => by subst hx; exact ⟨rfl, rfl⟩
  unfold m_X9_drawn at h
  obtain ⟨_, _, h⟩ := ob h
  refine x_aload_n C (i := 0) dX9_drawn_0 rfl rfl ?_
  obtain ⟨r1, er1, h⟩ := ob h
  refine x_callVr C Z mv_X9_isBoard lk_X9_183 (rv_h er1) (ct_X9_isBoard er1) (by decide) rfl rfl (Nat.le_of_ble_eq_true rfl) dX9_drawn_1 ?_
  refine x_if_ne C (tgt := 10) dX9_drawn_4 (by decide) (fun c2 => ?_) (fun c2 => ?_)
  · have h := ifN h c2
    refine x_iload_n C (i := 1) dX9_drawn_10 rfl rfl ?_
    refine x_i2l C dX9_drawn_11 ?_
    refine x_lconst C (v := 0) dX9_drawn_12 (by decide) ?_
    refine x_ldc2 C kj_X9_228 dX9_drawn_13 ?_
    obtain ⟨r3, er3, h⟩ := ob h
    refine x_callSr C Z ms_X9_in lk_X9_56 (ct_X9_in (N := ω.1) (σ := σ) er3) (by decide) rfl rfl (Nat.le_of_ble_eq_true rfl) dX9_drawn_16 ?_
    refine x_if_eq C (tgt := 44) dX9_drawn_19 (by decide) (fun c4 => ?_) (fun c4 => ?_)
    · have h := ifP h c4
      refine x_ldc C kc_X9_66 dX9_drawn_44 ?_
      exact x_iret C E dX9_drawn_46 (hE ((-1000001), σ) (Option.some.inj h).symm)
    · have h := ifN h c4
      refine x_iload_n C (i := 2) dX9_drawn_22 rfl rfl ?_
      refine x_i2l C dX9_drawn_23 ?_
      refine x_lconst C (v := 1) dX9_drawn_24 (by decide) ?_
      refine x_ldc2 C kj_X9_251 dX9_drawn_25 ?_
      obtain ⟨r5, er5, h⟩ := ob h
      refine x_callSr C Z ms_X9_in lk_X9_56 (ct_X9_in (N := ω.1) (σ := σ) er5) (by decide) rfl rfl (Nat.le_of_ble_eq_true rfl) dX9_drawn_28 ?_
      refine x_if_eq C (tgt := 44) dX9_drawn_31 (by decide) (fun c6 => ?_) (fun c6 => ?_)
      · have h := ifP h c6
        refine x_ldc C kc_X9_66 dX9_drawn_44 ?_
        exact x_iret C E dX9_drawn_46 (hE ((-1000001), σ) (Option.some.inj h).symm)
      · have h := ifN h c6
        refine x_iload_n C (i := 3) dX9_drawn_34 rfl rfl ?_
        refine x_i2l C dX9_drawn_35 ?_
        refine x_lconst C (v := 0) dX9_drawn_36 (by decide) ?_
        refine x_lconst C (v := 1) dX9_drawn_37 (by decide) ?_
        obtain ⟨r7, er7, h⟩ := ob h
        refine x_callSr C Z ms_X9_in lk_X9_56 (ct_X9_in (N := ω.1) (σ := σ) er7) (by decide) rfl rfl (Nat.le_of_ble_eq_true rfl) dX9_drawn_38 ?_
        refine x_if_ne C (tgt := 47) dX9_drawn_41 (by decide) (fun c8 => ?_) (fun c8 => ?_)
        · have h := ifN h c8
          refine x_aload_n C (i := 0) dX9_drawn_47 rfl rfl ?_
          obtain ⟨r9, er9, h⟩ := ob h
          refine x_callVn C Z mv_X9_asTold lk_X9_166 (rv_h er9) (ct_X9_asTold er9) (by decide) rfl rfl (Nat.le_of_ble_eq_true rfl) dX9_drawn_48 ?_
          refine x_iload_n C (i := 2) dX9_drawn_51 rfl rfl ?_
          refine x_i2l C dX9_drawn_52 ?_
          refine x_lstore C (i := 4) (lo' := [some (.ref t0), some (.int p1), some (.int p2), some (.int p3), some (.long p2.toInt64), none, none, none, none, none, none, none, none]) dX9_drawn_53 (by decide) rfl rfl ?_
          refine x_aload_n C (i := 0) dX9_drawn_55 rfl rfl ?_
          obtain ⟨r10, er10, h⟩ := ob h
          refine x_callVr C Z mv_X9_state lk_X9_169 (rv_h er10) (ct_X9_state er10) (by decide) rfl rfl (Nat.le_of_ble_eq_true rfl) dX9_drawn_56 ?_
          refine x_istore C (i := 6) (lo' := [some (.ref t0), some (.int p1), some (.int p2), some (.int p3), some (.long p2.toInt64), none, some (.int r10), none, none, none, none, none, none]) dX9_drawn_59 (by decide) rfl rfl ?_
          refine x_iconst C (v := 0) dX9_drawn_61 (by decide) ?_
          refine x_istore C (i := 7) (lo' := [some (.ref t0), some (.int p1), some (.int p2), some (.int p3), some (.long p2.toInt64), none, some (.int r10), some (.int 0), none, none, none, none, none]) dX9_drawn_62 (by decide) rfl rfl ?_
          refine x_iconst C (v := 0) dX9_drawn_64 (by decide) ?_
          refine x_istore C (i := 8) (lo' := [some (.ref t0), some (.int p1), some (.int p2), some (.int p3), some (.long p2.toInt64), none, some (.int r10), some (.int 0), some (.int 0), none, none, none, none]) dX9_drawn_65 (by decide) rfl rfl ?_
          obtain ⟨z32, ez32, h⟩ := ob h
          refine x_wk [true, true, false, true, true, false, true, true, true, false, false, false, false] (lo' := [some (.ref t0), some (.int p1), none, some (.int p3), some (.long p2.toInt64), none, some (.int r10), some (.int 0), some (.int 0), none, none, none, none]) rfl ?_
          refine lp_X9_drawn_67 C Z r9 t0 p1 p3 ?_ _ p2.toInt64 r10 0 0 ez32
          refine x_iload_n C (i := 3) dX9_drawn_217 rfl rfl ?_
          refine x_if_ne C (tgt := 230) dX9_drawn_218 (by decide) (fun c33 => ?_) (fun c33 => ?_)
          · have h := ifN h c33
            refine x_iload C (i := 7) dX9_drawn_230 rfl ?_
            exact x_iret C E dX9_drawn_232 (hE (z32.2, r9) (Option.some.inj h).symm)
          · have h := ifP h c33
            refine x_aload_n C (i := 0) dX9_drawn_221 rfl rfl ?_
            refine x_iload C (i := 6) dX9_drawn_222 rfl ?_
            obtain ⟨r34, er34, h⟩ := ob h
            refine x_callVr C Z mv_X9_codeOf lk_X9_222 (rv_h er34) (ct_X9_codeOf er34) (by decide) rfl rfl (Nat.le_of_ble_eq_true rfl) dX9_drawn_224 ?_
            refine x_goto C (tgt := 232) dX9_drawn_227 (by decide) ?_
            exact x_iret C E dX9_drawn_232 (hE (r34, r9) (Option.some.inj h).symm)
        · have h := ifP h c8
          refine x_ldc C kc_X9_66 dX9_drawn_44 ?_
          exact x_iret C E dX9_drawn_46 (hE ((-1000001), σ) (Option.some.inj h).symm)
  · have h := ifP h c2
    refine x_ldc C kc_X9_176 dX9_drawn_7 ?_
    exact x_iret C E dX9_drawn_9 (hE ((-1000002), σ) (Option.some.inj h).symm)
theorem dX9_image_0 : decode cX9_image 0 = .ok (.iload_n 1, 1) := by decide +kernel
theorem dX9_image_1 : decode cX9_image 1 = .ok (.i2l, 1) := by decide +kernel
theorem dX9_image_2 : decode cX9_image 2 = .ok (.lconst 0, 1) := by decide +kernel
theorem dX9_image_3 : decode cX9_image 3 = .ok (.lconst 1, 1) := by decide +kernel
theorem dX9_image_4 : decode cX9_image 4 = .ok (.invokestatic 56, 3) := by decide +kernel
theorem dX9_image_7 : decode cX9_image 7 = .ok (.ifCond .ne 6, 3) := by decide +kernel
theorem dX9_image_10 : decode cX9_image 10 = .ok (.ldc 66, 2) := by decide +kernel
theorem dX9_image_12 : decode cX9_image 12 = .ok (.ireturn, 1) := by decide +kernel
theorem dX9_image_13 : decode cX9_image 13 = .ok (.aload_n 0, 1) := by decide +kernel
theorem dX9_image_14 : decode cX9_image 14 = .ok (.invokevirtual 183, 3) := by decide +kernel
theorem dX9_image_17 : decode cX9_image 17 = .ok (.ifCond .ne 6, 3) := by decide +kernel
theorem dX9_image_20 : decode cX9_image 20 = .ok (.ldc 176, 2) := by decide +kernel
theorem dX9_image_22 : decode cX9_image 22 = .ok (.ireturn, 1) := by decide +kernel
theorem dX9_image_23 : decode cX9_image 23 = .ok (.aload_n 0, 1) := by decide +kernel
theorem dX9_image_24 : decode cX9_image 24 = .ok (.iconst 0, 1) := by decide +kernel
theorem dX9_image_25 : decode cX9_image 25 = .ok (.bipush 25, 2) := by decide +kernel
theorem dX9_image_27 : decode cX9_image 27 = .ok (.iload_n 1, 1) := by decide +kernel
theorem dX9_image_28 : decode cX9_image 28 = .ok (.iadd, 1) := by decide +kernel
theorem dX9_image_29 : decode cX9_image 29 = .ok (.bipush 16, 2) := by decide +kernel
theorem dX9_image_31 : decode cX9_image 31 = .ok (.imul, 1) := by decide +kernel
theorem dX9_image_32 : decode cX9_image 32 = .ok (.invokevirtual 129, 3) := by decide +kernel
theorem dX9_image_35 : decode cX9_image 35 = .ok (.aload_n 0, 1) := by decide +kernel
theorem dX9_image_36 : decode cX9_image 36 = .ok (.getfield 26, 3) := by decide +kernel
theorem dX9_image_39 : decode cX9_image 39 = .ok (.iload_n 1, 1) := by decide +kernel
theorem dX9_image_40 : decode cX9_image 40 = .ok (.iconst 1, 1) := by decide +kernel
theorem dX9_image_41 : decode cX9_image 41 = .ok (.bastore, 1) := by decide +kernel
theorem dX9_image_42 : decode cX9_image 42 = .ok (.iconst 1, 1) := by decide +kernel
theorem dX9_image_43 : decode cX9_image 43 = .ok (.ireturn, 1) := by decide +kernel
def m_X9_image (N : Nat) (σ : Hp) (t0 : Nat) (p1 : Int32) : Option (Int32 × Hp) :=
  (rv N σ t0 9).bind fun _ =>
  (m_X9_in p1.toInt64 0 1).bind fun r1 =>
  if r1 = 0 then
   some ((-1000001), σ)
  else
   (m_X9_isBoard N σ t0).bind fun r3 =>
  if r3 = 0 then
   some ((-1000002), σ)
  else
   (m_X9_copies N σ t0 0 (((25 : Int32) + p1) * 16)).bind fun r5 =>
  (gR N r5 t0 9 12).bind fun x6 =>
  (sI 3 N r5 x6 p1 1).bind fun σ7 =>
  some (1, σ7)
set_option maxHeartbeats 4000000 in
set_option maxRecDepth 100000 in
theorem ct_X9_image {l : Launch} {D : va_G} {cy : Nat → Nat} {N : Nat} {σ : Hp} {t0 : Nat} {p1 : Int32} {r : Int32 × Hp} (h : m_X9_image N σ t0 p1 = some r) : Ct l D cy yX9_image cX9_image 2 (some .int) 1 [.ref t0, .int p1] N σ (fun v s' => v = (some (.int r.1)) ∧ s' = r.2) := by
  refine Ct.intro [some (.ref t0), some (.int p1)] (by decide) rfl (Nat.le_of_ble_eq_true rfl) ?_
  intro κ ω e1 e2 e3 e4 C Z E
  subst e1; subst e2; subst e3; subst e4
  have C : Cx κ 2 1 cX9_image RX9 "image" := C
  have hE : ∀ x : Int32 × Hp, r = x → ((some (Value.int x.1)) = (some (Value.int r.1)) ∧ x.2 = r.2) := fun x hx => by subst hx; exact ⟨rfl, rfl⟩
  unfold m_X9_image at h
  obtain ⟨_, _, h⟩ := ob h
  refine x_iload_n C (i := 1) dX9_image_0 rfl rfl ?_
  refine x_i2l C dX9_image_1 ?_
  refine x_lconst C (v := 0) dX9_image_2 (by decide) ?_
  refine x_lconst C (v := 1) dX9_image_3 (by decide) ?_
  obtain ⟨r1, er1, h⟩ := ob h
  refine x_callSr C Z ms_X9_in lk_X9_56 (ct_X9_in (N := ω.1) (σ := σ) er1) (by decide) rfl rfl (Nat.le_of_ble_eq_true rfl) dX9_image_4 ?_
  refine x_if_ne C (tgt := 13) dX9_image_7 (by decide) (fun c2 => ?_) (fun c2 => ?_)
  · have h := ifN h c2
    refine x_aload_n C (i := 0) dX9_image_13 rfl rfl ?_
    obtain ⟨r3, er3, h⟩ := ob h
    refine x_callVr C Z mv_X9_isBoard lk_X9_183 (rv_h er3) (ct_X9_isBoard er3) (by decide) rfl rfl (Nat.le_of_ble_eq_true rfl) dX9_image_14 ?_
    refine x_if_ne C (tgt := 23) dX9_image_17 (by decide) (fun c4 => ?_) (fun c4 => ?_)
    · have h := ifN h c4
      refine x_aload_n C (i := 0) dX9_image_23 rfl rfl ?_
      refine x_iconst C (v := 0) dX9_image_24 (by decide) ?_
      refine x_bipush C (v := 25) dX9_image_25 (by decide) ?_
      refine x_iload_n C (i := 1) dX9_image_27 rfl rfl ?_
      refine x_iadd C dX9_image_28 ?_
      refine x_bipush C (v := 16) dX9_image_29 (by decide) ?_
      refine x_imul C dX9_image_31 ?_
      obtain ⟨r5, er5, h⟩ := ob h
      refine x_callVn C Z mv_X9_copies lk_X9_129 (rv_h er5) (ct_X9_copies er5) (by decide) rfl rfl (Nat.le_of_ble_eq_true rfl) dX9_image_32 ?_
      refine x_aload_n C (i := 0) dX9_image_35 rfl rfl ?_
      obtain ⟨x6, ex6, h⟩ := ob h
      refine x_getR C fl_X9_26 dX9_image_36 ex6 ?_
      refine x_iload_n C (i := 1) dX9_image_39 rfl rfl ?_
      refine x_iconst C (v := 1) dX9_image_40 (by decide) ?_
      obtain ⟨σ7, eσ7, h⟩ := ob h
      refine x_zast C dX9_image_41 eσ7 ?_
      refine x_iconst C (v := 1) dX9_image_42 (by decide) ?_
      exact x_iret C E dX9_image_43 (hE (1, σ7) (Option.some.inj h).symm)
    · have h := ifP h c4
      refine x_ldc C kc_X9_176 dX9_image_20 ?_
      exact x_iret C E dX9_image_22 (hE ((-1000002), σ) (Option.some.inj h).symm)
  · have h := ifP h c2
    refine x_ldc C kc_X9_66 dX9_image_10 ?_
    exact x_iret C E dX9_image_12 (hE ((-1000001), σ) (Option.some.inj h).symm)
theorem dX9_restore_0 : decode cX9_restore 0 = .ok (.iload_n 1, 1) := by decide +kernel
theorem dX9_restore_1 : decode cX9_restore 1 = .ok (.i2l, 1) := by decide +kernel
theorem dX9_restore_2 : decode cX9_restore 2 = .ok (.lconst 0, 1) := by decide +kernel
theorem dX9_restore_3 : decode cX9_restore 3 = .ok (.lconst 1, 1) := by decide +kernel
theorem dX9_restore_4 : decode cX9_restore 4 = .ok (.invokestatic 56, 3) := by decide +kernel
theorem dX9_restore_7 : decode cX9_restore 7 = .ok (.ifCond .ne 6, 3) := by decide +kernel
theorem dX9_restore_10 : decode cX9_restore 10 = .ok (.ldc 66, 2) := by decide +kernel
theorem dX9_restore_12 : decode cX9_restore 12 = .ok (.ireturn, 1) := by decide +kernel
theorem dX9_restore_13 : decode cX9_restore 13 = .ok (.aload_n 0, 1) := by decide +kernel
theorem dX9_restore_14 : decode cX9_restore 14 = .ok (.getfield 26, 3) := by decide +kernel
theorem dX9_restore_17 : decode cX9_restore 17 = .ok (.iload_n 1, 1) := by decide +kernel
theorem dX9_restore_18 : decode cX9_restore 18 = .ok (.baload, 1) := by decide +kernel
theorem dX9_restore_19 : decode cX9_restore 19 = .ok (.ifCond .ne 6, 3) := by decide +kernel
theorem dX9_restore_22 : decode cX9_restore 22 = .ok (.ldc 176, 2) := by decide +kernel
theorem dX9_restore_24 : decode cX9_restore 24 = .ok (.ireturn, 1) := by decide +kernel
theorem dX9_restore_25 : decode cX9_restore 25 = .ok (.aload_n 0, 1) := by decide +kernel
theorem dX9_restore_26 : decode cX9_restore 26 = .ok (.bipush 25, 2) := by decide +kernel
theorem dX9_restore_28 : decode cX9_restore 28 = .ok (.iload_n 1, 1) := by decide +kernel
theorem dX9_restore_29 : decode cX9_restore 29 = .ok (.iadd, 1) := by decide +kernel
theorem dX9_restore_30 : decode cX9_restore 30 = .ok (.bipush 16, 2) := by decide +kernel
theorem dX9_restore_32 : decode cX9_restore 32 = .ok (.imul, 1) := by decide +kernel
theorem dX9_restore_33 : decode cX9_restore 33 = .ok (.iconst 0, 1) := by decide +kernel
theorem dX9_restore_34 : decode cX9_restore 34 = .ok (.invokevirtual 129, 3) := by decide +kernel
theorem dX9_restore_37 : decode cX9_restore 37 = .ok (.aload_n 0, 1) := by decide +kernel
theorem dX9_restore_38 : decode cX9_restore 38 = .ok (.iconst 0, 1) := by decide +kernel
theorem dX9_restore_39 : decode cX9_restore 39 = .ok (.putfield 132, 3) := by decide +kernel
theorem dX9_restore_42 : decode cX9_restore 42 = .ok (.iconst 1, 1) := by decide +kernel
theorem dX9_restore_43 : decode cX9_restore 43 = .ok (.ireturn, 1) := by decide +kernel
def m_X9_restore (N : Nat) (σ : Hp) (t0 : Nat) (p1 : Int32) : Option (Int32 × Hp) :=
  (rv N σ t0 9).bind fun _ =>
  (m_X9_in p1.toInt64 0 1).bind fun r1 =>
  if r1 = 0 then
   some ((-1000001), σ)
  else
   (gR N σ t0 9 12).bind fun x3 =>
  (aI 3 N σ x3 p1).bind fun x4 =>
  if x4 = 0 then
   some ((-1000002), σ)
  else
   (m_X9_copies N σ t0 (((25 : Int32) + p1) * 16) 0).bind fun r6 =>
  (pV N r6 t0 9 11 (.int 0)).bind fun σ7 =>
  some (1, σ7)
set_option maxHeartbeats 4000000 in
set_option maxRecDepth 100000 in
theorem ct_X9_restore {l : Launch} {D : va_G} {cy : Nat → Nat} {N : Nat} {σ : Hp} {t0 : Nat} {p1 : Int32} {r : Int32 × Hp} (h : m_X9_restore N σ t0 p1 = some r) : Ct l D cy yX9_restore cX9_restore 2 (some .int) 1 [.ref t0, .int p1] N σ (fun v s' => v = (some (.int r.1)) ∧ s' = r.2) := by
  refine Ct.intro [some (.ref t0), some (.int p1)] (by decide) rfl (Nat.le_of_ble_eq_true rfl) ?_
  intro κ ω e1 e2 e3 e4 C Z E
  subst e1; subst e2; subst e3; subst e4
  have C : Cx κ 2 1 cX9_restore RX9 "restore" := C
  have hE : ∀ x : Int32 × Hp, r = x → ((some (Value.int x.1)) = (some (Value.int r.1)) ∧ x.2 = r.2) := fun x hx => by subst hx; exact ⟨rfl, rfl⟩
  unfold m_X9_restore at h
  obtain ⟨_, _, h⟩ := ob h
  refine x_iload_n C (i := 1) dX9_restore_0 rfl rfl ?_
  refine x_i2l C dX9_restore_1 ?_
  refine x_lconst C (v := 0) dX9_restore_2 (by decide) ?_
  refine x_lconst C (v := 1) dX9_restore_3 (by decide) ?_
  obtain ⟨r1, er1, h⟩ := ob h
  refine x_callSr C Z ms_X9_in lk_X9_56 (ct_X9_in (N := ω.1) (σ := σ) er1) (by decide) rfl rfl (Nat.le_of_ble_eq_true rfl) dX9_restore_4 ?_
  refine x_if_ne C (tgt := 13) dX9_restore_7 (by decide) (fun c2 => ?_) (fun c2 => ?_)
  · have h := ifN h c2
    refine x_aload_n C (i := 0) dX9_restore_13 rfl rfl ?_
    obtain ⟨x3, ex3, h⟩ := ob h
    refine x_getR C fl_X9_26 dX9_restore_14 ex3 ?_
    refine x_iload_n C (i := 1) dX9_restore_17 rfl rfl ?_
    obtain ⟨x4, ex4, h⟩ := ob h
    refine x_zald C dX9_restore_18 ex4 ?_
    refine x_if_ne C (tgt := 25) dX9_restore_19 (by decide) (fun c5 => ?_) (fun c5 => ?_)
    · have h := ifN h c5
      refine x_aload_n C (i := 0) dX9_restore_25 rfl rfl ?_
      refine x_bipush C (v := 25) dX9_restore_26 (by decide) ?_
      refine x_iload_n C (i := 1) dX9_restore_28 rfl rfl ?_
      refine x_iadd C dX9_restore_29 ?_
      refine x_bipush C (v := 16) dX9_restore_30 (by decide) ?_
      refine x_imul C dX9_restore_32 ?_
      refine x_iconst C (v := 0) dX9_restore_33 (by decide) ?_
      obtain ⟨r6, er6, h⟩ := ob h
      refine x_callVn C Z mv_X9_copies lk_X9_129 (rv_h er6) (ct_X9_copies er6) (by decide) rfl rfl (Nat.le_of_ble_eq_true rfl) dX9_restore_34 ?_
      refine x_aload_n C (i := 0) dX9_restore_37 rfl rfl ?_
      refine x_iconst C (v := 0) dX9_restore_38 (by decide) ?_
      obtain ⟨σ7, eσ7, h⟩ := ob h
      refine x_put C pl_X9_132 dX9_restore_39 (fun _ => ⟨rfl, rfl⟩) eσ7 ?_
      refine x_iconst C (v := 1) dX9_restore_42 (by decide) ?_
      exact x_iret C E dX9_restore_43 (hE (1, σ7) (Option.some.inj h).symm)
    · have h := ifP h c5
      refine x_ldc C kc_X9_176 dX9_restore_22 ?_
      exact x_iret C E dX9_restore_24 (hE ((-1000002), σ) (Option.some.inj h).symm)
  · have h := ifP h c2
    refine x_ldc C kc_X9_66 dX9_restore_10 ?_
    exact x_iret C E dX9_restore_12 (hE ((-1000001), σ) (Option.some.inj h).symm)
theorem dX9_kind_0 : decode cX9_kind 0 = .ok (.aload_n 0, 1) := by decide +kernel
theorem dX9_kind_1 : decode cX9_kind 1 = .ok (.iload_n 1, 1) := by decide +kernel
theorem dX9_kind_2 : decode cX9_kind 2 = .ok (.invokevirtual 180, 3) := by decide +kernel
theorem dX9_kind_5 : decode cX9_kind 5 = .ok (.ifCond .eq 14, 3) := by decide +kernel
theorem dX9_kind_8 : decode cX9_kind 8 = .ok (.aload_n 0, 1) := by decide +kernel
theorem dX9_kind_9 : decode cX9_kind 9 = .ok (.getfield 23, 3) := by decide +kernel
theorem dX9_kind_12 : decode cX9_kind 12 = .ok (.iconst 4, 1) := by decide +kernel
theorem dX9_kind_13 : decode cX9_kind 13 = .ok (.iload_n 1, 1) := by decide +kernel
theorem dX9_kind_14 : decode cX9_kind 14 = .ok (.iadd, 1) := by decide +kernel
theorem dX9_kind_15 : decode cX9_kind 15 = .ok (.iaload, 1) := by decide +kernel
theorem dX9_kind_16 : decode cX9_kind 16 = .ok (.goto 5, 3) := by decide +kernel
theorem dX9_kind_19 : decode cX9_kind 19 = .ok (.ldc 66, 2) := by decide +kernel
theorem dX9_kind_21 : decode cX9_kind 21 = .ok (.ireturn, 1) := by decide +kernel
def m_X9_kind (N : Nat) (σ : Hp) (t0 : Nat) (p1 : Int32) : Option (Int32) :=
  (rv N σ t0 9).bind fun _ =>
  (m_X9_isDisc N σ t0 p1).bind fun r1 =>
  if r1 = 0 then
   some (-1000001)
  else
   (gR N σ t0 9 10).bind fun x3 =>
  (aI 0 N σ x3 ((4 : Int32) + p1)).bind fun x4 =>
  some x4
set_option maxHeartbeats 4000000 in
set_option maxRecDepth 100000 in
theorem ct_X9_kind {l : Launch} {D : va_G} {cy : Nat → Nat} {N : Nat} {σ : Hp} {t0 : Nat} {p1 : Int32} {r : Int32} (h : m_X9_kind N σ t0 p1 = some r) : Ct l D cy yX9_kind cX9_kind 2 (some .int) 2 [.ref t0, .int p1] N σ (fun v s' => v = (some (.int r)) ∧ s' = σ) := by
  refine Ct.intro [some (.ref t0), some (.int p1)] (by decide) rfl (Nat.le_of_ble_eq_true rfl) ?_
  intro κ ω e1 e2 e3 e4 C Z E
  subst e1; subst e2; subst e3; subst e4
  have C : Cx κ 2 2 cX9_kind RX9 "kind" := C
  have hE : ∀ x : Int32, r = x → ((some (Value.int x)) = (some (Value.int r)) ∧ σ = σ) := fun x hx => by subst hx; exact ⟨rfl, rfl⟩
  unfold m_X9_kind at h
  obtain ⟨_, _, h⟩ := ob h
  refine x_aload_n C (i := 0) dX9_kind_0 rfl rfl ?_
  refine x_iload_n C (i := 1) dX9_kind_1 rfl rfl ?_
  obtain ⟨r1, er1, h⟩ := ob h
  refine x_callVr C Z mv_X9_isDisc lk_X9_180 (rv_h er1) (ct_X9_isDisc er1) (by decide) rfl rfl (Nat.le_of_ble_eq_true rfl) dX9_kind_2 ?_
  refine x_if_eq C (tgt := 19) dX9_kind_5 (by decide) (fun c2 => ?_) (fun c2 => ?_)
  · have h := ifP h c2
    refine x_ldc C kc_X9_66 dX9_kind_19 ?_
    exact x_iret C E dX9_kind_21 (hE (-1000001) (Option.some.inj h).symm)
  · have h := ifN h c2
    refine x_aload_n C (i := 0) dX9_kind_8 rfl rfl ?_
    obtain ⟨x3, ex3, h⟩ := ob h
    refine x_getR C fl_X9_23 dX9_kind_9 ex3 ?_
    refine x_iconst C (v := 4) dX9_kind_12 (by decide) ?_
    refine x_iload_n C (i := 1) dX9_kind_13 rfl rfl ?_
    refine x_iadd C dX9_kind_14 ?_
    obtain ⟨x4, ex4, h⟩ := ob h
    refine x_iald C dX9_kind_15 ex4 ?_
    refine x_goto C (tgt := 21) dX9_kind_16 (by decide) ?_
    exact x_iret C E dX9_kind_21 (hE x4 (Option.some.inj h).symm)
theorem dX9_isOf_0 : decode cX9_isOf 0 = .ok (.iload_n 1, 1) := by decide +kernel
theorem dX9_isOf_1 : decode cX9_isOf 1 = .ok (.ifCond .eq 37, 3) := by decide +kernel
theorem dX9_isOf_4 : decode cX9_isOf 4 = .ok (.iload_n 1, 1) := by decide +kernel
theorem dX9_isOf_5 : decode cX9_isOf 5 = .ok (.iload_n 0, 1) := by decide +kernel
theorem dX9_isOf_6 : decode cX9_isOf 6 = .ok (.if_icmp .eq 32, 3) := by decide +kernel
theorem dX9_isOf_9 : decode cX9_isOf 9 = .ok (.iload_n 1, 1) := by decide +kernel
theorem dX9_isOf_10 : decode cX9_isOf 10 = .ok (.iconst 1, 1) := by decide +kernel
theorem dX9_isOf_11 : decode cX9_isOf 11 = .ok (.if_icmp .ne 17, 3) := by decide +kernel
theorem dX9_isOf_14 : decode cX9_isOf 14 = .ok (.iload_n 0, 1) := by decide +kernel
theorem dX9_isOf_15 : decode cX9_isOf 15 = .ok (.i2l, 1) := by decide +kernel
theorem dX9_isOf_16 : decode cX9_isOf 16 = .ok (.ldc2_w 64, 3) := by decide +kernel
theorem dX9_isOf_19 : decode cX9_isOf 19 = .ok (.ldc2_w 220, 3) := by decide +kernel
theorem dX9_isOf_22 : decode cX9_isOf 22 = .ok (.invokestatic 56, 3) := by decide +kernel
theorem dX9_isOf_25 : decode cX9_isOf 25 = .ok (.ifCond .ne 13, 3) := by decide +kernel
theorem dX9_isOf_28 : decode cX9_isOf 28 = .ok (.iload_n 1, 1) := by decide +kernel
theorem dX9_isOf_29 : decode cX9_isOf 29 = .ok (.iconst 4, 1) := by decide +kernel
theorem dX9_isOf_30 : decode cX9_isOf 30 = .ok (.if_icmp .ne 12, 3) := by decide +kernel
theorem dX9_isOf_33 : decode cX9_isOf 33 = .ok (.iload_n 0, 1) := by decide +kernel
theorem dX9_isOf_34 : decode cX9_isOf 34 = .ok (.iconst 5, 1) := by decide +kernel
theorem dX9_isOf_35 : decode cX9_isOf 35 = .ok (.if_icmp .ne 7, 3) := by decide +kernel
theorem dX9_isOf_38 : decode cX9_isOf 38 = .ok (.iconst 1, 1) := by decide +kernel
theorem dX9_isOf_39 : decode cX9_isOf 39 = .ok (.goto 4, 3) := by decide +kernel
theorem dX9_isOf_42 : decode cX9_isOf 42 = .ok (.iconst 0, 1) := by decide +kernel
theorem dX9_isOf_43 : decode cX9_isOf 43 = .ok (.ireturn, 1) := by decide +kernel
def m_X9_isOf (p0 : Int32) (p1 : Int32) : Option (Int32) :=
  if p1 = 0 then
   some 1
  else
   if p1 = p0 then
   some 1
  else
   if p1 = 1 then
   (m_X9_in p0.toInt64 2 3).bind fun r6 =>
  if r6 = 0 then
   if p1 = 4 then
   if p0 = 5 then
   some 1
  else
   some 0
  else
   some 0
  else
   some 1
  else
   if p1 = 4 then
   if p0 = 5 then
   some 1
  else
   some 0
  else
   some 0
set_option maxHeartbeats 4000000 in
set_option maxRecDepth 100000 in
theorem ct_X9_isOf {l : Launch} {D : va_G} {cy : Nat → Nat} {N : Nat} {σ : Hp} {p0 : Int32} {p1 : Int32} {r : Int32} (h : m_X9_isOf p0 p1 = some r) : Ct l D cy yX9_isOf cX9_isOf 2 (some .boolean) 1 [.int p0, .int p1] N σ (fun v s' => v = (some (.int r)) ∧ s' = σ) := by
  refine Ct.intro [some (.int p0), some (.int p1)] (by decide) rfl (Nat.le_of_ble_eq_true rfl) ?_
  intro κ ω e1 e2 e3 e4 C Z E
  subst e1; subst e2; subst e3; subst e4
  have C : Cx κ 2 1 cX9_isOf RX9 "isOf" := C
  have hE : ∀ x : Int32, r = x → ((some (Value.int x)) = (some (Value.int r)) ∧ σ = σ) := fun x hx => by subst hx; exact ⟨rfl, rfl⟩
  unfold m_X9_isOf at h
  refine x_iload_n C (i := 1) dX9_isOf_0 rfl rfl ?_
  refine x_if_eq C (tgt := 38) dX9_isOf_1 (by decide) (fun c1 => ?_) (fun c1 => ?_)
  · have h := ifP h c1
    refine x_iconst C (v := 1) dX9_isOf_38 (by decide) ?_
    refine x_goto C (tgt := 43) dX9_isOf_39 (by decide) ?_
    exact x_zret C E (by decide +kernel) dX9_isOf_43 (hE 1 (Option.some.inj h).symm)
  · have h := ifN h c1
    refine x_iload_n C (i := 1) dX9_isOf_4 rfl rfl ?_
    refine x_iload_n C (i := 0) dX9_isOf_5 rfl rfl ?_
    refine x_icmp_eq C (tgt := 38) dX9_isOf_6 (by decide) (fun c2 => ?_) (fun c2 => ?_)
    · have h := ifP h c2
      refine x_iconst C (v := 1) dX9_isOf_38 (by decide) ?_
      refine x_goto C (tgt := 43) dX9_isOf_39 (by decide) ?_
      exact x_zret C E (by decide +kernel) dX9_isOf_43 (hE 1 (Option.some.inj h).symm)
    · have h := ifN h c2
      refine x_iload_n C (i := 1) dX9_isOf_9 rfl rfl ?_
      refine x_iconst C (v := 1) dX9_isOf_10 (by decide) ?_
      refine x_icmp_ne C (tgt := 28) dX9_isOf_11 (by decide) (fun c3 => ?_) (fun c3 => ?_)
      · have h := ifN h c3
        refine x_iload_n C (i := 1) dX9_isOf_28 rfl rfl ?_
        refine x_iconst C (v := 4) dX9_isOf_29 (by decide) ?_
        refine x_icmp_ne C (tgt := 42) dX9_isOf_30 (by decide) (fun c4 => ?_) (fun c4 => ?_)
        · have h := ifN h c4
          refine x_iconst C (v := 0) dX9_isOf_42 (by decide) ?_
          exact x_zret C E (by decide +kernel) dX9_isOf_43 (hE 0 (Option.some.inj h).symm)
        · have h := ifP h c4
          refine x_iload_n C (i := 0) dX9_isOf_33 rfl rfl ?_
          refine x_iconst C (v := 5) dX9_isOf_34 (by decide) ?_
          refine x_icmp_ne C (tgt := 42) dX9_isOf_35 (by decide) (fun c5 => ?_) (fun c5 => ?_)
          · have h := ifN h c5
            refine x_iconst C (v := 0) dX9_isOf_42 (by decide) ?_
            exact x_zret C E (by decide +kernel) dX9_isOf_43 (hE 0 (Option.some.inj h).symm)
          · have h := ifP h c5
            refine x_iconst C (v := 1) dX9_isOf_38 (by decide) ?_
            refine x_goto C (tgt := 43) dX9_isOf_39 (by decide) ?_
            exact x_zret C E (by decide +kernel) dX9_isOf_43 (hE 1 (Option.some.inj h).symm)
      · have h := ifP h c3
        refine x_iload_n C (i := 0) dX9_isOf_14 rfl rfl ?_
        refine x_i2l C dX9_isOf_15 ?_
        refine x_ldc2 C kj_X9_64 dX9_isOf_16 ?_
        refine x_ldc2 C kj_X9_220 dX9_isOf_19 ?_
        obtain ⟨r6, er6, h⟩ := ob h
        refine x_callSr C Z ms_X9_in lk_X9_56 (ct_X9_in (N := ω.1) (σ := σ) er6) (by decide) rfl rfl (Nat.le_of_ble_eq_true rfl) dX9_isOf_22 ?_
        refine x_if_ne C (tgt := 38) dX9_isOf_25 (by decide) (fun c7 => ?_) (fun c7 => ?_)
        · have h := ifN h c7
          refine x_iconst C (v := 1) dX9_isOf_38 (by decide) ?_
          refine x_goto C (tgt := 43) dX9_isOf_39 (by decide) ?_
          exact x_zret C E (by decide +kernel) dX9_isOf_43 (hE 1 (Option.some.inj h).symm)
        · have h := ifP h c7
          refine x_iload_n C (i := 1) dX9_isOf_28 rfl rfl ?_
          refine x_iconst C (v := 4) dX9_isOf_29 (by decide) ?_
          refine x_icmp_ne C (tgt := 42) dX9_isOf_30 (by decide) (fun c8 => ?_) (fun c8 => ?_)
          · have h := ifN h c8
            refine x_iconst C (v := 0) dX9_isOf_42 (by decide) ?_
            exact x_zret C E (by decide +kernel) dX9_isOf_43 (hE 0 (Option.some.inj h).symm)
          · have h := ifP h c8
            refine x_iload_n C (i := 0) dX9_isOf_33 rfl rfl ?_
            refine x_iconst C (v := 5) dX9_isOf_34 (by decide) ?_
            refine x_icmp_ne C (tgt := 42) dX9_isOf_35 (by decide) (fun c9 => ?_) (fun c9 => ?_)
            · have h := ifN h c9
              refine x_iconst C (v := 0) dX9_isOf_42 (by decide) ?_
              exact x_zret C E (by decide +kernel) dX9_isOf_43 (hE 0 (Option.some.inj h).symm)
            · have h := ifP h c9
              refine x_iconst C (v := 1) dX9_isOf_38 (by decide) ?_
              refine x_goto C (tgt := 43) dX9_isOf_39 (by decide) ?_
              exact x_zret C E (by decide +kernel) dX9_isOf_43 (hE 1 (Option.some.inj h).symm)
theorem dX9_as_0 : decode cX9_as 0 = .ok (.aload_n 0, 1) := by decide +kernel
theorem dX9_as_1 : decode cX9_as 1 = .ok (.iload_n 1, 1) := by decide +kernel
theorem dX9_as_2 : decode cX9_as 2 = .ok (.invokevirtual 180, 3) := by decide +kernel
theorem dX9_as_5 : decode cX9_as 5 = .ok (.ifCond .eq 15, 3) := by decide +kernel
theorem dX9_as_8 : decode cX9_as 8 = .ok (.iload_n 2, 1) := by decide +kernel
theorem dX9_as_9 : decode cX9_as 9 = .ok (.i2l, 1) := by decide +kernel
theorem dX9_as_10 : decode cX9_as 10 = .ok (.lconst 0, 1) := by decide +kernel
theorem dX9_as_11 : decode cX9_as 11 = .ok (.ldc2_w 249, 3) := by decide +kernel
theorem dX9_as_14 : decode cX9_as 14 = .ok (.invokestatic 56, 3) := by decide +kernel
theorem dX9_as_17 : decode cX9_as 17 = .ok (.ifCond .ne 6, 3) := by decide +kernel
theorem dX9_as_20 : decode cX9_as 20 = .ok (.ldc 66, 2) := by decide +kernel
theorem dX9_as_22 : decode cX9_as 22 = .ok (.ireturn, 1) := by decide +kernel
theorem dX9_as_23 : decode cX9_as 23 = .ok (.aload_n 0, 1) := by decide +kernel
theorem dX9_as_24 : decode cX9_as 24 = .ok (.getfield 23, 3) := by decide +kernel
theorem dX9_as_27 : decode cX9_as 27 = .ok (.iconst 4, 1) := by decide +kernel
theorem dX9_as_28 : decode cX9_as 28 = .ok (.iload_n 1, 1) := by decide +kernel
theorem dX9_as_29 : decode cX9_as 29 = .ok (.iadd, 1) := by decide +kernel
theorem dX9_as_30 : decode cX9_as 30 = .ok (.iaload, 1) := by decide +kernel
theorem dX9_as_31 : decode cX9_as 31 = .ok (.iload_n 2, 1) := by decide +kernel
theorem dX9_as_32 : decode cX9_as 32 = .ok (.invokestatic 257, 3) := by decide +kernel
theorem dX9_as_35 : decode cX9_as 35 = .ok (.ifCond .eq 11, 3) := by decide +kernel
theorem dX9_as_38 : decode cX9_as 38 = .ok (.aload_n 0, 1) := by decide +kernel
theorem dX9_as_39 : decode cX9_as 39 = .ok (.iload_n 1, 1) := by decide +kernel
theorem dX9_as_40 : decode cX9_as 40 = .ok (.invokevirtual 71, 3) := by decide +kernel
theorem dX9_as_43 : decode cX9_as 43 = .ok (.goto 8, 3) := by decide +kernel
theorem dX9_as_46 : decode cX9_as 46 = .ok (.aload_n 0, 1) := by decide +kernel
theorem dX9_as_47 : decode cX9_as 47 = .ok (.iconst 3, 1) := by decide +kernel
theorem dX9_as_48 : decode cX9_as 48 = .ok (.invokevirtual 67, 3) := by decide +kernel
theorem dX9_as_51 : decode cX9_as 51 = .ok (.ireturn, 1) := by decide +kernel
def m_X9_as (N : Nat) (σ : Hp) (t0 : Nat) (p1 : Int32) (p2 : Int32) : Option (Int32 × Hp) :=
  (rv N σ t0 9).bind fun _ =>
  (m_X9_isDisc N σ t0 p1).bind fun r1 =>
  if r1 = 0 then
   some ((-1000001), σ)
  else
   (m_X9_in p2.toInt64 0 5).bind fun r3 =>
  if r3 = 0 then
   some ((-1000001), σ)
  else
   (gR N σ t0 9 10).bind fun x5 =>
  (aI 0 N σ x5 ((4 : Int32) + p1)).bind fun x6 =>
  (m_X9_isOf x6 p2).bind fun r7 =>
  if r7 = 0 then
   (m_X9_finds N σ t0 3).bind fun r9 =>
  some (r9.1, r9.2)
  else
   (m_X9_good N σ t0 p1).bind fun r10 =>
  some (r10.1, r10.2)
set_option maxHeartbeats 4000000 in
set_option maxRecDepth 100000 in
theorem ct_X9_as {l : Launch} {D : va_G} {cy : Nat → Nat} {N : Nat} {σ : Hp} {t0 : Nat} {p1 : Int32} {p2 : Int32} {r : Int32 × Hp} (h : m_X9_as N σ t0 p1 p2 = some r) : Ct l D cy yX9_as cX9_as 3 (some .int) 2 [.ref t0, .int p1, .int p2] N σ (fun v s' => v = (some (.int r.1)) ∧ s' = r.2) := by
  refine Ct.intro [some (.ref t0), some (.int p1), some (.int p2)] (by decide) rfl (Nat.le_of_ble_eq_true rfl) ?_
  intro κ ω e1 e2 e3 e4 C Z E
  subst e1; subst e2; subst e3; subst e4
  have C : Cx κ 3 2 cX9_as RX9 "as" := C
  have hE : ∀ x : Int32 × Hp, r = x → ((some (Value.int x.1)) = (some (Value.int r.1)) ∧ x.2 = r.2) := fun x hx => by subst hx; exact ⟨rfl, rfl⟩
  unfold m_X9_as at h
  obtain ⟨_, _, h⟩ := ob h
  refine x_aload_n C (i := 0) dX9_as_0 rfl rfl ?_
  refine x_iload_n C (i := 1) dX9_as_1 rfl rfl ?_
  obtain ⟨r1, er1, h⟩ := ob h
  refine x_callVr C Z mv_X9_isDisc lk_X9_180 (rv_h er1) (ct_X9_isDisc er1) (by decide) rfl rfl (Nat.le_of_ble_eq_true rfl) dX9_as_2 ?_
  refine x_if_eq C (tgt := 20) dX9_as_5 (by decide) (fun c2 => ?_) (fun c2 => ?_)
  · have h := ifP h c2
    refine x_ldc C kc_X9_66 dX9_as_20 ?_
    exact x_iret C E dX9_as_22 (hE ((-1000001), σ) (Option.some.inj h).symm)
  · have h := ifN h c2
    refine x_iload_n C (i := 2) dX9_as_8 rfl rfl ?_
    refine x_i2l C dX9_as_9 ?_
    refine x_lconst C (v := 0) dX9_as_10 (by decide) ?_
    refine x_ldc2 C kj_X9_249 dX9_as_11 ?_
    obtain ⟨r3, er3, h⟩ := ob h
    refine x_callSr C Z ms_X9_in lk_X9_56 (ct_X9_in (N := ω.1) (σ := σ) er3) (by decide) rfl rfl (Nat.le_of_ble_eq_true rfl) dX9_as_14 ?_
    refine x_if_ne C (tgt := 23) dX9_as_17 (by decide) (fun c4 => ?_) (fun c4 => ?_)
    · have h := ifN h c4
      refine x_aload_n C (i := 0) dX9_as_23 rfl rfl ?_
      obtain ⟨x5, ex5, h⟩ := ob h
      refine x_getR C fl_X9_23 dX9_as_24 ex5 ?_
      refine x_iconst C (v := 4) dX9_as_27 (by decide) ?_
      refine x_iload_n C (i := 1) dX9_as_28 rfl rfl ?_
      refine x_iadd C dX9_as_29 ?_
      obtain ⟨x6, ex6, h⟩ := ob h
      refine x_iald C dX9_as_30 ex6 ?_
      refine x_iload_n C (i := 2) dX9_as_31 rfl rfl ?_
      obtain ⟨r7, er7, h⟩ := ob h
      refine x_callSr C Z ms_X9_isOf lk_X9_257 (ct_X9_isOf (N := ω.1) (σ := σ) er7) (by decide) rfl rfl (Nat.le_of_ble_eq_true rfl) dX9_as_32 ?_
      refine x_if_eq C (tgt := 46) dX9_as_35 (by decide) (fun c8 => ?_) (fun c8 => ?_)
      · have h := ifP h c8
        refine x_aload_n C (i := 0) dX9_as_46 rfl rfl ?_
        refine x_iconst C (v := 3) dX9_as_47 (by decide) ?_
        obtain ⟨r9, er9, h⟩ := ob h
        refine x_callVr C Z mv_X9_finds lk_X9_67 (rv_h er9) (ct_X9_finds er9) (by decide) rfl rfl (Nat.le_of_ble_eq_true rfl) dX9_as_48 ?_
        exact x_iret C E dX9_as_51 (hE (r9.1, r9.2) (Option.some.inj h).symm)
      · have h := ifN h c8
        refine x_aload_n C (i := 0) dX9_as_38 rfl rfl ?_
        refine x_iload_n C (i := 1) dX9_as_39 rfl rfl ?_
        obtain ⟨r10, er10, h⟩ := ob h
        refine x_callVr C Z mv_X9_good lk_X9_71 (rv_h er10) (ct_X9_good er10) (by decide) rfl rfl (Nat.le_of_ble_eq_true rfl) dX9_as_40 ?_
        refine x_goto C (tgt := 51) dX9_as_43 (by decide) ?_
        exact x_iret C E dX9_as_51 (hE (r10.1, r10.2) (Option.some.inj h).symm)
    · have h := ifP h c4
      refine x_ldc C kc_X9_66 dX9_as_20 ?_
      exact x_iret C E dX9_as_22 (hE ((-1000001), σ) (Option.some.inj h).symm)
theorem dX9_leaves_0 : decode cX9_leaves 0 = .ok (.aload_n 0, 1) := by decide +kernel
theorem dX9_leaves_1 : decode cX9_leaves 1 = .ok (.getfield 260, 3) := by decide +kernel
theorem dX9_leaves_4 : decode cX9_leaves 4 = .ok (.bipush 16, 2) := by decide +kernel
theorem dX9_leaves_6 : decode cX9_leaves 6 = .ok (.if_icmp .ge 23, 3) := by decide +kernel
theorem dX9_leaves_9 : decode cX9_leaves 9 = .ok (.aload_n 0, 1) := by decide +kernel
theorem dX9_leaves_10 : decode cX9_leaves 10 = .ok (.getfield 46, 3) := by decide +kernel
theorem dX9_leaves_13 : decode cX9_leaves 13 = .ok (.aload_n 0, 1) := by decide +kernel
theorem dX9_leaves_14 : decode cX9_leaves 14 = .ok (.getfield 260, 3) := by decide +kernel
theorem dX9_leaves_17 : decode cX9_leaves 17 = .ok (.iload_n 1, 1) := by decide +kernel
theorem dX9_leaves_18 : decode cX9_leaves 18 = .ok (.iastore, 1) := by decide +kernel
theorem dX9_leaves_19 : decode cX9_leaves 19 = .ok (.aload_n 0, 1) := by decide +kernel
theorem dX9_leaves_20 : decode cX9_leaves 20 = .ok (.dup, 1) := by decide +kernel
theorem dX9_leaves_21 : decode cX9_leaves 21 = .ok (.getfield 260, 3) := by decide +kernel
theorem dX9_leaves_24 : decode cX9_leaves 24 = .ok (.iconst 1, 1) := by decide +kernel
theorem dX9_leaves_25 : decode cX9_leaves 25 = .ok (.iadd, 1) := by decide +kernel
theorem dX9_leaves_26 : decode cX9_leaves 26 = .ok (.putfield 260, 3) := by decide +kernel
theorem dX9_leaves_29 : decode cX9_leaves 29 = .ok (.return_, 1) := by decide +kernel
def m_X9_leaves (N : Nat) (σ : Hp) (t0 : Nat) (p1 : Int32) : Option (Hp) :=
  (rv N σ t0 9).bind fun _ =>
  (gI N σ t0 9 23).bind fun x1 =>
  if 16 ≤ x1 then
   some σ
  else
   (gR N σ t0 9 22).bind fun x3 =>
  (gI N σ t0 9 23).bind fun x4 =>
  (sI 0 N σ x3 x4 p1).bind fun σ5 =>
  (gI N σ5 t0 9 23).bind fun x6 =>
  (pV N σ5 t0 9 23 (.int (x6 + 1))).bind fun σ7 =>
  some σ7
set_option maxHeartbeats 4000000 in
set_option maxRecDepth 100000 in
theorem ct_X9_leaves {l : Launch} {D : va_G} {cy : Nat → Nat} {N : Nat} {σ : Hp} {t0 : Nat} {p1 : Int32} {r : Hp} (h : m_X9_leaves N σ t0 p1 = some r) : Ct l D cy yX9_leaves cX9_leaves 2 none 0 [.ref t0, .int p1] N σ (fun v s' => v = none ∧ s' = r) := by
  refine Ct.intro [some (.ref t0), some (.int p1)] (by decide) rfl (Nat.le_of_ble_eq_true rfl) ?_
  intro κ ω e1 e2 e3 e4 C Z E
  subst e1; subst e2; subst e3; subst e4
  have C : Cx κ 2 0 cX9_leaves RX9 "leaves" := C
  have hE : ∀ x : Hp, r = x → ((none : Option Value) = none ∧ x = r) := fun x hx => by subst hx; exact ⟨rfl, rfl⟩
  unfold m_X9_leaves at h
  obtain ⟨_, _, h⟩ := ob h
  refine x_aload_n C (i := 0) dX9_leaves_0 rfl rfl ?_
  obtain ⟨x1, ex1, h⟩ := ob h
  refine x_getI C fl_X9_260 dX9_leaves_1 ex1 ?_
  refine x_bipush C (v := 16) dX9_leaves_4 (by decide) ?_
  refine x_icmp_ge C (tgt := 29) dX9_leaves_6 (by decide) (fun c2 => ?_) (fun c2 => ?_)
  · have h := ifP h c2
    exact x_vret C E dX9_leaves_29 (hE σ (Option.some.inj h).symm)
  · have h := ifN h c2
    refine x_aload_n C (i := 0) dX9_leaves_9 rfl rfl ?_
    obtain ⟨x3, ex3, h⟩ := ob h
    refine x_getR C fl_X9_46 dX9_leaves_10 ex3 ?_
    refine x_aload_n C (i := 0) dX9_leaves_13 rfl rfl ?_
    obtain ⟨x4, ex4, h⟩ := ob h
    refine x_getI C fl_X9_260 dX9_leaves_14 ex4 ?_
    refine x_iload_n C (i := 1) dX9_leaves_17 rfl rfl ?_
    obtain ⟨σ5, eσ5, h⟩ := ob h
    refine x_iast C dX9_leaves_18 eσ5 ?_
    refine x_aload_n C (i := 0) dX9_leaves_19 rfl rfl ?_
    refine x_dup C dX9_leaves_20 rfl ?_
    obtain ⟨x6, ex6, h⟩ := ob h
    refine x_getI C fl_X9_260 dX9_leaves_21 ex6 ?_
    refine x_iconst C (v := 1) dX9_leaves_24 (by decide) ?_
    refine x_iadd C dX9_leaves_25 ?_
    obtain ⟨σ7, eσ7, h⟩ := ob h
    refine x_put C pl_X9_260 dX9_leaves_26 (fun _ => ⟨rfl, rfl⟩) eσ7 ?_
    exact x_vret C E dX9_leaves_29 (hE σ7 (Option.some.inj h).symm)
theorem dX9_body20_0 : decode cX9_body20 0 = .ok (.aload_n 0, 1) := by decide +kernel
theorem dX9_body20_1 : decode cX9_body20 1 = .ok (.bipush 20, 2) := by decide +kernel
theorem dX9_body20_3 : decode cX9_body20 3 = .ok (.invokevirtual 263, 3) := by decide +kernel
theorem dX9_body20_6 : decode cX9_body20 6 = .ok (.aload_n 0, 1) := by decide +kernel
theorem dX9_body20_7 : decode cX9_body20 7 = .ok (.getfield 23, 3) := by decide +kernel
theorem dX9_body20_10 : decode cX9_body20 10 = .ok (.bipush 10, 2) := by decide +kernel
theorem dX9_body20_12 : decode cX9_body20 12 = .ok (.iload_n 1, 1) := by decide +kernel
theorem dX9_body20_13 : decode cX9_body20 13 = .ok (.iadd, 1) := by decide +kernel
theorem dX9_body20_14 : decode cX9_body20 14 = .ok (.iaload, 1) := by decide +kernel
theorem dX9_body20_15 : decode cX9_body20 15 = .ok (.ireturn, 1) := by decide +kernel
def m_X9_body20 (N : Nat) (σ : Hp) (t0 : Nat) (p1 : Int32) : Option (Int32 × Hp) :=
  (rv N σ t0 9).bind fun _ =>
  (m_X9_leaves N σ t0 20).bind fun r1 =>
  (gR N r1 t0 9 10).bind fun x2 =>
  (aI 0 N r1 x2 ((10 : Int32) + p1)).bind fun x3 =>
  some (x3, r1)
set_option maxHeartbeats 4000000 in
set_option maxRecDepth 100000 in
theorem ct_X9_body20 {l : Launch} {D : va_G} {cy : Nat → Nat} {N : Nat} {σ : Hp} {t0 : Nat} {p1 : Int32} {r : Int32 × Hp} (h : m_X9_body20 N σ t0 p1 = some r) : Ct l D cy yX9_body20 cX9_body20 2 (some .int) 1 [.ref t0, .int p1] N σ (fun v s' => v = (some (.int r.1)) ∧ s' = r.2) := by
  refine Ct.intro [some (.ref t0), some (.int p1)] (by decide) rfl (Nat.le_of_ble_eq_true rfl) ?_
  intro κ ω e1 e2 e3 e4 C Z E
  subst e1; subst e2; subst e3; subst e4
  have C : Cx κ 2 1 cX9_body20 RX9 "body20" := C
  have hE : ∀ x : Int32 × Hp, r = x → ((some (Value.int x.1)) = (some (Value.int r.1)) ∧ x.2 = r.2) := fun x hx => by subst hx; exact ⟨rfl, rfl⟩
  unfold m_X9_body20 at h
  obtain ⟨_, _, h⟩ := ob h
  refine x_aload_n C (i := 0) dX9_body20_0 rfl rfl ?_
  refine x_bipush C (v := 20) dX9_body20_1 (by decide) ?_
  obtain ⟨r1, er1, h⟩ := ob h
  refine x_callVn C Z mv_X9_leaves lk_X9_263 (rv_h er1) (ct_X9_leaves er1) (by decide) rfl rfl (Nat.le_of_ble_eq_true rfl) dX9_body20_3 ?_
  refine x_aload_n C (i := 0) dX9_body20_6 rfl rfl ?_
  obtain ⟨x2, ex2, h⟩ := ob h
  refine x_getR C fl_X9_23 dX9_body20_7 ex2 ?_
  refine x_bipush C (v := 10) dX9_body20_10 (by decide) ?_
  refine x_iload_n C (i := 1) dX9_body20_12 rfl rfl ?_
  refine x_iadd C dX9_body20_13 ?_
  obtain ⟨x3, ex3, h⟩ := ob h
  refine x_iald C dX9_body20_14 ex3 ?_
  exact x_iret C E dX9_body20_15 (hE (x3, r1) (Option.some.inj h).symm)
theorem dX9_body21_0 : decode cX9_body21 0 = .ok (.aload_n 0, 1) := by decide +kernel
theorem dX9_body21_1 : decode cX9_body21 1 = .ok (.bipush 21, 2) := by decide +kernel
theorem dX9_body21_3 : decode cX9_body21 3 = .ok (.invokevirtual 263, 3) := by decide +kernel
theorem dX9_body21_6 : decode cX9_body21 6 = .ok (.aload_n 0, 1) := by decide +kernel
theorem dX9_body21_7 : decode cX9_body21 7 = .ok (.iload_n 1, 1) := by decide +kernel
theorem dX9_body21_8 : decode cX9_body21 8 = .ok (.invokevirtual 266, 3) := by decide +kernel
theorem dX9_body21_11 : decode cX9_body21 11 = .ok (.aload_n 0, 1) := by decide +kernel
theorem dX9_body21_12 : decode cX9_body21 12 = .ok (.aload_n 0, 1) := by decide +kernel
theorem dX9_body21_13 : decode cX9_body21 13 = .ok (.getfield 23, 3) := by decide +kernel
theorem dX9_body21_16 : decode cX9_body21 16 = .ok (.bipush 10, 2) := by decide +kernel
theorem dX9_body21_18 : decode cX9_body21 18 = .ok (.iload_n 1, 1) := by decide +kernel
theorem dX9_body21_19 : decode cX9_body21 19 = .ok (.iadd, 1) := by decide +kernel
theorem dX9_body21_20 : decode cX9_body21 20 = .ok (.iaload, 1) := by decide +kernel
theorem dX9_body21_21 : decode cX9_body21 21 = .ok (.invokevirtual 269, 3) := by decide +kernel
theorem dX9_body21_24 : decode cX9_body21 24 = .ok (.iadd, 1) := by decide +kernel
theorem dX9_body21_25 : decode cX9_body21 25 = .ok (.ireturn, 1) := by decide +kernel
def m_X9_body21 (N : Nat) (σ : Hp) (t0 : Nat) (p1 : Int32) : Option (Int32 × Hp) :=
  (rv N σ t0 9).bind fun _ =>
  (m_X9_leaves N σ t0 21).bind fun r1 =>
  (m_X9_body20 N r1 t0 p1).bind fun r2 =>
  (gR N r2.2 t0 9 10).bind fun x3 =>
  (aI 0 N r2.2 x3 ((10 : Int32) + p1)).bind fun x4 =>
  (m_X9_many N r2.2 t0 x4).bind fun r5 =>
  some (r2.1 + r5, r2.2)
set_option maxHeartbeats 4000000 in
set_option maxRecDepth 100000 in
theorem ct_X9_body21 {l : Launch} {D : va_G} {cy : Nat → Nat} {N : Nat} {σ : Hp} {t0 : Nat} {p1 : Int32} {r : Int32 × Hp} (h : m_X9_body21 N σ t0 p1 = some r) : Ct l D cy yX9_body21 cX9_body21 2 (some .int) 3 [.ref t0, .int p1] N σ (fun v s' => v = (some (.int r.1)) ∧ s' = r.2) := by
  refine Ct.intro [some (.ref t0), some (.int p1)] (by decide) rfl (Nat.le_of_ble_eq_true rfl) ?_
  intro κ ω e1 e2 e3 e4 C Z E
  subst e1; subst e2; subst e3; subst e4
  have C : Cx κ 2 3 cX9_body21 RX9 "body21" := C
  have hE : ∀ x : Int32 × Hp, r = x → ((some (Value.int x.1)) = (some (Value.int r.1)) ∧ x.2 = r.2) := fun x hx => by subst hx; exact ⟨rfl, rfl⟩
  unfold m_X9_body21 at h
  obtain ⟨_, _, h⟩ := ob h
  refine x_aload_n C (i := 0) dX9_body21_0 rfl rfl ?_
  refine x_bipush C (v := 21) dX9_body21_1 (by decide) ?_
  obtain ⟨r1, er1, h⟩ := ob h
  refine x_callVn C Z mv_X9_leaves lk_X9_263 (rv_h er1) (ct_X9_leaves er1) (by decide) rfl rfl (Nat.le_of_ble_eq_true rfl) dX9_body21_3 ?_
  refine x_aload_n C (i := 0) dX9_body21_6 rfl rfl ?_
  refine x_iload_n C (i := 1) dX9_body21_7 rfl rfl ?_
  obtain ⟨r2, er2, h⟩ := ob h
  refine x_callVr C Z mv_X9_body20 lk_X9_266 (rv_h er2) (ct_X9_body20 er2) (by decide) rfl rfl (Nat.le_of_ble_eq_true rfl) dX9_body21_8 ?_
  refine x_aload_n C (i := 0) dX9_body21_11 rfl rfl ?_
  refine x_aload_n C (i := 0) dX9_body21_12 rfl rfl ?_
  obtain ⟨x3, ex3, h⟩ := ob h
  refine x_getR C fl_X9_23 dX9_body21_13 ex3 ?_
  refine x_bipush C (v := 10) dX9_body21_16 (by decide) ?_
  refine x_iload_n C (i := 1) dX9_body21_18 rfl rfl ?_
  refine x_iadd C dX9_body21_19 ?_
  obtain ⟨x4, ex4, h⟩ := ob h
  refine x_iald C dX9_body21_20 ex4 ?_
  obtain ⟨r5, er5, h⟩ := ob h
  refine x_callVr C Z mv_X9_many lk_X9_269 (rv_h er5) (ct_X9_many er5) (by decide) rfl rfl (Nat.le_of_ble_eq_true rfl) dX9_body21_21 ?_
  refine x_iadd C dX9_body21_24 ?_
  exact x_iret C E dX9_body21_25 (hE (r2.1 + r5, r2.2) (Option.some.inj h).symm)
theorem dX9_body22_0 : decode cX9_body22 0 = .ok (.aload_n 0, 1) := by decide +kernel
theorem dX9_body22_1 : decode cX9_body22 1 = .ok (.bipush 22, 2) := by decide +kernel
theorem dX9_body22_3 : decode cX9_body22 3 = .ok (.invokevirtual 263, 3) := by decide +kernel
theorem dX9_body22_6 : decode cX9_body22 6 = .ok (.aload_n 0, 1) := by decide +kernel
theorem dX9_body22_7 : decode cX9_body22 7 = .ok (.iload_n 1, 1) := by decide +kernel
theorem dX9_body22_8 : decode cX9_body22 8 = .ok (.invokevirtual 272, 3) := by decide +kernel
theorem dX9_body22_11 : decode cX9_body22 11 = .ok (.sipush 1000, 3) := by decide +kernel
theorem dX9_body22_14 : decode cX9_body22 14 = .ok (.isub, 1) := by decide +kernel
theorem dX9_body22_15 : decode cX9_body22 15 = .ok (.ireturn, 1) := by decide +kernel
def m_X9_body22 (N : Nat) (σ : Hp) (t0 : Nat) (p1 : Int32) : Option (Int32 × Hp) :=
  (rv N σ t0 9).bind fun _ =>
  (m_X9_leaves N σ t0 22).bind fun r1 =>
  (m_X9_body21 N r1 t0 p1).bind fun r2 =>
  some (r2.1 - 1000, r2.2)
set_option maxHeartbeats 4000000 in
set_option maxRecDepth 100000 in
theorem ct_X9_body22 {l : Launch} {D : va_G} {cy : Nat → Nat} {N : Nat} {σ : Hp} {t0 : Nat} {p1 : Int32} {r : Int32 × Hp} (h : m_X9_body22 N σ t0 p1 = some r) : Ct l D cy yX9_body22 cX9_body22 2 (some .int) 4 [.ref t0, .int p1] N σ (fun v s' => v = (some (.int r.1)) ∧ s' = r.2) := by
  refine Ct.intro [some (.ref t0), some (.int p1)] (by decide) rfl (Nat.le_of_ble_eq_true rfl) ?_
  intro κ ω e1 e2 e3 e4 C Z E
  subst e1; subst e2; subst e3; subst e4
  have C : Cx κ 2 4 cX9_body22 RX9 "body22" := C
  have hE : ∀ x : Int32 × Hp, r = x → ((some (Value.int x.1)) = (some (Value.int r.1)) ∧ x.2 = r.2) := fun x hx => by subst hx; exact ⟨rfl, rfl⟩
  unfold m_X9_body22 at h
  obtain ⟨_, _, h⟩ := ob h
  refine x_aload_n C (i := 0) dX9_body22_0 rfl rfl ?_
  refine x_bipush C (v := 22) dX9_body22_1 (by decide) ?_
  obtain ⟨r1, er1, h⟩ := ob h
  refine x_callVn C Z mv_X9_leaves lk_X9_263 (rv_h er1) (ct_X9_leaves er1) (by decide) rfl rfl (Nat.le_of_ble_eq_true rfl) dX9_body22_3 ?_
  refine x_aload_n C (i := 0) dX9_body22_6 rfl rfl ?_
  refine x_iload_n C (i := 1) dX9_body22_7 rfl rfl ?_
  obtain ⟨r2, er2, h⟩ := ob h
  refine x_callVr C Z mv_X9_body21 lk_X9_272 (rv_h er2) (ct_X9_body21 er2) (by decide) rfl rfl (Nat.le_of_ble_eq_true rfl) dX9_body22_8 ?_
  refine x_sipush C (v := 1000) dX9_body22_11 (by decide) ?_
  refine x_isub C dX9_body22_14 ?_
  exact x_iret C E dX9_body22_15 (hE (r2.1 - 1000, r2.2) (Option.some.inj h).symm)
theorem dX9_body10_0 : decode cX9_body10 0 = .ok (.aload_n 0, 1) := by decide +kernel
theorem dX9_body10_1 : decode cX9_body10 1 = .ok (.bipush 10, 2) := by decide +kernel
theorem dX9_body10_3 : decode cX9_body10 3 = .ok (.invokevirtual 263, 3) := by decide +kernel
theorem dX9_body10_6 : decode cX9_body10 6 = .ok (.iload_n 1, 1) := by decide +kernel
theorem dX9_body10_7 : decode cX9_body10 7 = .ok (.ireturn, 1) := by decide +kernel
def m_X9_body10 (N : Nat) (σ : Hp) (t0 : Nat) (p1 : Int32) : Option (Int32 × Hp) :=
  (rv N σ t0 9).bind fun _ =>
  (m_X9_leaves N σ t0 10).bind fun r1 =>
  some (p1, r1)
set_option maxHeartbeats 4000000 in
set_option maxRecDepth 100000 in
theorem ct_X9_body10 {l : Launch} {D : va_G} {cy : Nat → Nat} {N : Nat} {σ : Hp} {t0 : Nat} {p1 : Int32} {r : Int32 × Hp} (h : m_X9_body10 N σ t0 p1 = some r) : Ct l D cy yX9_body10 cX9_body10 2 (some .int) 1 [.ref t0, .int p1] N σ (fun v s' => v = (some (.int r.1)) ∧ s' = r.2) := by
  refine Ct.intro [some (.ref t0), some (.int p1)] (by decide) rfl (Nat.le_of_ble_eq_true rfl) ?_
  intro κ ω e1 e2 e3 e4 C Z E
  subst e1; subst e2; subst e3; subst e4
  have C : Cx κ 2 1 cX9_body10 RX9 "body10" := C
  have hE : ∀ x : Int32 × Hp, r = x → ((some (Value.int x.1)) = (some (Value.int r.1)) ∧ x.2 = r.2) := fun x hx => by subst hx; exact ⟨rfl, rfl⟩
  unfold m_X9_body10 at h
  obtain ⟨_, _, h⟩ := ob h
  refine x_aload_n C (i := 0) dX9_body10_0 rfl rfl ?_
  refine x_bipush C (v := 10) dX9_body10_1 (by decide) ?_
  obtain ⟨r1, er1, h⟩ := ob h
  refine x_callVn C Z mv_X9_leaves lk_X9_263 (rv_h er1) (ct_X9_leaves er1) (by decide) rfl rfl (Nat.le_of_ble_eq_true rfl) dX9_body10_3 ?_
  refine x_iload_n C (i := 1) dX9_body10_6 rfl rfl ?_
  exact x_iret C E dX9_body10_7 (hE (p1, r1) (Option.some.inj h).symm)
theorem dX9_body13_0 : decode cX9_body13 0 = .ok (.aload_n 0, 1) := by decide +kernel
theorem dX9_body13_1 : decode cX9_body13 1 = .ok (.bipush 13, 2) := by decide +kernel
theorem dX9_body13_3 : decode cX9_body13 3 = .ok (.invokevirtual 263, 3) := by decide +kernel
theorem dX9_body13_6 : decode cX9_body13 6 = .ok (.aload_n 0, 1) := by decide +kernel
theorem dX9_body13_7 : decode cX9_body13 7 = .ok (.iload_n 1, 1) := by decide +kernel
theorem dX9_body13_8 : decode cX9_body13 8 = .ok (.invokevirtual 278, 3) := by decide +kernel
theorem dX9_body13_11 : decode cX9_body13 11 = .ok (.bipush 100, 2) := by decide +kernel
theorem dX9_body13_13 : decode cX9_body13 13 = .ok (.isub, 1) := by decide +kernel
theorem dX9_body13_14 : decode cX9_body13 14 = .ok (.ireturn, 1) := by decide +kernel
def m_X9_body13 (N : Nat) (σ : Hp) (t0 : Nat) (p1 : Int32) : Option (Int32 × Hp) :=
  (rv N σ t0 9).bind fun _ =>
  (m_X9_leaves N σ t0 13).bind fun r1 =>
  (m_X9_body10 N r1 t0 p1).bind fun r2 =>
  some (r2.1 - 100, r2.2)
set_option maxHeartbeats 4000000 in
set_option maxRecDepth 100000 in
theorem ct_X9_body13 {l : Launch} {D : va_G} {cy : Nat → Nat} {N : Nat} {σ : Hp} {t0 : Nat} {p1 : Int32} {r : Int32 × Hp} (h : m_X9_body13 N σ t0 p1 = some r) : Ct l D cy yX9_body13 cX9_body13 2 (some .int) 2 [.ref t0, .int p1] N σ (fun v s' => v = (some (.int r.1)) ∧ s' = r.2) := by
  refine Ct.intro [some (.ref t0), some (.int p1)] (by decide) rfl (Nat.le_of_ble_eq_true rfl) ?_
  intro κ ω e1 e2 e3 e4 C Z E
  subst e1; subst e2; subst e3; subst e4
  have C : Cx κ 2 2 cX9_body13 RX9 "body13" := C
  have hE : ∀ x : Int32 × Hp, r = x → ((some (Value.int x.1)) = (some (Value.int r.1)) ∧ x.2 = r.2) := fun x hx => by subst hx; exact ⟨rfl, rfl⟩
  unfold m_X9_body13 at h
  obtain ⟨_, _, h⟩ := ob h
  refine x_aload_n C (i := 0) dX9_body13_0 rfl rfl ?_
  refine x_bipush C (v := 13) dX9_body13_1 (by decide) ?_
  obtain ⟨r1, er1, h⟩ := ob h
  refine x_callVn C Z mv_X9_leaves lk_X9_263 (rv_h er1) (ct_X9_leaves er1) (by decide) rfl rfl (Nat.le_of_ble_eq_true rfl) dX9_body13_3 ?_
  refine x_aload_n C (i := 0) dX9_body13_6 rfl rfl ?_
  refine x_iload_n C (i := 1) dX9_body13_7 rfl rfl ?_
  obtain ⟨r2, er2, h⟩ := ob h
  refine x_callVr C Z mv_X9_body10 lk_X9_278 (rv_h er2) (ct_X9_body10 er2) (by decide) rfl rfl (Nat.le_of_ble_eq_true rfl) dX9_body13_8 ?_
  refine x_bipush C (v := 100) dX9_body13_11 (by decide) ?_
  refine x_isub C dX9_body13_13 ?_
  exact x_iret C E dX9_body13_14 (hE (r2.1 - 100, r2.2) (Option.some.inj h).symm)
theorem dX9_body14_0 : decode cX9_body14 0 = .ok (.aload_n 0, 1) := by decide +kernel
theorem dX9_body14_1 : decode cX9_body14 1 = .ok (.bipush 14, 2) := by decide +kernel
theorem dX9_body14_3 : decode cX9_body14 3 = .ok (.invokevirtual 263, 3) := by decide +kernel
theorem dX9_body14_6 : decode cX9_body14 6 = .ok (.iconst 2, 1) := by decide +kernel
theorem dX9_body14_7 : decode cX9_body14 7 = .ok (.aload_n 0, 1) := by decide +kernel
theorem dX9_body14_8 : decode cX9_body14 8 = .ok (.iload_n 1, 1) := by decide +kernel
theorem dX9_body14_9 : decode cX9_body14 9 = .ok (.invokevirtual 281, 3) := by decide +kernel
theorem dX9_body14_12 : decode cX9_body14 12 = .ok (.imul, 1) := by decide +kernel
theorem dX9_body14_13 : decode cX9_body14 13 = .ok (.ireturn, 1) := by decide +kernel
def m_X9_body14 (N : Nat) (σ : Hp) (t0 : Nat) (p1 : Int32) : Option (Int32 × Hp) :=
  (rv N σ t0 9).bind fun _ =>
  (m_X9_leaves N σ t0 14).bind fun r1 =>
  (m_X9_body13 N r1 t0 p1).bind fun r2 =>
  some ((2 : Int32) * r2.1, r2.2)
set_option maxHeartbeats 4000000 in
set_option maxRecDepth 100000 in
theorem ct_X9_body14 {l : Launch} {D : va_G} {cy : Nat → Nat} {N : Nat} {σ : Hp} {t0 : Nat} {p1 : Int32} {r : Int32 × Hp} (h : m_X9_body14 N σ t0 p1 = some r) : Ct l D cy yX9_body14 cX9_body14 2 (some .int) 3 [.ref t0, .int p1] N σ (fun v s' => v = (some (.int r.1)) ∧ s' = r.2) := by
  refine Ct.intro [some (.ref t0), some (.int p1)] (by decide) rfl (Nat.le_of_ble_eq_true rfl) ?_
  intro κ ω e1 e2 e3 e4 C Z E
  subst e1; subst e2; subst e3; subst e4
  have C : Cx κ 2 3 cX9_body14 RX9 "body14" := C
  have hE : ∀ x : Int32 × Hp, r = x → ((some (Value.int x.1)) = (some (Value.int r.1)) ∧ x.2 = r.2) := fun x hx => by subst hx; exact ⟨rfl, rfl⟩
  unfold m_X9_body14 at h
  obtain ⟨_, _, h⟩ := ob h
  refine x_aload_n C (i := 0) dX9_body14_0 rfl rfl ?_
  refine x_bipush C (v := 14) dX9_body14_1 (by decide) ?_
  obtain ⟨r1, er1, h⟩ := ob h
  refine x_callVn C Z mv_X9_leaves lk_X9_263 (rv_h er1) (ct_X9_leaves er1) (by decide) rfl rfl (Nat.le_of_ble_eq_true rfl) dX9_body14_3 ?_
  refine x_iconst C (v := 2) dX9_body14_6 (by decide) ?_
  refine x_aload_n C (i := 0) dX9_body14_7 rfl rfl ?_
  refine x_iload_n C (i := 1) dX9_body14_8 rfl rfl ?_
  obtain ⟨r2, er2, h⟩ := ob h
  refine x_callVr C Z mv_X9_body13 lk_X9_281 (rv_h er2) (ct_X9_body13 er2) (by decide) rfl rfl (Nat.le_of_ble_eq_true rfl) dX9_body14_9 ?_
  refine x_imul C dX9_body14_12 ?_
  exact x_iret C E dX9_body14_13 (hE ((2 : Int32) * r2.1, r2.2) (Option.some.inj h).symm)
theorem dX9_glassSize_0 : decode cX9_glassSize 0 = .ok (.aload_n 0, 1) := by decide +kernel
theorem dX9_glassSize_1 : decode cX9_glassSize 1 = .ok (.getfield 23, 3) := by decide +kernel
theorem dX9_glassSize_4 : decode cX9_glassSize 4 = .ok (.iconst 4, 1) := by decide +kernel
theorem dX9_glassSize_5 : decode cX9_glassSize 5 = .ok (.iload_n 1, 1) := by decide +kernel
theorem dX9_glassSize_6 : decode cX9_glassSize 6 = .ok (.iadd, 1) := by decide +kernel
theorem dX9_glassSize_7 : decode cX9_glassSize 7 = .ok (.iaload, 1) := by decide +kernel
theorem dX9_glassSize_8 : decode cX9_glassSize 8 = .ok (.iconst 5, 1) := by decide +kernel
theorem dX9_glassSize_9 : decode cX9_glassSize 9 = .ok (.if_icmp .ne 11, 3) := by decide +kernel
theorem dX9_glassSize_12 : decode cX9_glassSize 12 = .ok (.aload_n 0, 1) := by decide +kernel
theorem dX9_glassSize_13 : decode cX9_glassSize 13 = .ok (.iload_n 1, 1) := by decide +kernel
theorem dX9_glassSize_14 : decode cX9_glassSize 14 = .ok (.invokevirtual 284, 3) := by decide +kernel
theorem dX9_glassSize_17 : decode cX9_glassSize 17 = .ok (.goto 8, 3) := by decide +kernel
theorem dX9_glassSize_20 : decode cX9_glassSize 20 = .ok (.aload_n 0, 1) := by decide +kernel
theorem dX9_glassSize_21 : decode cX9_glassSize 21 = .ok (.iload_n 1, 1) := by decide +kernel
theorem dX9_glassSize_22 : decode cX9_glassSize 22 = .ok (.invokevirtual 281, 3) := by decide +kernel
theorem dX9_glassSize_25 : decode cX9_glassSize 25 = .ok (.ireturn, 1) := by decide +kernel
def m_X9_glassSize (N : Nat) (σ : Hp) (t0 : Nat) (p1 : Int32) : Option (Int32 × Hp) :=
  (rv N σ t0 9).bind fun _ =>
  (gR N σ t0 9 10).bind fun x1 =>
  (aI 0 N σ x1 ((4 : Int32) + p1)).bind fun x2 =>
  if x2 = 5 then
   (m_X9_body14 N σ t0 p1).bind fun r5 =>
  some (r5.1, r5.2)
  else
   (m_X9_body13 N σ t0 p1).bind fun r4 =>
  some (r4.1, r4.2)
set_option maxHeartbeats 4000000 in
set_option maxRecDepth 100000 in
theorem ct_X9_glassSize {l : Launch} {D : va_G} {cy : Nat → Nat} {N : Nat} {σ : Hp} {t0 : Nat} {p1 : Int32} {r : Int32 × Hp} (h : m_X9_glassSize N σ t0 p1 = some r) : Ct l D cy yX9_glassSize cX9_glassSize 2 (some .int) 4 [.ref t0, .int p1] N σ (fun v s' => v = (some (.int r.1)) ∧ s' = r.2) := by
  refine Ct.intro [some (.ref t0), some (.int p1)] (by decide) rfl (Nat.le_of_ble_eq_true rfl) ?_
  intro κ ω e1 e2 e3 e4 C Z E
  subst e1; subst e2; subst e3; subst e4
  have C : Cx κ 2 4 cX9_glassSize RX9 "glassSize" := C
  have hE : ∀ x : Int32 × Hp, r = x → ((some (Value.int x.1)) = (some (Value.int r.1)) ∧ x.2 = r.2) := fun x hx => by subst hx; exact ⟨rfl, rfl⟩
  unfold m_X9_glassSize at h
  obtain ⟨_, _, h⟩ := ob h
  refine x_aload_n C (i := 0) dX9_glassSize_0 rfl rfl ?_
  obtain ⟨x1, ex1, h⟩ := ob h
  refine x_getR C fl_X9_23 dX9_glassSize_1 ex1 ?_
  refine x_iconst C (v := 4) dX9_glassSize_4 (by decide) ?_
  refine x_iload_n C (i := 1) dX9_glassSize_5 rfl rfl ?_
  refine x_iadd C dX9_glassSize_6 ?_
  obtain ⟨x2, ex2, h⟩ := ob h
  refine x_iald C dX9_glassSize_7 ex2 ?_
  refine x_iconst C (v := 5) dX9_glassSize_8 (by decide) ?_
  refine x_icmp_ne C (tgt := 20) dX9_glassSize_9 (by decide) (fun c3 => ?_) (fun c3 => ?_)
  · have h := ifN h c3
    refine x_aload_n C (i := 0) dX9_glassSize_20 rfl rfl ?_
    refine x_iload_n C (i := 1) dX9_glassSize_21 rfl rfl ?_
    obtain ⟨r4, er4, h⟩ := ob h
    refine x_callVr C Z mv_X9_body13 lk_X9_281 (rv_h er4) (ct_X9_body13 er4) (by decide) rfl rfl (Nat.le_of_ble_eq_true rfl) dX9_glassSize_22 ?_
    exact x_iret C E dX9_glassSize_25 (hE (r4.1, r4.2) (Option.some.inj h).symm)
  · have h := ifP h c3
    refine x_aload_n C (i := 0) dX9_glassSize_12 rfl rfl ?_
    refine x_iload_n C (i := 1) dX9_glassSize_13 rfl rfl ?_
    obtain ⟨r5, er5, h⟩ := ob h
    refine x_callVr C Z mv_X9_body14 lk_X9_284 (rv_h er5) (ct_X9_body14 er5) (by decide) rfl rfl (Nat.le_of_ble_eq_true rfl) dX9_glassSize_14 ?_
    refine x_goto C (tgt := 25) dX9_glassSize_17 (by decide) ?_
    exact x_iret C E dX9_glassSize_25 (hE (r5.1, r5.2) (Option.some.inj h).symm)
theorem dX9_body23_0 : decode cX9_body23 0 = .ok (.aload_n 0, 1) := by decide +kernel
theorem dX9_body23_1 : decode cX9_body23 1 = .ok (.bipush 23, 2) := by decide +kernel
theorem dX9_body23_3 : decode cX9_body23 3 = .ok (.invokevirtual 263, 3) := by decide +kernel
theorem dX9_body23_6 : decode cX9_body23 6 = .ok (.aload_n 0, 1) := by decide +kernel
theorem dX9_body23_7 : decode cX9_body23 7 = .ok (.iload_n 1, 1) := by decide +kernel
theorem dX9_body23_8 : decode cX9_body23 8 = .ok (.invokevirtual 266, 3) := by decide +kernel
theorem dX9_body23_11 : decode cX9_body23 11 = .ok (.istore_n 2, 1) := by decide +kernel
theorem dX9_body23_12 : decode cX9_body23 12 = .ok (.iload_n 2, 1) := by decide +kernel
theorem dX9_body23_13 : decode cX9_body23 13 = .ok (.aload_n 0, 1) := by decide +kernel
theorem dX9_body23_14 : decode cX9_body23 14 = .ok (.iload_n 1, 1) := by decide +kernel
theorem dX9_body23_15 : decode cX9_body23 15 = .ok (.invokevirtual 275, 3) := by decide +kernel
theorem dX9_body23_18 : decode cX9_body23 18 = .ok (.isub, 1) := by decide +kernel
theorem dX9_body23_19 : decode cX9_body23 19 = .ok (.ireturn, 1) := by decide +kernel
def m_X9_body23 (N : Nat) (σ : Hp) (t0 : Nat) (p1 : Int32) : Option (Int32 × Hp) :=
  (rv N σ t0 9).bind fun _ =>
  (m_X9_leaves N σ t0 23).bind fun r1 =>
  (m_X9_body20 N r1 t0 p1).bind fun r2 =>
  (m_X9_glassSize N r2.2 t0 p1).bind fun r3 =>
  some (r2.1 - r3.1, r3.2)
set_option maxHeartbeats 4000000 in
set_option maxRecDepth 100000 in
theorem ct_X9_body23 {l : Launch} {D : va_G} {cy : Nat → Nat} {N : Nat} {σ : Hp} {t0 : Nat} {p1 : Int32} {r : Int32 × Hp} (h : m_X9_body23 N σ t0 p1 = some r) : Ct l D cy yX9_body23 cX9_body23 3 (some .int) 5 [.ref t0, .int p1] N σ (fun v s' => v = (some (.int r.1)) ∧ s' = r.2) := by
  refine Ct.intro [some (.ref t0), some (.int p1), none] (by decide) rfl (Nat.le_of_ble_eq_true rfl) ?_
  intro κ ω e1 e2 e3 e4 C Z E
  subst e1; subst e2; subst e3; subst e4
  have C : Cx κ 3 5 cX9_body23 RX9 "body23" := C
  have hE : ∀ x : Int32 × Hp, r = x → ((some (Value.int x.1)) = (some (Value.int r.1)) ∧ x.2 = r.2) := fun x hx => by subst hx; exact ⟨rfl, rfl⟩
  unfold m_X9_body23 at h
  obtain ⟨_, _, h⟩ := ob h
  refine x_aload_n C (i := 0) dX9_body23_0 rfl rfl ?_
  refine x_bipush C (v := 23) dX9_body23_1 (by decide) ?_
  obtain ⟨r1, er1, h⟩ := ob h
  refine x_callVn C Z mv_X9_leaves lk_X9_263 (rv_h er1) (ct_X9_leaves er1) (by decide) rfl rfl (Nat.le_of_ble_eq_true rfl) dX9_body23_3 ?_
  refine x_aload_n C (i := 0) dX9_body23_6 rfl rfl ?_
  refine x_iload_n C (i := 1) dX9_body23_7 rfl rfl ?_
  obtain ⟨r2, er2, h⟩ := ob h
  refine x_callVr C Z mv_X9_body20 lk_X9_266 (rv_h er2) (ct_X9_body20 er2) (by decide) rfl rfl (Nat.le_of_ble_eq_true rfl) dX9_body23_8 ?_
  refine x_istore_n C (i := 2) (lo' := [some (.ref t0), some (.int p1), some (.int r2.1)]) dX9_body23_11 rfl (by decide) rfl rfl ?_
  refine x_iload_n C (i := 2) dX9_body23_12 rfl rfl ?_
  refine x_aload_n C (i := 0) dX9_body23_13 rfl rfl ?_
  refine x_iload_n C (i := 1) dX9_body23_14 rfl rfl ?_
  obtain ⟨r3, er3, h⟩ := ob h
  refine x_callVr C Z mv_X9_glassSize lk_X9_275 (rv_h er3) (ct_X9_glassSize er3) (by decide) rfl rfl (Nat.le_of_ble_eq_true rfl) dX9_body23_15 ?_
  refine x_isub C dX9_body23_18 ?_
  exact x_iret C E dX9_body23_19 (hE (r2.1 - r3.1, r3.2) (Option.some.inj h).symm)
theorem dX9_body24_0 : decode cX9_body24 0 = .ok (.aload_n 0, 1) := by decide +kernel
theorem dX9_body24_1 : decode cX9_body24 1 = .ok (.bipush 24, 2) := by decide +kernel
theorem dX9_body24_3 : decode cX9_body24 3 = .ok (.invokevirtual 263, 3) := by decide +kernel
theorem dX9_body24_6 : decode cX9_body24 6 = .ok (.iconst 2, 1) := by decide +kernel
theorem dX9_body24_7 : decode cX9_body24 7 = .ok (.aload_n 0, 1) := by decide +kernel
theorem dX9_body24_8 : decode cX9_body24 8 = .ok (.iload_n 1, 1) := by decide +kernel
theorem dX9_body24_9 : decode cX9_body24 9 = .ok (.invokevirtual 272, 3) := by decide +kernel
theorem dX9_body24_12 : decode cX9_body24 12 = .ok (.imul, 1) := by decide +kernel
theorem dX9_body24_13 : decode cX9_body24 13 = .ok (.ireturn, 1) := by decide +kernel
def m_X9_body24 (N : Nat) (σ : Hp) (t0 : Nat) (p1 : Int32) : Option (Int32 × Hp) :=
  (rv N σ t0 9).bind fun _ =>
  (m_X9_leaves N σ t0 24).bind fun r1 =>
  (m_X9_body21 N r1 t0 p1).bind fun r2 =>
  some ((2 : Int32) * r2.1, r2.2)
set_option maxHeartbeats 4000000 in
set_option maxRecDepth 100000 in
theorem ct_X9_body24 {l : Launch} {D : va_G} {cy : Nat → Nat} {N : Nat} {σ : Hp} {t0 : Nat} {p1 : Int32} {r : Int32 × Hp} (h : m_X9_body24 N σ t0 p1 = some r) : Ct l D cy yX9_body24 cX9_body24 2 (some .int) 4 [.ref t0, .int p1] N σ (fun v s' => v = (some (.int r.1)) ∧ s' = r.2) := by
  refine Ct.intro [some (.ref t0), some (.int p1)] (by decide) rfl (Nat.le_of_ble_eq_true rfl) ?_
  intro κ ω e1 e2 e3 e4 C Z E
  subst e1; subst e2; subst e3; subst e4
  have C : Cx κ 2 4 cX9_body24 RX9 "body24" := C
  have hE : ∀ x : Int32 × Hp, r = x → ((some (Value.int x.1)) = (some (Value.int r.1)) ∧ x.2 = r.2) := fun x hx => by subst hx; exact ⟨rfl, rfl⟩
  unfold m_X9_body24 at h
  obtain ⟨_, _, h⟩ := ob h
  refine x_aload_n C (i := 0) dX9_body24_0 rfl rfl ?_
  refine x_bipush C (v := 24) dX9_body24_1 (by decide) ?_
  obtain ⟨r1, er1, h⟩ := ob h
  refine x_callVn C Z mv_X9_leaves lk_X9_263 (rv_h er1) (ct_X9_leaves er1) (by decide) rfl rfl (Nat.le_of_ble_eq_true rfl) dX9_body24_3 ?_
  refine x_iconst C (v := 2) dX9_body24_6 (by decide) ?_
  refine x_aload_n C (i := 0) dX9_body24_7 rfl rfl ?_
  refine x_iload_n C (i := 1) dX9_body24_8 rfl rfl ?_
  obtain ⟨r2, er2, h⟩ := ob h
  refine x_callVr C Z mv_X9_body21 lk_X9_272 (rv_h er2) (ct_X9_body21 er2) (by decide) rfl rfl (Nat.le_of_ble_eq_true rfl) dX9_body24_9 ?_
  refine x_imul C dX9_body24_12 ?_
  exact x_iret C E dX9_body24_13 (hE ((2 : Int32) * r2.1, r2.2) (Option.some.inj h).symm)
theorem dX9_plainMark_0 : decode cX9_plainMark 0 = .ok (.aload_n 0, 1) := by decide +kernel
theorem dX9_plainMark_1 : decode cX9_plainMark 1 = .ok (.getfield 23, 3) := by decide +kernel
theorem dX9_plainMark_4 : decode cX9_plainMark 4 = .ok (.iconst 4, 1) := by decide +kernel
theorem dX9_plainMark_5 : decode cX9_plainMark 5 = .ok (.iload_n 1, 1) := by decide +kernel
theorem dX9_plainMark_6 : decode cX9_plainMark 6 = .ok (.iadd, 1) := by decide +kernel
theorem dX9_plainMark_7 : decode cX9_plainMark 7 = .ok (.iaload, 1) := by decide +kernel
theorem dX9_plainMark_8 : decode cX9_plainMark 8 = .ok (.istore_n 2, 1) := by decide +kernel
theorem dX9_plainMark_9 : decode cX9_plainMark 9 = .ok (.iload_n 2, 1) := by decide +kernel
theorem dX9_plainMark_10 : decode cX9_plainMark 10 = .ok (.iconst 2, 1) := by decide +kernel
theorem dX9_plainMark_11 : decode cX9_plainMark 11 = .ok (.if_icmp .ne 11, 3) := by decide +kernel
theorem dX9_plainMark_14 : decode cX9_plainMark 14 = .ok (.aload_n 0, 1) := by decide +kernel
theorem dX9_plainMark_15 : decode cX9_plainMark 15 = .ok (.iload_n 1, 1) := by decide +kernel
theorem dX9_plainMark_16 : decode cX9_plainMark 16 = .ok (.invokevirtual 287, 3) := by decide +kernel
theorem dX9_plainMark_19 : decode cX9_plainMark 19 = .ok (.goto 21, 3) := by decide +kernel
theorem dX9_plainMark_22 : decode cX9_plainMark 22 = .ok (.iload_n 2, 1) := by decide +kernel
theorem dX9_plainMark_23 : decode cX9_plainMark 23 = .ok (.iconst 3, 1) := by decide +kernel
theorem dX9_plainMark_24 : decode cX9_plainMark 24 = .ok (.if_icmp .ne 11, 3) := by decide +kernel
theorem dX9_plainMark_27 : decode cX9_plainMark 27 = .ok (.aload_n 0, 1) := by decide +kernel
theorem dX9_plainMark_28 : decode cX9_plainMark 28 = .ok (.iload_n 1, 1) := by decide +kernel
theorem dX9_plainMark_29 : decode cX9_plainMark 29 = .ok (.invokevirtual 290, 3) := by decide +kernel
theorem dX9_plainMark_32 : decode cX9_plainMark 32 = .ok (.goto 8, 3) := by decide +kernel
theorem dX9_plainMark_35 : decode cX9_plainMark 35 = .ok (.aload_n 0, 1) := by decide +kernel
theorem dX9_plainMark_36 : decode cX9_plainMark 36 = .ok (.iload_n 1, 1) := by decide +kernel
theorem dX9_plainMark_37 : decode cX9_plainMark 37 = .ok (.invokevirtual 272, 3) := by decide +kernel
theorem dX9_plainMark_40 : decode cX9_plainMark 40 = .ok (.ireturn, 1) := by decide +kernel
def m_X9_plainMark (N : Nat) (σ : Hp) (t0 : Nat) (p1 : Int32) : Option (Int32 × Hp) :=
  (rv N σ t0 9).bind fun _ =>
  (gR N σ t0 9 10).bind fun x1 =>
  (aI 0 N σ x1 ((4 : Int32) + p1)).bind fun x2 =>
  if x2 = 2 then
   (m_X9_body24 N σ t0 p1).bind fun r7 =>
  some (r7.1, r7.2)
  else
   if x2 = 3 then
   (m_X9_body22 N σ t0 p1).bind fun r6 =>
  some (r6.1, r6.2)
  else
   (m_X9_body21 N σ t0 p1).bind fun r5 =>
  some (r5.1, r5.2)
set_option maxHeartbeats 4000000 in
set_option maxRecDepth 100000 in
theorem ct_X9_plainMark {l : Launch} {D : va_G} {cy : Nat → Nat} {N : Nat} {σ : Hp} {t0 : Nat} {p1 : Int32} {r : Int32 × Hp} (h : m_X9_plainMark N σ t0 p1 = some r) : Ct l D cy yX9_plainMark cX9_plainMark 3 (some .int) 5 [.ref t0, .int p1] N σ (fun v s' => v = (some (.int r.1)) ∧ s' = r.2) := by
  refine Ct.intro [some (.ref t0), some (.int p1), none] (by decide) rfl (Nat.le_of_ble_eq_true rfl) ?_
  intro κ ω e1 e2 e3 e4 C Z E
  subst e1; subst e2; subst e3; subst e4
  have C : Cx κ 3 5 cX9_plainMark RX9 "plainMark" := C
  have hE : ∀ x : Int32 × Hp, r = x → ((some (Value.int x.1)) = (some (Value.int r.1)) ∧ x.2 = r.2) := fun x hx => by subst hx; exact ⟨rfl, rfl⟩
  unfold m_X9_plainMark at h
  obtain ⟨_, _, h⟩ := ob h
  refine x_aload_n C (i := 0) dX9_plainMark_0 rfl rfl ?_
  obtain ⟨x1, ex1, h⟩ := ob h
  refine x_getR C fl_X9_23 dX9_plainMark_1 ex1 ?_
  refine x_iconst C (v := 4) dX9_plainMark_4 (by decide) ?_
  refine x_iload_n C (i := 1) dX9_plainMark_5 rfl rfl ?_
  refine x_iadd C dX9_plainMark_6 ?_
  obtain ⟨x2, ex2, h⟩ := ob h
  refine x_iald C dX9_plainMark_7 ex2 ?_
  refine x_istore_n C (i := 2) (lo' := [some (.ref t0), some (.int p1), some (.int x2)]) dX9_plainMark_8 rfl (by decide) rfl rfl ?_
  refine x_iload_n C (i := 2) dX9_plainMark_9 rfl rfl ?_
  refine x_iconst C (v := 2) dX9_plainMark_10 (by decide) ?_
  refine x_icmp_ne C (tgt := 22) dX9_plainMark_11 (by decide) (fun c3 => ?_) (fun c3 => ?_)
  · have h := ifN h c3
    refine x_iload_n C (i := 2) dX9_plainMark_22 rfl rfl ?_
    refine x_iconst C (v := 3) dX9_plainMark_23 (by decide) ?_
    refine x_icmp_ne C (tgt := 35) dX9_plainMark_24 (by decide) (fun c4 => ?_) (fun c4 => ?_)
    · have h := ifN h c4
      refine x_aload_n C (i := 0) dX9_plainMark_35 rfl rfl ?_
      refine x_iload_n C (i := 1) dX9_plainMark_36 rfl rfl ?_
      obtain ⟨r5, er5, h⟩ := ob h
      refine x_callVr C Z mv_X9_body21 lk_X9_272 (rv_h er5) (ct_X9_body21 er5) (by decide) rfl rfl (Nat.le_of_ble_eq_true rfl) dX9_plainMark_37 ?_
      exact x_iret C E dX9_plainMark_40 (hE (r5.1, r5.2) (Option.some.inj h).symm)
    · have h := ifP h c4
      refine x_aload_n C (i := 0) dX9_plainMark_27 rfl rfl ?_
      refine x_iload_n C (i := 1) dX9_plainMark_28 rfl rfl ?_
      obtain ⟨r6, er6, h⟩ := ob h
      refine x_callVr C Z mv_X9_body22 lk_X9_290 (rv_h er6) (ct_X9_body22 er6) (by decide) rfl rfl (Nat.le_of_ble_eq_true rfl) dX9_plainMark_29 ?_
      refine x_goto C (tgt := 40) dX9_plainMark_32 (by decide) ?_
      exact x_iret C E dX9_plainMark_40 (hE (r6.1, r6.2) (Option.some.inj h).symm)
  · have h := ifP h c3
    refine x_aload_n C (i := 0) dX9_plainMark_14 rfl rfl ?_
    refine x_iload_n C (i := 1) dX9_plainMark_15 rfl rfl ?_
    obtain ⟨r7, er7, h⟩ := ob h
    refine x_callVr C Z mv_X9_body24 lk_X9_287 (rv_h er7) (ct_X9_body24 er7) (by decide) rfl rfl (Nat.le_of_ble_eq_true rfl) dX9_plainMark_16 ?_
    refine x_goto C (tgt := 40) dX9_plainMark_19 (by decide) ?_
    exact x_iret C E dX9_plainMark_40 (hE (r7.1, r7.2) (Option.some.inj h).symm)
