theorem dX9_beginsWays_0 : decode cX9_beginsWays 0 = .ok (.aload_n 0, 1) := by decide +kernel
theorem dX9_beginsWays_1 : decode cX9_beginsWays 1 = .ok (.invokevirtual 166, 3) := by decide +kernel
theorem dX9_beginsWays_4 : decode cX9_beginsWays 4 = .ok (.iconst 0, 1) := by decide +kernel
theorem dX9_beginsWays_5 : decode cX9_beginsWays 5 = .ok (.istore_n 1, 1) := by decide +kernel
theorem dX9_beginsWays_6 : decode cX9_beginsWays 6 = .ok (.iload_n 1, 1) := by decide +kernel
theorem dX9_beginsWays_7 : decode cX9_beginsWays 7 = .ok (.sipush 8192, 3) := by decide +kernel
theorem dX9_beginsWays_10 : decode cX9_beginsWays 10 = .ok (.if_icmp .ge 16, 3) := by decide +kernel
theorem dX9_beginsWays_13 : decode cX9_beginsWays 13 = .ok (.aload_n 0, 1) := by decide +kernel
theorem dX9_beginsWays_14 : decode cX9_beginsWays 14 = .ok (.getfield 39, 3) := by decide +kernel
theorem dX9_beginsWays_17 : decode cX9_beginsWays 17 = .ok (.iload_n 1, 1) := by decide +kernel
theorem dX9_beginsWays_18 : decode cX9_beginsWays 18 = .ok (.lconst 0, 1) := by decide +kernel
theorem dX9_beginsWays_19 : decode cX9_beginsWays 19 = .ok (.lastore, 1) := by decide +kernel
theorem dX9_beginsWays_20 : decode cX9_beginsWays 20 = .ok (.iinc 1 1, 3) := by decide +kernel
theorem dX9_beginsWays_23 : decode cX9_beginsWays 23 = .ok (.goto (-17), 3) := by decide +kernel
theorem dX9_beginsWays_26 : decode cX9_beginsWays 26 = .ok (.aload_n 0, 1) := by decide +kernel
theorem dX9_beginsWays_27 : decode cX9_beginsWays 27 = .ok (.getfield 39, 3) := by decide +kernel
theorem dX9_beginsWays_30 : decode cX9_beginsWays 30 = .ok (.aload_n 0, 1) := by decide +kernel
theorem dX9_beginsWays_31 : decode cX9_beginsWays 31 = .ok (.invokevirtual 169, 3) := by decide +kernel
theorem dX9_beginsWays_34 : decode cX9_beginsWays 34 = .ok (.lconst 1, 1) := by decide +kernel
theorem dX9_beginsWays_35 : decode cX9_beginsWays 35 = .ok (.lastore, 1) := by decide +kernel
theorem dX9_beginsWays_36 : decode cX9_beginsWays 36 = .ok (.return_, 1) := by decide +kernel
def L_X9_beginsWays_6 (N : Nat) (v0 : Nat) : Nat → Hp → Int32 → Option (Hp)
  | 0, _, _ => none
  | n + 1, σ, v1 =>
  if 8192 ≤ v1 then
   some σ
  else
   (gR N σ v0 9 17).bind fun x3 =>
  (sJ N σ x3 v1 0).bind fun σ4 =>
  L_X9_beginsWays_6 N v0 n σ4 (v1 + 1)
def m_X9_beginsWays (N : Nat) (σ : Hp) (t0 : Nat) : Option (Hp) :=
  (rv N σ t0 9).bind fun _ =>
  (m_X9_asTold N σ t0).bind fun r1 =>
  (L_X9_beginsWays_6 N t0 fu r1 0).bind fun z5 =>
  (gR N z5 t0 9 17).bind fun x6 =>
  (m_X9_state N z5 t0).bind fun r7 =>
  (sJ N z5 x6 r7 1).bind fun σ8 =>
  some σ8
set_option maxHeartbeats 4000000 in
set_option maxRecDepth 100000 in
theorem lp_X9_beginsWays_6 {κ : Kx} {ω : Om} (C : Cx κ 2 1 cX9_beginsWays RX9 "beginsWays") (Z : Zx κ ω) (v0 : Nat) {r : Hp} (hk : X κ 2 ω 26 [some (.ref v0), none] [] r) : ∀ (n : Nat) (σ : Hp) (v1 : Int32), L_X9_beginsWays_6 ω.1 v0 n σ v1 = some r → X κ 2 ω 6 [some (.ref v0), some (.int v1)] [] σ := by
  intro n
  induction n with
  | zero => intro σ v1 h; cases h
  | succ n ih =>
    intro σ v1 h
    rw [L_X9_beginsWays_6.eq_2] at h
    refine x_iload_n C (i := 1) dX9_beginsWays_6 rfl rfl ?_
    refine x_sipush C (v := 8192) dX9_beginsWays_7 (by decide) ?_
    refine x_icmp_ge C (tgt := 26) dX9_beginsWays_10 (by decide) (fun c2 => ?_) (fun c2 => ?_)
    · have h := ifP h c2
      refine x_wk [true, false] (lo' := [some (.ref v0), none]) rfl ?_
      obtain rfl := Option.some.inj h
      exact hk
    · have h := ifN h c2
      refine x_aload_n C (i := 0) dX9_beginsWays_13 rfl rfl ?_
      obtain ⟨x3, ex3, h⟩ := ob h
      refine x_getR C fl_X9_39 dX9_beginsWays_14 ex3 ?_
      refine x_iload_n C (i := 1) dX9_beginsWays_17 rfl rfl ?_
      refine x_lconst C (v := 0) dX9_beginsWays_18 (by decide) ?_
      obtain ⟨σ4, eσ4, h⟩ := ob h
      refine x_last C dX9_beginsWays_19 eσ4 ?_
      refine x_iinc C (i := 1) (y := v1 + 1) (lo' := [some (.ref v0), some (.int (v1 + 1))]) dX9_beginsWays_20 rfl rfl (by decide) rfl rfl ?_
      refine x_goto C (tgt := 6) dX9_beginsWays_23 (by decide) ?_
      refine x_wk [true, true] (lo' := [some (.ref v0), some (.int (v1 + 1))]) rfl ?_
      exact ih σ4 (v1 + 1) h
set_option maxHeartbeats 4000000 in
set_option maxRecDepth 100000 in
theorem ct_X9_beginsWays {l : Launch} {D : va_G} {cy : Nat → Nat} {N : Nat} {σ : Hp} {t0 : Nat} {r : Hp} (h : m_X9_beginsWays N σ t0 = some r) : Ct l D cy yX9_beginsWays cX9_beginsWays 2 none 1 [.ref t0] N σ (fun v s' => v = none ∧ s' = r) := by
  refine Ct.intro [some (.ref t0), none] (by decide) rfl (Nat.le_of_ble_eq_true rfl) ?_
  intro κ ω e1 e2 e3 e4 C Z E
  subst e1; subst e2; subst e3; subst e4
  have C : Cx κ 2 1 cX9_beginsWays RX9 "beginsWays" := C
  have hE : ∀ x : Hp, r = x → ((none : Option Value) = none ∧ x = r) := fun x hx => by subst hx; exact ⟨rfl, rfl⟩
  unfold m_X9_beginsWays at h
  obtain ⟨_, _, h⟩ := ob h
  refine x_aload_n C (i := 0) dX9_beginsWays_0 rfl rfl ?_
  obtain ⟨r1, er1, h⟩ := ob h
  refine x_callVn C Z mv_X9_asTold lk_X9_166 (rv_h er1) (ct_X9_asTold er1) (by decide) rfl rfl (Nat.le_of_ble_eq_true rfl) dX9_beginsWays_1 ?_
  refine x_iconst C (v := 0) dX9_beginsWays_4 (by decide) ?_
  refine x_istore_n C (i := 1) (lo' := [some (.ref t0), some (.int 0)]) dX9_beginsWays_5 rfl (by decide) rfl rfl ?_
  obtain ⟨z5, ez5, h⟩ := ob h
  refine x_wk [true, true] (lo' := [some (.ref t0), some (.int 0)]) rfl ?_
  refine lp_X9_beginsWays_6 C Z t0 ?_ _ r1 0 ez5
  refine x_aload_n C (i := 0) dX9_beginsWays_26 rfl rfl ?_
  obtain ⟨x6, ex6, h⟩ := ob h
  refine x_getR C fl_X9_39 dX9_beginsWays_27 ex6 ?_
  refine x_aload_n C (i := 0) dX9_beginsWays_30 rfl rfl ?_
  obtain ⟨r7, er7, h⟩ := ob h
  refine x_callVr C Z mv_X9_state lk_X9_169 (rv_h er7) (ct_X9_state er7) (by decide) rfl rfl (Nat.le_of_ble_eq_true rfl) dX9_beginsWays_31 ?_
  refine x_lconst C (v := 1) dX9_beginsWays_34 (by decide) ?_
  obtain ⟨σ8, eσ8, h⟩ := ob h
  refine x_last C dX9_beginsWays_35 eσ8 ?_
  exact x_vret C E dX9_beginsWays_36 (hE σ8 (Option.some.inj h).symm)
theorem dX9_stepWays_0 : decode cX9_stepWays 0 = .ok (.iconst 0, 1) := by decide +kernel
theorem dX9_stepWays_1 : decode cX9_stepWays 1 = .ok (.istore_n 2, 1) := by decide +kernel
theorem dX9_stepWays_2 : decode cX9_stepWays 2 = .ok (.iload_n 2, 1) := by decide +kernel
theorem dX9_stepWays_3 : decode cX9_stepWays 3 = .ok (.sipush 8192, 3) := by decide +kernel
theorem dX9_stepWays_6 : decode cX9_stepWays 6 = .ok (.if_icmp .ge 16, 3) := by decide +kernel
theorem dX9_stepWays_9 : decode cX9_stepWays 9 = .ok (.aload_n 0, 1) := by decide +kernel
theorem dX9_stepWays_10 : decode cX9_stepWays 10 = .ok (.getfield 43, 3) := by decide +kernel
theorem dX9_stepWays_13 : decode cX9_stepWays 13 = .ok (.iload_n 2, 1) := by decide +kernel
theorem dX9_stepWays_14 : decode cX9_stepWays 14 = .ok (.lconst 0, 1) := by decide +kernel
theorem dX9_stepWays_15 : decode cX9_stepWays 15 = .ok (.lastore, 1) := by decide +kernel
theorem dX9_stepWays_16 : decode cX9_stepWays 16 = .ok (.iinc 2 1, 3) := by decide +kernel
theorem dX9_stepWays_19 : decode cX9_stepWays 19 = .ok (.goto (-17), 3) := by decide +kernel
theorem dX9_stepWays_22 : decode cX9_stepWays 22 = .ok (.iconst 0, 1) := by decide +kernel
theorem dX9_stepWays_23 : decode cX9_stepWays 23 = .ok (.istore_n 2, 1) := by decide +kernel
theorem dX9_stepWays_24 : decode cX9_stepWays 24 = .ok (.iload_n 2, 1) := by decide +kernel
theorem dX9_stepWays_25 : decode cX9_stepWays 25 = .ok (.sipush 8192, 3) := by decide +kernel
theorem dX9_stepWays_28 : decode cX9_stepWays 28 = .ok (.if_icmp .ge 159, 3) := by decide +kernel
theorem dX9_stepWays_31 : decode cX9_stepWays 31 = .ok (.aload_n 0, 1) := by decide +kernel
theorem dX9_stepWays_32 : decode cX9_stepWays 32 = .ok (.getfield 39, 3) := by decide +kernel
theorem dX9_stepWays_35 : decode cX9_stepWays 35 = .ok (.iload_n 2, 1) := by decide +kernel
theorem dX9_stepWays_36 : decode cX9_stepWays 36 = .ok (.laload, 1) := by decide +kernel
theorem dX9_stepWays_37 : decode cX9_stepWays 37 = .ok (.lconst 0, 1) := by decide +kernel
theorem dX9_stepWays_38 : decode cX9_stepWays 38 = .ok (.lcmp, 1) := by decide +kernel
theorem dX9_stepWays_39 : decode cX9_stepWays 39 = .ok (.ifCond .le 142, 3) := by decide +kernel
theorem dX9_stepWays_42 : decode cX9_stepWays 42 = .ok (.aload_n 0, 1) := by decide +kernel
theorem dX9_stepWays_43 : decode cX9_stepWays 43 = .ok (.iload_n 2, 1) := by decide +kernel
theorem dX9_stepWays_44 : decode cX9_stepWays 44 = .ok (.invokevirtual 190, 3) := by decide +kernel
theorem dX9_stepWays_47 : decode cX9_stepWays 47 = .ok (.istore_n 3, 1) := by decide +kernel
theorem dX9_stepWays_48 : decode cX9_stepWays 48 = .ok (.iconst 0, 1) := by decide +kernel
theorem dX9_stepWays_49 : decode cX9_stepWays 49 = .ok (.istore 4, 2) := by decide +kernel
theorem dX9_stepWays_51 : decode cX9_stepWays 51 = .ok (.iconst 0, 1) := by decide +kernel
theorem dX9_stepWays_52 : decode cX9_stepWays 52 = .ok (.istore 5, 2) := by decide +kernel
theorem dX9_stepWays_54 : decode cX9_stepWays 54 = .ok (.iload 5, 2) := by decide +kernel
theorem dX9_stepWays_56 : decode cX9_stepWays 56 = .ok (.bipush 16, 2) := by decide +kernel
theorem dX9_stepWays_58 : decode cX9_stepWays 58 = .ok (.if_icmp .ge 20, 3) := by decide +kernel
theorem dX9_stepWays_61 : decode cX9_stepWays 61 = .ok (.iload 4, 2) := by decide +kernel
theorem dX9_stepWays_63 : decode cX9_stepWays 63 = .ok (.iload_n 3, 1) := by decide +kernel
theorem dX9_stepWays_64 : decode cX9_stepWays 64 = .ok (.iload 5, 2) := by decide +kernel
theorem dX9_stepWays_66 : decode cX9_stepWays 66 = .ok (.ishr, 1) := by decide +kernel
theorem dX9_stepWays_67 : decode cX9_stepWays 67 = .ok (.iconst 1, 1) := by decide +kernel
theorem dX9_stepWays_68 : decode cX9_stepWays 68 = .ok (.iand, 1) := by decide +kernel
theorem dX9_stepWays_69 : decode cX9_stepWays 69 = .ok (.iadd, 1) := by decide +kernel
theorem dX9_stepWays_70 : decode cX9_stepWays 70 = .ok (.istore 4, 2) := by decide +kernel
theorem dX9_stepWays_72 : decode cX9_stepWays 72 = .ok (.iinc 5 1, 3) := by decide +kernel
theorem dX9_stepWays_75 : decode cX9_stepWays 75 = .ok (.goto (-21), 3) := by decide +kernel
theorem dX9_stepWays_78 : decode cX9_stepWays 78 = .ok (.iload_n 1, 1) := by decide +kernel
theorem dX9_stepWays_79 : decode cX9_stepWays 79 = .ok (.ifCond .eq 18, 3) := by decide +kernel
theorem dX9_stepWays_82 : decode cX9_stepWays 82 = .ok (.iload 4, 2) := by decide +kernel
theorem dX9_stepWays_84 : decode cX9_stepWays 84 = .ok (.ifCond .le 13, 3) := by decide +kernel
theorem dX9_stepWays_87 : decode cX9_stepWays 87 = .ok (.ldc2_w 228, 3) := by decide +kernel
theorem dX9_stepWays_90 : decode cX9_stepWays 90 = .ok (.iload 4, 2) := by decide +kernel
theorem dX9_stepWays_92 : decode cX9_stepWays 92 = .ok (.i2l, 1) := by decide +kernel
theorem dX9_stepWays_93 : decode cX9_stepWays 93 = .ok (.ldiv, 1) := by decide +kernel
theorem dX9_stepWays_94 : decode cX9_stepWays 94 = .ok (.goto 4, 3) := by decide +kernel
theorem dX9_stepWays_97 : decode cX9_stepWays 97 = .ok (.lconst 1, 1) := by decide +kernel
theorem dX9_stepWays_98 : decode cX9_stepWays 98 = .ok (.lstore 5, 2) := by decide +kernel
theorem dX9_stepWays_100 : decode cX9_stepWays 100 = .ok (.iconst 0, 1) := by decide +kernel
theorem dX9_stepWays_101 : decode cX9_stepWays 101 = .ok (.istore 7, 2) := by decide +kernel
theorem dX9_stepWays_103 : decode cX9_stepWays 103 = .ok (.iload 7, 2) := by decide +kernel
theorem dX9_stepWays_105 : decode cX9_stepWays 105 = .ok (.bipush 16, 2) := by decide +kernel
theorem dX9_stepWays_107 : decode cX9_stepWays 107 = .ok (.if_icmp .ge 42, 3) := by decide +kernel
theorem dX9_stepWays_110 : decode cX9_stepWays 110 = .ok (.iload_n 3, 1) := by decide +kernel
theorem dX9_stepWays_111 : decode cX9_stepWays 111 = .ok (.iload 7, 2) := by decide +kernel
theorem dX9_stepWays_113 : decode cX9_stepWays 113 = .ok (.invokestatic 138, 3) := by decide +kernel
theorem dX9_stepWays_116 : decode cX9_stepWays 116 = .ok (.ifCond .eq 27, 3) := by decide +kernel
theorem dX9_stepWays_119 : decode cX9_stepWays 119 = .ok (.aload_n 0, 1) := by decide +kernel
theorem dX9_stepWays_120 : decode cX9_stepWays 120 = .ok (.getfield 43, 3) := by decide +kernel
theorem dX9_stepWays_123 : decode cX9_stepWays 123 = .ok (.aload_n 0, 1) := by decide +kernel
theorem dX9_stepWays_124 : decode cX9_stepWays 124 = .ok (.iload_n 2, 1) := by decide +kernel
theorem dX9_stepWays_125 : decode cX9_stepWays 125 = .ok (.iload 7, 2) := by decide +kernel
theorem dX9_stepWays_127 : decode cX9_stepWays 127 = .ok (.invokevirtual 199, 3) := by decide +kernel
theorem dX9_stepWays_130 : decode cX9_stepWays 130 = .ok (.dup2, 1) := by decide +kernel
theorem dX9_stepWays_131 : decode cX9_stepWays 131 = .ok (.laload, 1) := by decide +kernel
theorem dX9_stepWays_132 : decode cX9_stepWays 132 = .ok (.aload_n 0, 1) := by decide +kernel
theorem dX9_stepWays_133 : decode cX9_stepWays 133 = .ok (.getfield 39, 3) := by decide +kernel
theorem dX9_stepWays_136 : decode cX9_stepWays 136 = .ok (.iload_n 2, 1) := by decide +kernel
theorem dX9_stepWays_137 : decode cX9_stepWays 137 = .ok (.laload, 1) := by decide +kernel
theorem dX9_stepWays_138 : decode cX9_stepWays 138 = .ok (.lload 5, 2) := by decide +kernel
theorem dX9_stepWays_140 : decode cX9_stepWays 140 = .ok (.lmul, 1) := by decide +kernel
theorem dX9_stepWays_141 : decode cX9_stepWays 141 = .ok (.ladd, 1) := by decide +kernel
theorem dX9_stepWays_142 : decode cX9_stepWays 142 = .ok (.lastore, 1) := by decide +kernel
theorem dX9_stepWays_143 : decode cX9_stepWays 143 = .ok (.iinc 7 1, 3) := by decide +kernel
theorem dX9_stepWays_146 : decode cX9_stepWays 146 = .ok (.goto (-43), 3) := by decide +kernel
theorem dX9_stepWays_149 : decode cX9_stepWays 149 = .ok (.aload_n 0, 1) := by decide +kernel
theorem dX9_stepWays_150 : decode cX9_stepWays 150 = .ok (.getfield 43, 3) := by decide +kernel
theorem dX9_stepWays_153 : decode cX9_stepWays 153 = .ok (.iload_n 2, 1) := by decide +kernel
theorem dX9_stepWays_154 : decode cX9_stepWays 154 = .ok (.dup2, 1) := by decide +kernel
theorem dX9_stepWays_155 : decode cX9_stepWays 155 = .ok (.laload, 1) := by decide +kernel
theorem dX9_stepWays_156 : decode cX9_stepWays 156 = .ok (.iload_n 1, 1) := by decide +kernel
theorem dX9_stepWays_157 : decode cX9_stepWays 157 = .ok (.ifCond .eq 21, 3) := by decide +kernel
theorem dX9_stepWays_160 : decode cX9_stepWays 160 = .ok (.iload 4, 2) := by decide +kernel
theorem dX9_stepWays_162 : decode cX9_stepWays 162 = .ok (.ifCond .ne 16, 3) := by decide +kernel
theorem dX9_stepWays_165 : decode cX9_stepWays 165 = .ok (.ldc2_w 228, 3) := by decide +kernel
theorem dX9_stepWays_168 : decode cX9_stepWays 168 = .ok (.aload_n 0, 1) := by decide +kernel
theorem dX9_stepWays_169 : decode cX9_stepWays 169 = .ok (.getfield 39, 3) := by decide +kernel
theorem dX9_stepWays_172 : decode cX9_stepWays 172 = .ok (.iload_n 2, 1) := by decide +kernel
theorem dX9_stepWays_173 : decode cX9_stepWays 173 = .ok (.laload, 1) := by decide +kernel
theorem dX9_stepWays_174 : decode cX9_stepWays 174 = .ok (.lmul, 1) := by decide +kernel
theorem dX9_stepWays_175 : decode cX9_stepWays 175 = .ok (.goto 4, 3) := by decide +kernel
theorem dX9_stepWays_178 : decode cX9_stepWays 178 = .ok (.lconst 0, 1) := by decide +kernel
theorem dX9_stepWays_179 : decode cX9_stepWays 179 = .ok (.ladd, 1) := by decide +kernel
theorem dX9_stepWays_180 : decode cX9_stepWays 180 = .ok (.lastore, 1) := by decide +kernel
theorem dX9_stepWays_181 : decode cX9_stepWays 181 = .ok (.iinc 2 1, 3) := by decide +kernel
theorem dX9_stepWays_184 : decode cX9_stepWays 184 = .ok (.goto (-160), 3) := by decide +kernel
theorem dX9_stepWays_187 : decode cX9_stepWays 187 = .ok (.iconst 0, 1) := by decide +kernel
theorem dX9_stepWays_188 : decode cX9_stepWays 188 = .ok (.istore_n 2, 1) := by decide +kernel
theorem dX9_stepWays_189 : decode cX9_stepWays 189 = .ok (.iload_n 2, 1) := by decide +kernel
theorem dX9_stepWays_190 : decode cX9_stepWays 190 = .ok (.sipush 8192, 3) := by decide +kernel
theorem dX9_stepWays_193 : decode cX9_stepWays 193 = .ok (.if_icmp .ge 21, 3) := by decide +kernel
theorem dX9_stepWays_196 : decode cX9_stepWays 196 = .ok (.aload_n 0, 1) := by decide +kernel
theorem dX9_stepWays_197 : decode cX9_stepWays 197 = .ok (.getfield 39, 3) := by decide +kernel
theorem dX9_stepWays_200 : decode cX9_stepWays 200 = .ok (.iload_n 2, 1) := by decide +kernel
theorem dX9_stepWays_201 : decode cX9_stepWays 201 = .ok (.aload_n 0, 1) := by decide +kernel
theorem dX9_stepWays_202 : decode cX9_stepWays 202 = .ok (.getfield 43, 3) := by decide +kernel
theorem dX9_stepWays_205 : decode cX9_stepWays 205 = .ok (.iload_n 2, 1) := by decide +kernel
theorem dX9_stepWays_206 : decode cX9_stepWays 206 = .ok (.laload, 1) := by decide +kernel
theorem dX9_stepWays_207 : decode cX9_stepWays 207 = .ok (.lastore, 1) := by decide +kernel
theorem dX9_stepWays_208 : decode cX9_stepWays 208 = .ok (.iinc 2 1, 3) := by decide +kernel
theorem dX9_stepWays_211 : decode cX9_stepWays 211 = .ok (.goto (-22), 3) := by decide +kernel
theorem dX9_stepWays_214 : decode cX9_stepWays 214 = .ok (.return_, 1) := by decide +kernel
def L_X9_stepWays_2 (N : Nat) (v0 : Nat) (v1 : Int32) : Nat → Hp → Int32 → Option (Hp)
  | 0, _, _ => none
  | n + 1, σ, v2 =>
  if 8192 ≤ v2 then
   some σ
  else
   (gR N σ v0 9 18).bind fun x2 =>
  (sJ N σ x2 v2 0).bind fun σ3 =>
  L_X9_stepWays_2 N v0 v1 n σ3 (v2 + 1)
def L_X9_stepWays_54 (N : Nat) (σ : Hp) (v0 : Nat) (v1 : Int32) (v2 : Int32) (v3 : Int32) : Nat → Int32 → Int32 → Option (Int32)
  | 0, _, _ => none
  | n + 1, v4, v5 =>
  if 16 ≤ v5 then
   some v4
  else
   lt (v4 + ((v3 >>> (v5 &&& 31)) &&& 1)) fun y11 =>
  L_X9_stepWays_54 N σ v0 v1 v2 v3 n y11 (v5 + 1)
def L_X9_stepWays_103 (N : Nat) (v0 : Nat) (v1 : Int32) (v2 : Int32) (v3 : Int32) (v4 : Int32) (v5 : Int64) : Nat → Hp → Int32 → Option (Hp)
  | 0, _, _ => none
  | n + 1, σ, v7 =>
  if 16 ≤ v7 then
   some σ
  else
   (m_X9_has v3 v7).bind fun r15 =>
  if r15 = 0 then
   L_X9_stepWays_103 N v0 v1 v2 v3 v4 v5 n σ (v7 + 1)
  else
   (gR N σ v0 9 18).bind fun x17 =>
  (m_X9_behind N σ v0 v2 v7).bind fun r18 =>
  (aJ N σ x17 r18).bind fun x19 =>
  (gR N σ v0 9 17).bind fun x20 =>
  (aJ N σ x20 v2).bind fun x21 =>
  (sJ N σ x17 r18 (x19 + (x21 * v5))).bind fun σ22 =>
  L_X9_stepWays_103 N v0 v1 v2 v3 v4 v5 n σ22 (v7 + 1)
def L_X9_stepWays_24 (N : Nat) (v0 : Nat) (v1 : Int32) : Nat → Hp → Int32 → Option (Hp)
  | 0, _, _ => none
  | n + 1, σ, v2 =>
  if 8192 ≤ v2 then
   some σ
  else
   (gR N σ v0 9 17).bind fun x6 =>
  (aJ N σ x6 v2).bind fun x7 =>
  if (lg_cmp x7 0) ≤ 0 then
   L_X9_stepWays_24 N v0 v1 n σ (v2 + 1)
  else
   (m_X9_movesOf N σ v0 v2).bind fun r9 =>
  (L_X9_stepWays_54 N σ v0 v1 v2 r9 fu 0 0).bind fun z12 =>
  ((if v1 = 0 then
   some 1
  else
   if z12 ≤ 0 then
   some 1
  else
   (nzJ z12.toInt64).bind fun u38 =>
  some (60 / z12.toInt64)) : Option (Int64)).bind fun z13 =>
  (L_X9_stepWays_103 N v0 v1 v2 r9 z12 z13 fu σ 0).bind fun z23 =>
  (gR N z23 v0 9 18).bind fun x24 =>
  (aJ N z23 x24 v2).bind fun x25 =>
  ((if v1 = 0 then
   some 0
  else
   if z12 = 0 then
   (gR N z23 v0 9 17).bind fun x32 =>
  (aJ N z23 x32 v2).bind fun x33 =>
  some ((60 : Int64) * x33)
  else
   some 0) : Option (Int64)).bind fun z26 =>
  (sJ N z23 x24 v2 (x25 + z26)).bind fun σ27 =>
  L_X9_stepWays_24 N v0 v1 n σ27 (v2 + 1)
def L_X9_stepWays_189 (N : Nat) (v0 : Nat) : Nat → Hp → Int32 → Option (Hp)
  | 0, _, _ => none
  | n + 1, σ, v2 =>
  if 8192 ≤ v2 then
   some σ
  else
   (gR N σ v0 9 17).bind fun x41 =>
  (gR N σ v0 9 18).bind fun x42 =>
  (aJ N σ x42 v2).bind fun x43 =>
  (sJ N σ x41 v2 x43).bind fun σ44 =>
  L_X9_stepWays_189 N v0 n σ44 (v2 + 1)
def m_X9_stepWays (N : Nat) (σ : Hp) (t0 : Nat) (p1 : Int32) : Option (Hp) :=
  (rv N σ t0 9).bind fun _ =>
  (L_X9_stepWays_2 N t0 p1 fu σ 0).bind fun z4 =>
  (L_X9_stepWays_24 N t0 p1 fu z4 0).bind fun z39 =>
  (L_X9_stepWays_189 N t0 fu z39 0).bind fun z45 =>
  some z45
set_option maxHeartbeats 4000000 in
set_option maxRecDepth 100000 in
theorem lp_X9_stepWays_2 {κ : Kx} {ω : Om} (C : Cx κ 8 4 cX9_stepWays RX9 "stepWays") (Z : Zx κ ω) (v0 : Nat) (v1 : Int32) {r : Hp} (hk : X κ 8 ω 22 [some (.ref v0), some (.int v1), none, none, none, none, none, none] [] r) : ∀ (n : Nat) (σ : Hp) (v2 : Int32), L_X9_stepWays_2 ω.1 v0 v1 n σ v2 = some r → X κ 8 ω 2 [some (.ref v0), some (.int v1), some (.int v2), none, none, none, none, none] [] σ := by
  intro n
  induction n with
  | zero => intro σ v2 h; cases h
  | succ n ih =>
    intro σ v2 h
    rw [L_X9_stepWays_2.eq_2] at h
    refine x_iload_n C (i := 2) dX9_stepWays_2 rfl rfl ?_
    refine x_sipush C (v := 8192) dX9_stepWays_3 (by decide) ?_
    refine x_icmp_ge C (tgt := 22) dX9_stepWays_6 (by decide) (fun c1 => ?_) (fun c1 => ?_)
    · have h := ifP h c1
      refine x_wk [true, true, false, false, false, false, false, false] (lo' := [some (.ref v0), some (.int v1), none, none, none, none, none, none]) rfl ?_
      obtain rfl := Option.some.inj h
      exact hk
    · have h := ifN h c1
      refine x_aload_n C (i := 0) dX9_stepWays_9 rfl rfl ?_
      obtain ⟨x2, ex2, h⟩ := ob h
      refine x_getR C fl_X9_43 dX9_stepWays_10 ex2 ?_
      refine x_iload_n C (i := 2) dX9_stepWays_13 rfl rfl ?_
      refine x_lconst C (v := 0) dX9_stepWays_14 (by decide) ?_
      obtain ⟨σ3, eσ3, h⟩ := ob h
      refine x_last C dX9_stepWays_15 eσ3 ?_
      refine x_iinc C (i := 2) (y := v2 + 1) (lo' := [some (.ref v0), some (.int v1), some (.int (v2 + 1)), none, none, none, none, none]) dX9_stepWays_16 rfl rfl (by decide) rfl rfl ?_
      refine x_goto C (tgt := 2) dX9_stepWays_19 (by decide) ?_
      refine x_wk [true, true, true, false, false, false, false, false] (lo' := [some (.ref v0), some (.int v1), some (.int (v2 + 1)), none, none, none, none, none]) rfl ?_
      exact ih σ3 (v2 + 1) h
set_option maxHeartbeats 4000000 in
set_option maxRecDepth 100000 in
theorem lp_X9_stepWays_54 {κ : Kx} {ω : Om} (C : Cx κ 8 4 cX9_stepWays RX9 "stepWays") (Z : Zx κ ω) (σ : Hp) (v0 : Nat) (v1 : Int32) (v2 : Int32) (v3 : Int32) {r : Int32} (hk : X κ 8 ω 78 [some (.ref v0), some (.int v1), some (.int v2), some (.int v3), some (.int r), none, none, none] [] σ) : ∀ (n : Nat) (v4 : Int32) (v5 : Int32), L_X9_stepWays_54 ω.1 σ v0 v1 v2 v3 n v4 v5 = some r → X κ 8 ω 54 [some (.ref v0), some (.int v1), some (.int v2), some (.int v3), some (.int v4), some (.int v5), none, none] [] σ := by
  intro n
  induction n with
  | zero => intro v4 v5 h; cases h
  | succ n ih =>
    intro v4 v5 h
    rw [L_X9_stepWays_54.eq_2] at h
    refine x_iload C (i := 5) dX9_stepWays_54 rfl ?_
    refine x_bipush C (v := 16) dX9_stepWays_56 (by decide) ?_
    refine x_icmp_ge C (tgt := 78) dX9_stepWays_58 (by decide) (fun c10 => ?_) (fun c10 => ?_)
    · have h := ifP h c10
      refine x_wk [true, true, true, true, true, false, false, false] (lo' := [some (.ref v0), some (.int v1), some (.int v2), some (.int v3), some (.int v4), none, none, none]) rfl ?_
      obtain rfl := Option.some.inj h
      exact hk
    · have h := ifN h c10
      refine x_iload C (i := 4) dX9_stepWays_61 rfl ?_
      refine x_iload_n C (i := 3) dX9_stepWays_63 rfl rfl ?_
      refine x_iload C (i := 5) dX9_stepWays_64 rfl ?_
      refine x_ishr C dX9_stepWays_66 ?_
      refine x_iconst C (v := 1) dX9_stepWays_67 (by decide) ?_
      refine x_iand C dX9_stepWays_68 ?_
      refine x_iadd C dX9_stepWays_69 ?_
      refine x_topi (fun y11 ey11 => ?_)
      have h := lt_e h ey11
      refine x_istore C (i := 4) (lo' := [some (.ref v0), some (.int v1), some (.int v2), some (.int v3), some (.int y11), some (.int v5), none, none]) dX9_stepWays_70 (by decide) rfl rfl ?_
      refine x_iinc C (i := 5) (y := v5 + 1) (lo' := [some (.ref v0), some (.int v1), some (.int v2), some (.int v3), some (.int y11), some (.int (v5 + 1)), none, none]) dX9_stepWays_72 rfl rfl (by decide) rfl rfl ?_
      refine x_goto C (tgt := 54) dX9_stepWays_75 (by decide) ?_
      refine x_wk [true, true, true, true, true, true, false, false] (lo' := [some (.ref v0), some (.int v1), some (.int v2), some (.int v3), some (.int y11), some (.int (v5 + 1)), none, none]) rfl ?_
      exact ih y11 (v5 + 1) h
set_option maxHeartbeats 4000000 in
set_option maxRecDepth 100000 in
theorem lp_X9_stepWays_103 {κ : Kx} {ω : Om} (C : Cx κ 8 4 cX9_stepWays RX9 "stepWays") (Z : Zx κ ω) (v0 : Nat) (v1 : Int32) (v2 : Int32) (v3 : Int32) (v4 : Int32) (v5 : Int64) {r : Hp} (hk : X κ 8 ω 149 [some (.ref v0), some (.int v1), some (.int v2), none, some (.int v4), none, none, none] [] r) : ∀ (n : Nat) (σ : Hp) (v7 : Int32), L_X9_stepWays_103 ω.1 v0 v1 v2 v3 v4 v5 n σ v7 = some r → X κ 8 ω 103 [some (.ref v0), some (.int v1), some (.int v2), some (.int v3), some (.int v4), some (.long v5), none, some (.int v7)] [] σ := by
  intro n
  induction n with
  | zero => intro σ v7 h; cases h
  | succ n ih =>
    intro σ v7 h
    rw [L_X9_stepWays_103.eq_2] at h
    refine x_iload C (i := 7) dX9_stepWays_103 rfl ?_
    refine x_bipush C (v := 16) dX9_stepWays_105 (by decide) ?_
    refine x_icmp_ge C (tgt := 149) dX9_stepWays_107 (by decide) (fun c14 => ?_) (fun c14 => ?_)
    · have h := ifP h c14
      refine x_wk [true, true, true, false, true, false, false, false] (lo' := [some (.ref v0), some (.int v1), some (.int v2), none, some (.int v4), none, none, none]) rfl ?_
      obtain rfl := Option.some.inj h
      exact hk
    · have h := ifN h c14
      refine x_iload_n C (i := 3) dX9_stepWays_110 rfl rfl ?_
      refine x_iload C (i := 7) dX9_stepWays_111 rfl ?_
      obtain ⟨r15, er15, h⟩ := ob h
      refine x_callSr C Z ms_X9_has lk_X9_138 (ct_X9_has (N := ω.1) (σ := σ) er15) (by decide) rfl rfl (Nat.le_of_ble_eq_true rfl) dX9_stepWays_113 ?_
      refine x_if_eq C (tgt := 143) dX9_stepWays_116 (by decide) (fun c16 => ?_) (fun c16 => ?_)
      · have h := ifP h c16
        refine x_iinc C (i := 7) (y := v7 + 1) (lo' := [some (.ref v0), some (.int v1), some (.int v2), some (.int v3), some (.int v4), some (.long v5), none, some (.int (v7 + 1))]) dX9_stepWays_143 rfl rfl (by decide) rfl rfl ?_
        refine x_goto C (tgt := 103) dX9_stepWays_146 (by decide) ?_
        refine x_wk [true, true, true, true, true, true, false, true] (lo' := [some (.ref v0), some (.int v1), some (.int v2), some (.int v3), some (.int v4), some (.long v5), none, some (.int (v7 + 1))]) rfl ?_
        exact ih σ (v7 + 1) h
      · have h := ifN h c16
        refine x_aload_n C (i := 0) dX9_stepWays_119 rfl rfl ?_
        obtain ⟨x17, ex17, h⟩ := ob h
        refine x_getR C fl_X9_43 dX9_stepWays_120 ex17 ?_
        refine x_aload_n C (i := 0) dX9_stepWays_123 rfl rfl ?_
        refine x_iload_n C (i := 2) dX9_stepWays_124 rfl rfl ?_
        refine x_iload C (i := 7) dX9_stepWays_125 rfl ?_
        obtain ⟨r18, er18, h⟩ := ob h
        refine x_callVr C Z mv_X9_behind lk_X9_199 (rv_h er18) (ct_X9_behind er18) (by decide) rfl rfl (Nat.le_of_ble_eq_true rfl) dX9_stepWays_127 ?_
        refine x_dup2 C dX9_stepWays_130 rfl rfl ?_
        obtain ⟨x19, ex19, h⟩ := ob h
        refine x_lald C dX9_stepWays_131 ex19 ?_
        refine x_aload_n C (i := 0) dX9_stepWays_132 rfl rfl ?_
        obtain ⟨x20, ex20, h⟩ := ob h
        refine x_getR C fl_X9_39 dX9_stepWays_133 ex20 ?_
        refine x_iload_n C (i := 2) dX9_stepWays_136 rfl rfl ?_
        obtain ⟨x21, ex21, h⟩ := ob h
        refine x_lald C dX9_stepWays_137 ex21 ?_
        refine x_lload C (i := 5) dX9_stepWays_138 rfl ?_
        refine x_lmul C dX9_stepWays_140 ?_
        refine x_ladd C dX9_stepWays_141 ?_
        obtain ⟨σ22, eσ22, h⟩ := ob h
        refine x_last C dX9_stepWays_142 eσ22 ?_
        refine x_iinc C (i := 7) (y := v7 + 1) (lo' := [some (.ref v0), some (.int v1), some (.int v2), some (.int v3), some (.int v4), some (.long v5), none, some (.int (v7 + 1))]) dX9_stepWays_143 rfl rfl (by decide) rfl rfl ?_
        refine x_goto C (tgt := 103) dX9_stepWays_146 (by decide) ?_
        refine x_wk [true, true, true, true, true, true, false, true] (lo' := [some (.ref v0), some (.int v1), some (.int v2), some (.int v3), some (.int v4), some (.long v5), none, some (.int (v7 + 1))]) rfl ?_
        exact ih σ22 (v7 + 1) h
set_option maxHeartbeats 4000000 in
set_option maxRecDepth 100000 in
theorem lp_X9_stepWays_24 {κ : Kx} {ω : Om} (C : Cx κ 8 4 cX9_stepWays RX9 "stepWays") (Z : Zx κ ω) (v0 : Nat) (v1 : Int32) {r : Hp} (hk : X κ 8 ω 187 [some (.ref v0), none, none, none, none, none, none, none] [] r) : ∀ (n : Nat) (σ : Hp) (v2 : Int32), L_X9_stepWays_24 ω.1 v0 v1 n σ v2 = some r → X κ 8 ω 24 [some (.ref v0), some (.int v1), some (.int v2), none, none, none, none, none] [] σ := by
  intro n
  induction n with
  | zero => intro σ v2 h; cases h
  | succ n ih =>
    intro σ v2 h
    rw [L_X9_stepWays_24.eq_2] at h
    refine x_iload_n C (i := 2) dX9_stepWays_24 rfl rfl ?_
    refine x_sipush C (v := 8192) dX9_stepWays_25 (by decide) ?_
    refine x_icmp_ge C (tgt := 187) dX9_stepWays_28 (by decide) (fun c5 => ?_) (fun c5 => ?_)
    · have h := ifP h c5
      refine x_wk [true, false, false, false, false, false, false, false] (lo' := [some (.ref v0), none, none, none, none, none, none, none]) rfl ?_
      obtain rfl := Option.some.inj h
      exact hk
    · have h := ifN h c5
      refine x_aload_n C (i := 0) dX9_stepWays_31 rfl rfl ?_
      obtain ⟨x6, ex6, h⟩ := ob h
      refine x_getR C fl_X9_39 dX9_stepWays_32 ex6 ?_
      refine x_iload_n C (i := 2) dX9_stepWays_35 rfl rfl ?_
      obtain ⟨x7, ex7, h⟩ := ob h
      refine x_lald C dX9_stepWays_36 ex7 ?_
      refine x_lconst C (v := 0) dX9_stepWays_37 (by decide) ?_
      refine x_lcmp C dX9_stepWays_38 ?_
      refine x_if_le C (tgt := 181) dX9_stepWays_39 (by decide) (fun c8 => ?_) (fun c8 => ?_)
      · have h := ifP h c8
        refine x_iinc C (i := 2) (y := v2 + 1) (lo' := [some (.ref v0), some (.int v1), some (.int (v2 + 1)), none, none, none, none, none]) dX9_stepWays_181 rfl rfl (by decide) rfl rfl ?_
        refine x_goto C (tgt := 24) dX9_stepWays_184 (by decide) ?_
        refine x_wk [true, true, true, false, false, false, false, false] (lo' := [some (.ref v0), some (.int v1), some (.int (v2 + 1)), none, none, none, none, none]) rfl ?_
        exact ih σ (v2 + 1) h
      · have h := ifN h c8
        refine x_aload_n C (i := 0) dX9_stepWays_42 rfl rfl ?_
        refine x_iload_n C (i := 2) dX9_stepWays_43 rfl rfl ?_
        obtain ⟨r9, er9, h⟩ := ob h
        refine x_callVr C Z mv_X9_movesOf lk_X9_190 (rv_h er9) (ct_X9_movesOf er9) (by decide) rfl rfl (Nat.le_of_ble_eq_true rfl) dX9_stepWays_44 ?_
        refine x_istore_n C (i := 3) (lo' := [some (.ref v0), some (.int v1), some (.int v2), some (.int r9), none, none, none, none]) dX9_stepWays_47 rfl (by decide) rfl rfl ?_
        refine x_iconst C (v := 0) dX9_stepWays_48 (by decide) ?_
        refine x_istore C (i := 4) (lo' := [some (.ref v0), some (.int v1), some (.int v2), some (.int r9), some (.int 0), none, none, none]) dX9_stepWays_49 (by decide) rfl rfl ?_
        refine x_iconst C (v := 0) dX9_stepWays_51 (by decide) ?_
        refine x_istore C (i := 5) (lo' := [some (.ref v0), some (.int v1), some (.int v2), some (.int r9), some (.int 0), some (.int 0), none, none]) dX9_stepWays_52 (by decide) rfl rfl ?_
        obtain ⟨z12, ez12, h⟩ := ob h
        refine x_wk [true, true, true, true, true, true, false, false] (lo' := [some (.ref v0), some (.int v1), some (.int v2), some (.int r9), some (.int 0), some (.int 0), none, none]) rfl ?_
        refine lp_X9_stepWays_54 C Z σ v0 v1 v2 r9 ?_ _ 0 0 ez12
        refine x_iload_n C (i := 1) dX9_stepWays_78 rfl rfl ?_
        obtain ⟨z13, hz13, h⟩ := ob h
        have hJ34 : X κ 8 ω 98 [some (.ref v0), some (.int v1), some (.int v2), some (.int r9), some (.int z12), none, none, none] [.long z13] σ := by
          refine x_lstore C (i := 5) (lo' := [some (.ref v0), some (.int v1), some (.int v2), some (.int r9), some (.int z12), some (.long z13), none, none]) dX9_stepWays_98 (by decide) rfl rfl ?_
          refine x_iconst C (v := 0) dX9_stepWays_100 (by decide) ?_
          refine x_istore C (i := 7) (lo' := [some (.ref v0), some (.int v1), some (.int v2), some (.int r9), some (.int z12), some (.long z13), none, some (.int 0)]) dX9_stepWays_101 (by decide) rfl rfl ?_
          obtain ⟨z23, ez23, h⟩ := ob h
          refine x_wk [true, true, true, true, true, true, false, true] (lo' := [some (.ref v0), some (.int v1), some (.int v2), some (.int r9), some (.int z12), some (.long z13), none, some (.int 0)]) rfl ?_
          refine lp_X9_stepWays_103 C Z v0 v1 v2 r9 z12 z13 ?_ _ σ 0 ez23
          refine x_aload_n C (i := 0) dX9_stepWays_149 rfl rfl ?_
          obtain ⟨x24, ex24, h⟩ := ob h
          refine x_getR C fl_X9_43 dX9_stepWays_150 ex24 ?_
          refine x_iload_n C (i := 2) dX9_stepWays_153 rfl rfl ?_
          refine x_dup2 C dX9_stepWays_154 rfl rfl ?_
          obtain ⟨x25, ex25, h⟩ := ob h
          refine x_lald C dX9_stepWays_155 ex25 ?_
          refine x_iload_n C (i := 1) dX9_stepWays_156 rfl rfl ?_
          obtain ⟨z26, hz26, h⟩ := ob h
          have hJ28 : X κ 8 ω 179 [some (.ref v0), some (.int v1), some (.int v2), none, none, none, none, none] [.long z26, .long x25, .int v2, .ref x24] z23 := by
            refine x_ladd C dX9_stepWays_179 ?_
            obtain ⟨σ27, eσ27, h⟩ := ob h
            refine x_last C dX9_stepWays_180 eσ27 ?_
            refine x_iinc C (i := 2) (y := v2 + 1) (lo' := [some (.ref v0), some (.int v1), some (.int (v2 + 1)), none, none, none, none, none]) dX9_stepWays_181 rfl rfl (by decide) rfl rfl ?_
            refine x_goto C (tgt := 24) dX9_stepWays_184 (by decide) ?_
            refine x_wk [true, true, true, false, false, false, false, false] (lo' := [some (.ref v0), some (.int v1), some (.int (v2 + 1)), none, none, none, none, none]) rfl ?_
            exact ih σ27 (v2 + 1) h
          clear h
          have h := hz26
          refine x_if_eq C (tgt := 178) dX9_stepWays_157 (by decide) (fun c30 => ?_) (fun c30 => ?_)
          · have h := ifP h c30
            refine x_lconst C (v := 0) dX9_stepWays_178 (by decide) ?_
            refine x_wk [true, true, true, false, false, false, false, false] (lo' := [some (.ref v0), some (.int v1), some (.int v2), none, none, none, none, none]) rfl ?_
            obtain rfl := Option.some.inj h
            exact hJ28
          · have h := ifN h c30
            refine x_iload C (i := 4) dX9_stepWays_160 rfl ?_
            refine x_if_ne C (tgt := 178) dX9_stepWays_162 (by decide) (fun c31 => ?_) (fun c31 => ?_)
            · have h := ifN h c31
              refine x_lconst C (v := 0) dX9_stepWays_178 (by decide) ?_
              refine x_wk [true, true, true, false, false, false, false, false] (lo' := [some (.ref v0), some (.int v1), some (.int v2), none, none, none, none, none]) rfl ?_
              obtain rfl := Option.some.inj h
              exact hJ28
            · have h := ifP h c31
              refine x_ldc2 C kj_X9_228 dX9_stepWays_165 ?_
              refine x_aload_n C (i := 0) dX9_stepWays_168 rfl rfl ?_
              obtain ⟨x32, ex32, h⟩ := ob h
              refine x_getR C fl_X9_39 dX9_stepWays_169 ex32 ?_
              refine x_iload_n C (i := 2) dX9_stepWays_172 rfl rfl ?_
              obtain ⟨x33, ex33, h⟩ := ob h
              refine x_lald C dX9_stepWays_173 ex33 ?_
              refine x_lmul C dX9_stepWays_174 ?_
              refine x_goto C (tgt := 179) dX9_stepWays_175 (by decide) ?_
              refine x_wk [true, true, true, false, false, false, false, false] (lo' := [some (.ref v0), some (.int v1), some (.int v2), none, none, none, none, none]) rfl ?_
              obtain rfl := Option.some.inj h
              exact hJ28
        clear h
        have h := hz13
        refine x_if_eq C (tgt := 97) dX9_stepWays_79 (by decide) (fun c36 => ?_) (fun c36 => ?_)
        · have h := ifP h c36
          refine x_lconst C (v := 1) dX9_stepWays_97 (by decide) ?_
          refine x_wk [true, true, true, true, true, false, false, false] (lo' := [some (.ref v0), some (.int v1), some (.int v2), some (.int r9), some (.int z12), none, none, none]) rfl ?_
          obtain rfl := Option.some.inj h
          exact hJ34
        · have h := ifN h c36
          refine x_iload C (i := 4) dX9_stepWays_82 rfl ?_
          refine x_if_le C (tgt := 97) dX9_stepWays_84 (by decide) (fun c37 => ?_) (fun c37 => ?_)
          · have h := ifP h c37
            refine x_lconst C (v := 1) dX9_stepWays_97 (by decide) ?_
            refine x_wk [true, true, true, true, true, false, false, false] (lo' := [some (.ref v0), some (.int v1), some (.int v2), some (.int r9), some (.int z12), none, none, none]) rfl ?_
            obtain rfl := Option.some.inj h
            exact hJ34
          · have h := ifN h c37
            refine x_ldc2 C kj_X9_228 dX9_stepWays_87 ?_
            refine x_iload C (i := 4) dX9_stepWays_90 rfl ?_
            refine x_i2l C dX9_stepWays_92 ?_
            obtain ⟨u38, eu38, h⟩ := ob h
            refine x_ldiv C dX9_stepWays_93 (nzJ_ne eu38) ?_
            refine x_goto C (tgt := 98) dX9_stepWays_94 (by decide) ?_
            refine x_wk [true, true, true, true, true, false, false, false] (lo' := [some (.ref v0), some (.int v1), some (.int v2), some (.int r9), some (.int z12), none, none, none]) rfl ?_
            obtain rfl := Option.some.inj h
            exact hJ34
set_option maxHeartbeats 4000000 in
set_option maxRecDepth 100000 in
theorem lp_X9_stepWays_189 {κ : Kx} {ω : Om} (C : Cx κ 8 4 cX9_stepWays RX9 "stepWays") (Z : Zx κ ω) (v0 : Nat) {r : Hp} (hk : X κ 8 ω 214 [none, none, none, none, none, none, none, none] [] r) : ∀ (n : Nat) (σ : Hp) (v2 : Int32), L_X9_stepWays_189 ω.1 v0 n σ v2 = some r → X κ 8 ω 189 [some (.ref v0), none, some (.int v2), none, none, none, none, none] [] σ := by
  intro n
  induction n with
  | zero => intro σ v2 h; cases h
  | succ n ih =>
    intro σ v2 h
    rw [L_X9_stepWays_189.eq_2] at h
    refine x_iload_n C (i := 2) dX9_stepWays_189 rfl rfl ?_
    refine x_sipush C (v := 8192) dX9_stepWays_190 (by decide) ?_
    refine x_icmp_ge C (tgt := 214) dX9_stepWays_193 (by decide) (fun c40 => ?_) (fun c40 => ?_)
    · have h := ifP h c40
      refine x_wk [false, false, false, false, false, false, false, false] (lo' := [none, none, none, none, none, none, none, none]) rfl ?_
      obtain rfl := Option.some.inj h
      exact hk
    · have h := ifN h c40
      refine x_aload_n C (i := 0) dX9_stepWays_196 rfl rfl ?_
      obtain ⟨x41, ex41, h⟩ := ob h
      refine x_getR C fl_X9_39 dX9_stepWays_197 ex41 ?_
      refine x_iload_n C (i := 2) dX9_stepWays_200 rfl rfl ?_
      refine x_aload_n C (i := 0) dX9_stepWays_201 rfl rfl ?_
      obtain ⟨x42, ex42, h⟩ := ob h
      refine x_getR C fl_X9_43 dX9_stepWays_202 ex42 ?_
      refine x_iload_n C (i := 2) dX9_stepWays_205 rfl rfl ?_
      obtain ⟨x43, ex43, h⟩ := ob h
      refine x_lald C dX9_stepWays_206 ex43 ?_
      obtain ⟨σ44, eσ44, h⟩ := ob h
      refine x_last C dX9_stepWays_207 eσ44 ?_
      refine x_iinc C (i := 2) (y := v2 + 1) (lo' := [some (.ref v0), none, some (.int (v2 + 1)), none, none, none, none, none]) dX9_stepWays_208 rfl rfl (by decide) rfl rfl ?_
      refine x_goto C (tgt := 189) dX9_stepWays_211 (by decide) ?_
      refine x_wk [true, false, true, false, false, false, false, false] (lo' := [some (.ref v0), none, some (.int (v2 + 1)), none, none, none, none, none]) rfl ?_
      exact ih σ44 (v2 + 1) h
set_option maxHeartbeats 4000000 in
set_option maxRecDepth 100000 in
theorem ct_X9_stepWays {l : Launch} {D : va_G} {cy : Nat → Nat} {N : Nat} {σ : Hp} {t0 : Nat} {p1 : Int32} {r : Hp} (h : m_X9_stepWays N σ t0 p1 = some r) : Ct l D cy yX9_stepWays cX9_stepWays 8 none 4 [.ref t0, .int p1] N σ (fun v s' => v = none ∧ s' = r) := by
  refine Ct.intro [some (.ref t0), some (.int p1), none, none, none, none, none, none] (by decide) rfl (Nat.le_of_ble_eq_true rfl) ?_
  intro κ ω e1 e2 e3 e4 C Z E
  subst e1; subst e2; subst e3; subst e4
  have C : Cx κ 8 4 cX9_stepWays RX9 "stepWays" := C
  have hE : ∀ x : Hp, r = x → ((none : Option Value) = none ∧ x = r) := fun x hx => by subst hx; exact ⟨rfl, rfl⟩
  unfold m_X9_stepWays at h
  obtain ⟨_, _, h⟩ := ob h
  refine x_iconst C (v := 0) dX9_stepWays_0 (by decide) ?_
  refine x_istore_n C (i := 2) (lo' := [some (.ref t0), some (.int p1), some (.int 0), none, none, none, none, none]) dX9_stepWays_1 rfl (by decide) rfl rfl ?_
  obtain ⟨z4, ez4, h⟩ := ob h
  refine x_wk [true, true, true, false, false, false, false, false] (lo' := [some (.ref t0), some (.int p1), some (.int 0), none, none, none, none, none]) rfl ?_
  refine lp_X9_stepWays_2 C Z t0 p1 ?_ _ σ 0 ez4
  refine x_iconst C (v := 0) dX9_stepWays_22 (by decide) ?_
  refine x_istore_n C (i := 2) (lo' := [some (.ref t0), some (.int p1), some (.int 0), none, none, none, none, none]) dX9_stepWays_23 rfl (by decide) rfl rfl ?_
  obtain ⟨z39, ez39, h⟩ := ob h
  refine x_wk [true, true, true, false, false, false, false, false] (lo' := [some (.ref t0), some (.int p1), some (.int 0), none, none, none, none, none]) rfl ?_
  refine lp_X9_stepWays_24 C Z t0 p1 ?_ _ z4 0 ez39
  refine x_iconst C (v := 0) dX9_stepWays_187 (by decide) ?_
  refine x_istore_n C (i := 2) (lo' := [some (.ref t0), none, some (.int 0), none, none, none, none, none]) dX9_stepWays_188 rfl (by decide) rfl rfl ?_
  obtain ⟨z45, ez45, h⟩ := ob h
  refine x_wk [true, false, true, false, false, false, false, false] (lo' := [some (.ref t0), none, some (.int 0), none, none, none, none, none]) rfl ?_
  refine lp_X9_stepWays_189 C Z t0 ?_ _ z39 0 ez45
  exact x_vret C E dX9_stepWays_214 (hE z45 (Option.some.inj h).symm)
theorem dX9_ways_0 : decode cX9_ways 0 = .ok (.aload_n 0, 1) := by decide +kernel
theorem dX9_ways_1 : decode cX9_ways 1 = .ok (.invokevirtual 183, 3) := by decide +kernel
theorem dX9_ways_4 : decode cX9_ways 4 = .ok (.ifCond .ne 7, 3) := by decide +kernel
theorem dX9_ways_7 : decode cX9_ways 7 = .ok (.ldc2_w 230, 3) := by decide +kernel
theorem dX9_ways_10 : decode cX9_ways 10 = .ok (.lreturn, 1) := by decide +kernel
theorem dX9_ways_11 : decode cX9_ways 11 = .ok (.iload_n 1, 1) := by decide +kernel
theorem dX9_ways_12 : decode cX9_ways 12 = .ok (.invokestatic 60, 3) := by decide +kernel
theorem dX9_ways_15 : decode cX9_ways 15 = .ok (.ifCond .eq 15, 3) := by decide +kernel
theorem dX9_ways_18 : decode cX9_ways 18 = .ok (.iload_n 3, 1) := by decide +kernel
theorem dX9_ways_19 : decode cX9_ways 19 = .ok (.i2l, 1) := by decide +kernel
theorem dX9_ways_20 : decode cX9_ways 20 = .ok (.lconst 0, 1) := by decide +kernel
theorem dX9_ways_21 : decode cX9_ways 21 = .ok (.ldc2_w 232, 3) := by decide +kernel
theorem dX9_ways_24 : decode cX9_ways 24 = .ok (.invokestatic 56, 3) := by decide +kernel
theorem dX9_ways_27 : decode cX9_ways 27 = .ok (.ifCond .ne 7, 3) := by decide +kernel
theorem dX9_ways_30 : decode cX9_ways 30 = .ok (.ldc2_w 234, 3) := by decide +kernel
theorem dX9_ways_33 : decode cX9_ways 33 = .ok (.lreturn, 1) := by decide +kernel
theorem dX9_ways_34 : decode cX9_ways 34 = .ok (.aload_n 0, 1) := by decide +kernel
theorem dX9_ways_35 : decode cX9_ways 35 = .ok (.iload_n 1, 1) := by decide +kernel
theorem dX9_ways_36 : decode cX9_ways 36 = .ok (.iload_n 2, 1) := by decide +kernel
theorem dX9_ways_37 : decode cX9_ways 37 = .ok (.aload_n 0, 1) := by decide +kernel
theorem dX9_ways_38 : decode cX9_ways 38 = .ok (.getfield 23, 3) := by decide +kernel
theorem dX9_ways_41 : decode cX9_ways 41 = .ok (.iconst 2, 1) := by decide +kernel
theorem dX9_ways_42 : decode cX9_ways 42 = .ok (.iaload, 1) := by decide +kernel
theorem dX9_ways_43 : decode cX9_ways 43 = .ok (.invokevirtual 211, 3) := by decide +kernel
theorem dX9_ways_46 : decode cX9_ways 46 = .ok (.istore 4, 2) := by decide +kernel
theorem dX9_ways_48 : decode cX9_ways 48 = .ok (.iload 4, 2) := by decide +kernel
theorem dX9_ways_50 : decode cX9_ways 50 = .ok (.ifCond .eq 11, 3) := by decide +kernel
theorem dX9_ways_53 : decode cX9_ways 53 = .ok (.aload_n 0, 1) := by decide +kernel
theorem dX9_ways_54 : decode cX9_ways 54 = .ok (.iload 4, 2) := by decide +kernel
theorem dX9_ways_56 : decode cX9_ways 56 = .ok (.invokevirtual 67, 3) := by decide +kernel
theorem dX9_ways_59 : decode cX9_ways 59 = .ok (.i2l, 1) := by decide +kernel
theorem dX9_ways_60 : decode cX9_ways 60 = .ok (.lreturn, 1) := by decide +kernel
theorem dX9_ways_61 : decode cX9_ways 61 = .ok (.aload_n 0, 1) := by decide +kernel
theorem dX9_ways_62 : decode cX9_ways 62 = .ok (.iconst 0, 1) := by decide +kernel
theorem dX9_ways_63 : decode cX9_ways 63 = .ok (.putfield 49, 3) := by decide +kernel
theorem dX9_ways_66 : decode cX9_ways 66 = .ok (.aload_n 0, 1) := by decide +kernel
theorem dX9_ways_67 : decode cX9_ways 67 = .ok (.iload_n 1, 1) := by decide +kernel
theorem dX9_ways_68 : decode cX9_ways 68 = .ok (.iload_n 2, 1) := by decide +kernel
theorem dX9_ways_69 : decode cX9_ways 69 = .ok (.invokevirtual 214, 3) := by decide +kernel
theorem dX9_ways_72 : decode cX9_ways 72 = .ok (.istore 5, 2) := by decide +kernel
theorem dX9_ways_74 : decode cX9_ways 74 = .ok (.iload 5, 2) := by decide +kernel
theorem dX9_ways_76 : decode cX9_ways 76 = .ok (.ifCond .ge 5, 3) := by decide +kernel
theorem dX9_ways_79 : decode cX9_ways 79 = .ok (.lconst 0, 1) := by decide +kernel
theorem dX9_ways_80 : decode cX9_ways 80 = .ok (.lreturn, 1) := by decide +kernel
theorem dX9_ways_81 : decode cX9_ways 81 = .ok (.aload_n 0, 1) := by decide +kernel
theorem dX9_ways_82 : decode cX9_ways 82 = .ok (.invokevirtual 236, 3) := by decide +kernel
theorem dX9_ways_85 : decode cX9_ways 85 = .ok (.iconst 0, 1) := by decide +kernel
theorem dX9_ways_86 : decode cX9_ways 86 = .ok (.istore 6, 2) := by decide +kernel
theorem dX9_ways_88 : decode cX9_ways 88 = .ok (.iload 6, 2) := by decide +kernel
theorem dX9_ways_90 : decode cX9_ways 90 = .ok (.iload_n 3, 1) := by decide +kernel
theorem dX9_ways_91 : decode cX9_ways 91 = .ok (.if_icmp .ge 14, 3) := by decide +kernel
theorem dX9_ways_94 : decode cX9_ways 94 = .ok (.aload_n 0, 1) := by decide +kernel
theorem dX9_ways_95 : decode cX9_ways 95 = .ok (.iconst 0, 1) := by decide +kernel
theorem dX9_ways_96 : decode cX9_ways 96 = .ok (.invokevirtual 239, 3) := by decide +kernel
theorem dX9_ways_99 : decode cX9_ways 99 = .ok (.iinc 6 1, 3) := by decide +kernel
theorem dX9_ways_102 : decode cX9_ways 102 = .ok (.goto (-14), 3) := by decide +kernel
theorem dX9_ways_105 : decode cX9_ways 105 = .ok (.aload_n 0, 1) := by decide +kernel
theorem dX9_ways_106 : decode cX9_ways 106 = .ok (.getfield 39, 3) := by decide +kernel
theorem dX9_ways_109 : decode cX9_ways 109 = .ok (.iload 5, 2) := by decide +kernel
theorem dX9_ways_111 : decode cX9_ways 111 = .ok (.laload, 1) := by decide +kernel
theorem dX9_ways_112 : decode cX9_ways 112 = .ok (.aload_n 0, 1) := by decide +kernel
theorem dX9_ways_113 : decode cX9_ways 113 = .ok (.getfield 39, 3) := by decide +kernel
theorem dX9_ways_116 : decode cX9_ways 116 = .ok (.iload 5, 2) := by decide +kernel
theorem dX9_ways_118 : decode cX9_ways 118 = .ok (.sipush 4096, 3) := by decide +kernel
theorem dX9_ways_121 : decode cX9_ways 121 = .ok (.iadd, 1) := by decide +kernel
theorem dX9_ways_122 : decode cX9_ways 122 = .ok (.laload, 1) := by decide +kernel
theorem dX9_ways_123 : decode cX9_ways 123 = .ok (.ladd, 1) := by decide +kernel
theorem dX9_ways_124 : decode cX9_ways 124 = .ok (.lreturn, 1) := by decide +kernel
def L_X9_ways_88 (N : Nat) (v0 : Nat) (v3 : Int32) (v5 : Int32) : Nat → Hp → Int32 → Option (Hp)
  | 0, _, _ => none
  | n + 1, σ, v6 =>
  if v3 ≤ v6 then
   some σ
  else
   (m_X9_stepWays N σ v0 0).bind fun r16 =>
  L_X9_ways_88 N v0 v3 v5 n r16 (v6 + 1)
def m_X9_ways (N : Nat) (σ : Hp) (t0 : Nat) (p1 : Int32) (p2 : Int32) (p3 : Int32) : Option (Int64 × Hp) :=
  (rv N σ t0 9).bind fun _ =>
  (m_X9_isBoard N σ t0).bind fun r1 =>
  if r1 = 0 then
   some ((-1000002), σ)
  else
   (m_X9_isRow p1).bind fun r3 =>
  if r3 = 0 then
   some ((-1000001), σ)
  else
   (m_X9_in p3.toInt64 0 12).bind fun r5 =>
  if r5 = 0 then
   some ((-1000001), σ)
  else
   (gR N σ t0 9 10).bind fun x7 =>
  (aI 0 N σ x7 2).bind fun x8 =>
  (m_X9_wrongOf N σ t0 p1 p2 x8).bind fun r9 =>
  if r9 = 0 then
   (pV N σ t0 9 3 (.int 0)).bind fun σ11 =>
  (m_X9_told N σ11 t0 p1 p2).bind fun r12 =>
  if 0 ≤ r12 then
   (m_X9_beginsWays N σ11 t0).bind fun r14 =>
  (L_X9_ways_88 N t0 p3 r12 fu r14 0).bind fun z17 =>
  (gR N z17 t0 9 17).bind fun x18 =>
  (aJ N z17 x18 r12).bind fun x19 =>
  (gR N z17 t0 9 17).bind fun x20 =>
  (aJ N z17 x20 (r12 + 4096)).bind fun x21 =>
  some (x19 + x21, z17)
  else
   some (0, σ11)
  else
   (m_X9_finds N σ t0 r9).bind fun r22 =>
  some (r22.1.toInt64, r22.2)
set_option maxHeartbeats 4000000 in
set_option maxRecDepth 100000 in
theorem lp_X9_ways_88 {κ : Kx} {ω : Om} (C : Cx κ 7 5 cX9_ways RX9 "ways") (Z : Zx κ ω) (v0 : Nat) (v3 : Int32) (v5 : Int32) {r : Hp} (hk : X κ 7 ω 105 [some (.ref v0), none, none, none, none, some (.int v5), none] [] r) : ∀ (n : Nat) (σ : Hp) (v6 : Int32), L_X9_ways_88 ω.1 v0 v3 v5 n σ v6 = some r → X κ 7 ω 88 [some (.ref v0), none, none, some (.int v3), none, some (.int v5), some (.int v6)] [] σ := by
  intro n
  induction n with
  | zero => intro σ v6 h; cases h
  | succ n ih =>
    intro σ v6 h
    rw [L_X9_ways_88.eq_2] at h
    refine x_iload C (i := 6) dX9_ways_88 rfl ?_
    refine x_iload_n C (i := 3) dX9_ways_90 rfl rfl ?_
    refine x_icmp_ge C (tgt := 105) dX9_ways_91 (by decide) (fun c15 => ?_) (fun c15 => ?_)
    · have h := ifP h c15
      refine x_wk [true, false, false, false, false, true, false] (lo' := [some (.ref v0), none, none, none, none, some (.int v5), none]) rfl ?_
      obtain rfl := Option.some.inj h
      exact hk
    · have h := ifN h c15
      refine x_aload_n C (i := 0) dX9_ways_94 rfl rfl ?_
      refine x_iconst C (v := 0) dX9_ways_95 (by decide) ?_
      obtain ⟨r16, er16, h⟩ := ob h
      refine x_callVn C Z mv_X9_stepWays lk_X9_239 (rv_h er16) (ct_X9_stepWays er16) (by decide) rfl rfl (Nat.le_of_ble_eq_true rfl) dX9_ways_96 ?_
      refine x_iinc C (i := 6) (y := v6 + 1) (lo' := [some (.ref v0), none, none, some (.int v3), none, some (.int v5), some (.int (v6 + 1))]) dX9_ways_99 rfl rfl (by decide) rfl rfl ?_
      refine x_goto C (tgt := 88) dX9_ways_102 (by decide) ?_
      refine x_wk [true, false, false, true, false, true, true] (lo' := [some (.ref v0), none, none, some (.int v3), none, some (.int v5), some (.int (v6 + 1))]) rfl ?_
      exact ih r16 (v6 + 1) h
set_option maxHeartbeats 4000000 in
set_option maxRecDepth 100000 in
theorem ct_X9_ways {l : Launch} {D : va_G} {cy : Nat → Nat} {N : Nat} {σ : Hp} {t0 : Nat} {p1 : Int32} {p2 : Int32} {p3 : Int32} {r : Int64 × Hp} (h : m_X9_ways N σ t0 p1 p2 p3 = some r) : Ct l D cy yX9_ways cX9_ways 7 (some .long) 5 [.ref t0, .int p1, .int p2, .int p3] N σ (fun v s' => v = (some (.long r.1)) ∧ s' = r.2) := by
  refine Ct.intro [some (.ref t0), some (.int p1), some (.int p2), some (.int p3), none, none, none] (by decide) rfl (Nat.le_of_ble_eq_true rfl) ?_
  intro κ ω e1 e2 e3 e4 C Z E
  subst e1; subst e2; subst e3; subst e4
  have C : Cx κ 7 5 cX9_ways RX9 "ways" := C
  have hE : ∀ x : Int64 × Hp, r = x → ((some (Value.long x.1)) = (some (Value.long r.1)) ∧ x.2 = r.2) := fun x hx => by subst hx; exact ⟨rfl, rfl⟩
  unfold m_X9_ways at h
  obtain ⟨_, _, h⟩ := ob h
  refine x_aload_n C (i := 0) dX9_ways_0 rfl rfl ?_
  obtain ⟨r1, er1, h⟩ := ob h
  refine x_callVr C Z mv_X9_isBoard lk_X9_183 (rv_h er1) (ct_X9_isBoard er1) (by decide) rfl rfl (Nat.le_of_ble_eq_true rfl) dX9_ways_1 ?_
  refine x_if_ne C (tgt := 11) dX9_ways_4 (by decide) (fun c2 => ?_) (fun c2 => ?_)
  · have h := ifN h c2
    refine x_iload_n C (i := 1) dX9_ways_11 rfl rfl ?_
    obtain ⟨r3, er3, h⟩ := ob h
    refine x_callSr C Z ms_X9_isRow lk_X9_60 (ct_X9_isRow (N := ω.1) (σ := σ) er3) (by decide) rfl rfl (Nat.le_of_ble_eq_true rfl) dX9_ways_12 ?_
    refine x_if_eq C (tgt := 30) dX9_ways_15 (by decide) (fun c4 => ?_) (fun c4 => ?_)
    · have h := ifP h c4
      refine x_ldc2 C kj_X9_234 dX9_ways_30 ?_
      exact x_lret C E dX9_ways_33 (hE ((-1000001), σ) (Option.some.inj h).symm)
    · have h := ifN h c4
      refine x_iload_n C (i := 3) dX9_ways_18 rfl rfl ?_
      refine x_i2l C dX9_ways_19 ?_
      refine x_lconst C (v := 0) dX9_ways_20 (by decide) ?_
      refine x_ldc2 C kj_X9_232 dX9_ways_21 ?_
      obtain ⟨r5, er5, h⟩ := ob h
      refine x_callSr C Z ms_X9_in lk_X9_56 (ct_X9_in (N := ω.1) (σ := σ) er5) (by decide) rfl rfl (Nat.le_of_ble_eq_true rfl) dX9_ways_24 ?_
      refine x_if_ne C (tgt := 34) dX9_ways_27 (by decide) (fun c6 => ?_) (fun c6 => ?_)
      · have h := ifN h c6
        refine x_aload_n C (i := 0) dX9_ways_34 rfl rfl ?_
        refine x_iload_n C (i := 1) dX9_ways_35 rfl rfl ?_
        refine x_iload_n C (i := 2) dX9_ways_36 rfl rfl ?_
        refine x_aload_n C (i := 0) dX9_ways_37 rfl rfl ?_
        obtain ⟨x7, ex7, h⟩ := ob h
        refine x_getR C fl_X9_23 dX9_ways_38 ex7 ?_
        refine x_iconst C (v := 2) dX9_ways_41 (by decide) ?_
        obtain ⟨x8, ex8, h⟩ := ob h
        refine x_iald C dX9_ways_42 ex8 ?_
        obtain ⟨r9, er9, h⟩ := ob h
        refine x_callVr C Z mv_X9_wrongOf lk_X9_211 (rv_h er9) (ct_X9_wrongOf er9) (by decide) rfl rfl (Nat.le_of_ble_eq_true rfl) dX9_ways_43 ?_
        refine x_istore C (i := 4) (lo' := [some (.ref t0), some (.int p1), some (.int p2), some (.int p3), some (.int r9), none, none]) dX9_ways_46 (by decide) rfl rfl ?_
        refine x_iload C (i := 4) dX9_ways_48 rfl ?_
        refine x_if_eq C (tgt := 61) dX9_ways_50 (by decide) (fun c10 => ?_) (fun c10 => ?_)
        · have h := ifP h c10
          refine x_aload_n C (i := 0) dX9_ways_61 rfl rfl ?_
          refine x_iconst C (v := 0) dX9_ways_62 (by decide) ?_
          obtain ⟨σ11, eσ11, h⟩ := ob h
          refine x_put C pl_X9_49 dX9_ways_63 (fun _ => ⟨rfl, rfl⟩) eσ11 ?_
          refine x_aload_n C (i := 0) dX9_ways_66 rfl rfl ?_
          refine x_iload_n C (i := 1) dX9_ways_67 rfl rfl ?_
          refine x_iload_n C (i := 2) dX9_ways_68 rfl rfl ?_
          obtain ⟨r12, er12, h⟩ := ob h
          refine x_callVr C Z mv_X9_told lk_X9_214 (rv_h er12) (ct_X9_told er12) (by decide) rfl rfl (Nat.le_of_ble_eq_true rfl) dX9_ways_69 ?_
          refine x_istore C (i := 5) (lo' := [some (.ref t0), some (.int p1), some (.int p2), some (.int p3), some (.int r9), some (.int r12), none]) dX9_ways_72 (by decide) rfl rfl ?_
          refine x_iload C (i := 5) dX9_ways_74 rfl ?_
          refine x_if_ge C (tgt := 81) dX9_ways_76 (by decide) (fun c13 => ?_) (fun c13 => ?_)
          · have h := ifP h c13
            refine x_aload_n C (i := 0) dX9_ways_81 rfl rfl ?_
            obtain ⟨r14, er14, h⟩ := ob h
            refine x_callVn C Z mv_X9_beginsWays lk_X9_236 (rv_h er14) (ct_X9_beginsWays er14) (by decide) rfl rfl (Nat.le_of_ble_eq_true rfl) dX9_ways_82 ?_
            refine x_iconst C (v := 0) dX9_ways_85 (by decide) ?_
            refine x_istore C (i := 6) (lo' := [some (.ref t0), some (.int p1), some (.int p2), some (.int p3), some (.int r9), some (.int r12), some (.int 0)]) dX9_ways_86 (by decide) rfl rfl ?_
            obtain ⟨z17, ez17, h⟩ := ob h
            refine x_wk [true, false, false, true, false, true, true] (lo' := [some (.ref t0), none, none, some (.int p3), none, some (.int r12), some (.int 0)]) rfl ?_
            refine lp_X9_ways_88 C Z t0 p3 r12 ?_ _ r14 0 ez17
            refine x_aload_n C (i := 0) dX9_ways_105 rfl rfl ?_
            obtain ⟨x18, ex18, h⟩ := ob h
            refine x_getR C fl_X9_39 dX9_ways_106 ex18 ?_
            refine x_iload C (i := 5) dX9_ways_109 rfl ?_
            obtain ⟨x19, ex19, h⟩ := ob h
            refine x_lald C dX9_ways_111 ex19 ?_
            refine x_aload_n C (i := 0) dX9_ways_112 rfl rfl ?_
            obtain ⟨x20, ex20, h⟩ := ob h
            refine x_getR C fl_X9_39 dX9_ways_113 ex20 ?_
            refine x_iload C (i := 5) dX9_ways_116 rfl ?_
            refine x_sipush C (v := 4096) dX9_ways_118 (by decide) ?_
            refine x_iadd C dX9_ways_121 ?_
            obtain ⟨x21, ex21, h⟩ := ob h
            refine x_lald C dX9_ways_122 ex21 ?_
            refine x_ladd C dX9_ways_123 ?_
            exact x_lret C E dX9_ways_124 (hE (x19 + x21, z17) (Option.some.inj h).symm)
          · have h := ifN h c13
            refine x_lconst C (v := 0) dX9_ways_79 (by decide) ?_
            exact x_lret C E dX9_ways_80 (hE (0, σ11) (Option.some.inj h).symm)
        · have h := ifN h c10
          refine x_aload_n C (i := 0) dX9_ways_53 rfl rfl ?_
          refine x_iload C (i := 4) dX9_ways_54 rfl ?_
          obtain ⟨r22, er22, h⟩ := ob h
          refine x_callVr C Z mv_X9_finds lk_X9_67 (rv_h er22) (ct_X9_finds er22) (by decide) rfl rfl (Nat.le_of_ble_eq_true rfl) dX9_ways_56 ?_
          refine x_i2l C dX9_ways_59 ?_
          exact x_lret C E dX9_ways_60 (hE (r22.1.toInt64, r22.2) (Option.some.inj h).symm)
      · have h := ifP h c6
        refine x_ldc2 C kj_X9_234 dX9_ways_30 ?_
        exact x_lret C E dX9_ways_33 (hE ((-1000001), σ) (Option.some.inj h).symm)
  · have h := ifP h c2
    refine x_ldc2 C kj_X9_230 dX9_ways_7 ?_
    exact x_lret C E dX9_ways_10 (hE ((-1000002), σ) (Option.some.inj h).symm)
theorem dX9_judged_0 : decode cX9_judged 0 = .ok (.iload 4, 2) := by decide +kernel
theorem dX9_judged_2 : decode cX9_judged 2 = .ok (.istore 5, 2) := by decide +kernel
theorem dX9_judged_4 : decode cX9_judged 4 = .ok (.iconst 0, 1) := by decide +kernel
theorem dX9_judged_5 : decode cX9_judged 5 = .ok (.istore 6, 2) := by decide +kernel
theorem dX9_judged_7 : decode cX9_judged 7 = .ok (.iload 6, 2) := by decide +kernel
theorem dX9_judged_9 : decode cX9_judged 9 = .ok (.iload_n 3, 1) := by decide +kernel
theorem dX9_judged_10 : decode cX9_judged 10 = .ok (.if_icmp .ge 104, 3) := by decide +kernel
theorem dX9_judged_13 : decode cX9_judged 13 = .ok (.aload_n 0, 1) := by decide +kernel
theorem dX9_judged_14 : decode cX9_judged 14 = .ok (.getfield 7, 3) := by decide +kernel
theorem dX9_judged_17 : decode cX9_judged 17 = .ok (.bipush 40, 2) := by decide +kernel
theorem dX9_judged_19 : decode cX9_judged 19 = .ok (.iload_n 1, 1) := by decide +kernel
theorem dX9_judged_20 : decode cX9_judged 20 = .ok (.imul, 1) := by decide +kernel
theorem dX9_judged_21 : decode cX9_judged 21 = .ok (.iload_n 2, 1) := by decide +kernel
theorem dX9_judged_22 : decode cX9_judged 22 = .ok (.iadd, 1) := by decide +kernel
theorem dX9_judged_23 : decode cX9_judged 23 = .ok (.iload 6, 2) := by decide +kernel
theorem dX9_judged_25 : decode cX9_judged 25 = .ok (.iadd, 1) := by decide +kernel
theorem dX9_judged_26 : decode cX9_judged 26 = .ok (.iaload, 1) := by decide +kernel
theorem dX9_judged_27 : decode cX9_judged 27 = .ok (.istore 7, 2) := by decide +kernel
theorem dX9_judged_29 : decode cX9_judged 29 = .ok (.iload 7, 2) := by decide +kernel
theorem dX9_judged_31 : decode cX9_judged 31 = .ok (.ifCond .ge 7, 3) := by decide +kernel
theorem dX9_judged_34 : decode cX9_judged 34 = .ok (.iconst (-1), 1) := by decide +kernel
theorem dX9_judged_35 : decode cX9_judged 35 = .ok (.goto 8, 3) := by decide +kernel
theorem dX9_judged_38 : decode cX9_judged 38 = .ok (.iload 7, 2) := by decide +kernel
theorem dX9_judged_40 : decode cX9_judged 40 = .ok (.bipush 10, 2) := by decide +kernel
theorem dX9_judged_42 : decode cX9_judged 42 = .ok (.idiv, 1) := by decide +kernel
theorem dX9_judged_43 : decode cX9_judged 43 = .ok (.istore 8, 2) := by decide +kernel
theorem dX9_judged_45 : decode cX9_judged 45 = .ok (.iload 7, 2) := by decide +kernel
theorem dX9_judged_47 : decode cX9_judged 47 = .ok (.bipush 10, 2) := by decide +kernel
theorem dX9_judged_49 : decode cX9_judged 49 = .ok (.irem, 1) := by decide +kernel
theorem dX9_judged_50 : decode cX9_judged 50 = .ok (.istore 9, 2) := by decide +kernel
theorem dX9_judged_52 : decode cX9_judged 52 = .ok (.aload_n 0, 1) := by decide +kernel
theorem dX9_judged_53 : decode cX9_judged 53 = .ok (.iload 8, 2) := by decide +kernel
theorem dX9_judged_55 : decode cX9_judged 55 = .ok (.invokevirtual 163, 3) := by decide +kernel
theorem dX9_judged_58 : decode cX9_judged 58 = .ok (.ifCond .eq 25, 3) := by decide +kernel
theorem dX9_judged_61 : decode cX9_judged 61 = .ok (.aload_n 0, 1) := by decide +kernel
theorem dX9_judged_62 : decode cX9_judged 62 = .ok (.iload 9, 2) := by decide +kernel
theorem dX9_judged_64 : decode cX9_judged 64 = .ok (.invokevirtual 163, 3) := by decide +kernel
theorem dX9_judged_67 : decode cX9_judged 67 = .ok (.ifCond .eq 16, 3) := by decide +kernel
theorem dX9_judged_70 : decode cX9_judged 70 = .ok (.aload_n 0, 1) := by decide +kernel
theorem dX9_judged_71 : decode cX9_judged 71 = .ok (.iload 5, 2) := by decide +kernel
theorem dX9_judged_73 : decode cX9_judged 73 = .ok (.iload 8, 2) := by decide +kernel
theorem dX9_judged_75 : decode cX9_judged 75 = .ok (.iload 9, 2) := by decide +kernel
theorem dX9_judged_77 : decode cX9_judged 77 = .ok (.invokevirtual 173, 3) := by decide +kernel
theorem dX9_judged_80 : decode cX9_judged 80 = .ok (.goto 5, 3) := by decide +kernel
theorem dX9_judged_83 : decode cX9_judged 83 = .ok (.bipush 6, 2) := by decide +kernel
theorem dX9_judged_85 : decode cX9_judged 85 = .ok (.istore 10, 2) := by decide +kernel
theorem dX9_judged_87 : decode cX9_judged 87 = .ok (.iload 10, 2) := by decide +kernel
theorem dX9_judged_89 : decode cX9_judged 89 = .ok (.bipush 6, 2) := by decide +kernel
theorem dX9_judged_91 : decode cX9_judged 91 = .ok (.if_icmp .ne 6, 3) := by decide +kernel
theorem dX9_judged_94 : decode cX9_judged 94 = .ok (.iload 6, 2) := by decide +kernel
theorem dX9_judged_96 : decode cX9_judged 96 = .ok (.ireturn, 1) := by decide +kernel
theorem dX9_judged_97 : decode cX9_judged 97 = .ok (.iload 5, 2) := by decide +kernel
theorem dX9_judged_99 : decode cX9_judged 99 = .ok (.iload 10, 2) := by decide +kernel
theorem dX9_judged_101 : decode cX9_judged 101 = .ok (.iload 9, 2) := by decide +kernel
theorem dX9_judged_103 : decode cX9_judged 103 = .ok (.invokestatic 193, 3) := by decide +kernel
theorem dX9_judged_106 : decode cX9_judged 106 = .ok (.istore 5, 2) := by decide +kernel
theorem dX9_judged_108 : decode cX9_judged 108 = .ok (.iinc 6 1, 3) := by decide +kernel
theorem dX9_judged_111 : decode cX9_judged 111 = .ok (.goto (-104), 3) := by decide +kernel
theorem dX9_judged_114 : decode cX9_judged 114 = .ok (.ldc 189, 2) := by decide +kernel
theorem dX9_judged_116 : decode cX9_judged 116 = .ok (.ireturn, 1) := by decide +kernel
def L_X9_judged_7 (N : Nat) (σ : Hp) (v0 : Nat) (v1 : Int32) (v2 : Int32) (v3 : Int32) : Nat → Int32 → Int32 → Option ((Unit) ⊕ (Int32))
  | 0, _, _ => none
  | n + 1, v5, v6 =>
  if v3 ≤ v6 then
   some (.inl ())
  else
   (gR N σ v0 9 0).bind fun x2 =>
  (aI 0 N σ x2 ((((40 : Int32) * v1) + v2) + v6)).bind fun x3 =>
  ((if 0 ≤ x3 then
   some (x3 / 10)
  else
   some (-1)) : Option (Int32)).bind fun z4 =>
  (m_X9_isPeg N σ v0 z4).bind fun r5 =>
  ((if r5 = 0 then
   some 6
  else
   (m_X9_isPeg N σ v0 (x3 - x3 / 10 * 10)).bind fun r12 =>
  if r12 = 0 then
   some 6
  else
   (m_X9_mover N σ v0 v5 z4 (x3 - x3 / 10 * 10)).bind fun r14 =>
  some r14) : Option (Int32)).bind fun z6 =>
  if z6 = 6 then
   some (.inr v6)
  else
   (m_X9_moved v5 z6 (x3 - x3 / 10 * 10)).bind fun r8 =>
  L_X9_judged_7 N σ v0 v1 v2 v3 n r8 (v6 + 1)
def m_X9_judged (N : Nat) (σ : Hp) (t0 : Nat) (p1 : Int32) (p2 : Int32) (p3 : Int32) (p4 : Int32) : Option (Int32) :=
  (rv N σ t0 9).bind fun _ =>
  (L_X9_judged_7 N σ t0 p1 p2 p3 fu p4 0).bind fun z18 =>
  cS z18 (fun w19 => some (-1000000)) (fun q20 => some q20)
set_option maxHeartbeats 4000000 in
set_option maxRecDepth 100000 in
theorem lp_X9_judged_7 {κ : Kx} {ω : Om} (C : Cx κ 11 3 cX9_judged RX9 "judged") (Z : Zx κ ω) {Post : Option Value → Hp → Prop} (E : Rt κ ω (some .int) Post) (σ : Hp) (v0 : Nat) (v1 : Int32) (v2 : Int32) (v3 : Int32) {r : (Unit) ⊕ (Int32)} (hE : ∀ x : Int32, r = .inr x → Post (some (.int x)) σ) (hk : ∀ u, r = .inl u → X κ 11 ω 114 [none, none, none, none, none, none, none, none, none, none, none] [] σ) : ∀ (n : Nat) (v5 : Int32) (v6 : Int32), L_X9_judged_7 ω.1 σ v0 v1 v2 v3 n v5 v6 = some r → X κ 11 ω 7 [some (.ref v0), some (.int v1), some (.int v2), some (.int v3), none, some (.int v5), some (.int v6), none, none, none, none] [] σ := by
  intro n
  induction n with
  | zero => intro v5 v6 h; cases h
  | succ n ih =>
    intro v5 v6 h
    rw [L_X9_judged_7.eq_2] at h
    refine x_iload C (i := 6) dX9_judged_7 rfl ?_
    refine x_iload_n C (i := 3) dX9_judged_9 rfl rfl ?_
    refine x_icmp_ge C (tgt := 114) dX9_judged_10 (by decide) (fun c1 => ?_) (fun c1 => ?_)
    · have h := ifP h c1
      refine x_wk [false, false, false, false, false, false, false, false, false, false, false] (lo' := [none, none, none, none, none, none, none, none, none, none, none]) rfl ?_
      exact hk _ (Option.some.inj h).symm
    · have h := ifN h c1
      refine x_aload_n C (i := 0) dX9_judged_13 rfl rfl ?_
      obtain ⟨x2, ex2, h⟩ := ob h
      refine x_getR C fl_X9_7 dX9_judged_14 ex2 ?_
      refine x_bipush C (v := 40) dX9_judged_17 (by decide) ?_
      refine x_iload_n C (i := 1) dX9_judged_19 rfl rfl ?_
      refine x_imul C dX9_judged_20 ?_
      refine x_iload_n C (i := 2) dX9_judged_21 rfl rfl ?_
      refine x_iadd C dX9_judged_22 ?_
      refine x_iload C (i := 6) dX9_judged_23 rfl ?_
      refine x_iadd C dX9_judged_25 ?_
      obtain ⟨x3, ex3, h⟩ := ob h
      refine x_iald C dX9_judged_26 ex3 ?_
      refine x_istore C (i := 7) (lo' := [some (.ref v0), some (.int v1), some (.int v2), some (.int v3), none, some (.int v5), some (.int v6), some (.int x3), none, none, none]) dX9_judged_27 (by decide) rfl rfl ?_
      refine x_iload C (i := 7) dX9_judged_29 rfl ?_
      obtain ⟨z4, hz4, h⟩ := ob h
      have hJ15 : X κ 11 ω 43 [some (.ref v0), some (.int v1), some (.int v2), some (.int v3), none, some (.int v5), some (.int v6), some (.int x3), none, none, none] [.int z4] σ := by
        refine x_istore C (i := 8) (lo' := [some (.ref v0), some (.int v1), some (.int v2), some (.int v3), none, some (.int v5), some (.int v6), some (.int x3), some (.int z4), none, none]) dX9_judged_43 (by decide) rfl rfl ?_
        refine x_iload C (i := 7) dX9_judged_45 rfl ?_
        refine x_bipush C (v := 10) dX9_judged_47 (by decide) ?_
        refine x_irem C dX9_judged_49 (by decide) ?_
        refine x_istore C (i := 9) (lo' := [some (.ref v0), some (.int v1), some (.int v2), some (.int v3), none, some (.int v5), some (.int v6), some (.int x3), some (.int z4), some (.int (x3 - x3 / 10 * 10)), none]) dX9_judged_50 (by decide) rfl rfl ?_
        refine x_aload_n C (i := 0) dX9_judged_52 rfl rfl ?_
        refine x_iload C (i := 8) dX9_judged_53 rfl ?_
        obtain ⟨r5, er5, h⟩ := ob h
        refine x_callVr C Z mv_X9_isPeg lk_X9_163 (rv_h er5) (ct_X9_isPeg er5) (by decide) rfl rfl (Nat.le_of_ble_eq_true rfl) dX9_judged_55 ?_
        obtain ⟨z6, hz6, h⟩ := ob h
        have hJ9 : X κ 11 ω 85 [some (.ref v0), some (.int v1), some (.int v2), some (.int v3), none, some (.int v5), some (.int v6), none, none, some (.int (x3 - x3 / 10 * 10)), none] [.int z6] σ := by
          refine x_istore C (i := 10) (lo' := [some (.ref v0), some (.int v1), some (.int v2), some (.int v3), none, some (.int v5), some (.int v6), none, none, some (.int (x3 - x3 / 10 * 10)), some (.int z6)]) dX9_judged_85 (by decide) rfl rfl ?_
          refine x_iload C (i := 10) dX9_judged_87 rfl ?_
          refine x_bipush C (v := 6) dX9_judged_89 (by decide) ?_
          refine x_icmp_ne C (tgt := 97) dX9_judged_91 (by decide) (fun c7 => ?_) (fun c7 => ?_)
          · have h := ifN h c7
            refine x_iload C (i := 5) dX9_judged_97 rfl ?_
            refine x_iload C (i := 10) dX9_judged_99 rfl ?_
            refine x_iload C (i := 9) dX9_judged_101 rfl ?_
            obtain ⟨r8, er8, h⟩ := ob h
            refine x_callSr C Z ms_X9_moved lk_X9_193 (ct_X9_moved (N := ω.1) (σ := σ) er8) (by decide) rfl rfl (Nat.le_of_ble_eq_true rfl) dX9_judged_103 ?_
            refine x_istore C (i := 5) (lo' := [some (.ref v0), some (.int v1), some (.int v2), some (.int v3), none, some (.int r8), some (.int v6), none, none, some (.int (x3 - x3 / 10 * 10)), some (.int z6)]) dX9_judged_106 (by decide) rfl rfl ?_
            refine x_iinc C (i := 6) (y := v6 + 1) (lo' := [some (.ref v0), some (.int v1), some (.int v2), some (.int v3), none, some (.int r8), some (.int (v6 + 1)), none, none, some (.int (x3 - x3 / 10 * 10)), some (.int z6)]) dX9_judged_108 rfl rfl (by decide) rfl rfl ?_
            refine x_goto C (tgt := 7) dX9_judged_111 (by decide) ?_
            refine x_wk [true, true, true, true, false, true, true, false, false, false, false] (lo' := [some (.ref v0), some (.int v1), some (.int v2), some (.int v3), none, some (.int r8), some (.int (v6 + 1)), none, none, none, none]) rfl ?_
            exact ih r8 (v6 + 1) h
          · have h := ifP h c7
            refine x_iload C (i := 6) dX9_judged_94 rfl ?_
            exact x_iret C E dX9_judged_96 (hE v6 (Option.some.inj h).symm)
        clear h
        have h := hz6
        refine x_if_eq C (tgt := 83) dX9_judged_58 (by decide) (fun c11 => ?_) (fun c11 => ?_)
        · have h := ifP h c11
          refine x_bipush C (v := 6) dX9_judged_83 (by decide) ?_
          refine x_wk [true, true, true, true, false, true, true, false, false, true, false] (lo' := [some (.ref v0), some (.int v1), some (.int v2), some (.int v3), none, some (.int v5), some (.int v6), none, none, some (.int (x3 - x3 / 10 * 10)), none]) rfl ?_
          obtain rfl := Option.some.inj h
          exact hJ9
        · have h := ifN h c11
          refine x_aload_n C (i := 0) dX9_judged_61 rfl rfl ?_
          refine x_iload C (i := 9) dX9_judged_62 rfl ?_
          obtain ⟨r12, er12, h⟩ := ob h
          refine x_callVr C Z mv_X9_isPeg lk_X9_163 (rv_h er12) (ct_X9_isPeg er12) (by decide) rfl rfl (Nat.le_of_ble_eq_true rfl) dX9_judged_64 ?_
          refine x_if_eq C (tgt := 83) dX9_judged_67 (by decide) (fun c13 => ?_) (fun c13 => ?_)
          · have h := ifP h c13
            refine x_bipush C (v := 6) dX9_judged_83 (by decide) ?_
            refine x_wk [true, true, true, true, false, true, true, false, false, true, false] (lo' := [some (.ref v0), some (.int v1), some (.int v2), some (.int v3), none, some (.int v5), some (.int v6), none, none, some (.int (x3 - x3 / 10 * 10)), none]) rfl ?_
            obtain rfl := Option.some.inj h
            exact hJ9
          · have h := ifN h c13
            refine x_aload_n C (i := 0) dX9_judged_70 rfl rfl ?_
            refine x_iload C (i := 5) dX9_judged_71 rfl ?_
            refine x_iload C (i := 8) dX9_judged_73 rfl ?_
            refine x_iload C (i := 9) dX9_judged_75 rfl ?_
            obtain ⟨r14, er14, h⟩ := ob h
            refine x_callVr C Z mv_X9_mover lk_X9_173 (rv_h er14) (ct_X9_mover er14) (by decide) rfl rfl (Nat.le_of_ble_eq_true rfl) dX9_judged_77 ?_
            refine x_goto C (tgt := 85) dX9_judged_80 (by decide) ?_
            refine x_wk [true, true, true, true, false, true, true, false, false, true, false] (lo' := [some (.ref v0), some (.int v1), some (.int v2), some (.int v3), none, some (.int v5), some (.int v6), none, none, some (.int (x3 - x3 / 10 * 10)), none]) rfl ?_
            obtain rfl := Option.some.inj h
            exact hJ9
      clear h
      have h := hz4
      refine x_if_ge C (tgt := 38) dX9_judged_31 (by decide) (fun c17 => ?_) (fun c17 => ?_)
      · have h := ifP h c17
        refine x_iload C (i := 7) dX9_judged_38 rfl ?_
        refine x_bipush C (v := 10) dX9_judged_40 (by decide) ?_
        refine x_idiv C dX9_judged_42 (by decide) ?_
        refine x_wk [true, true, true, true, false, true, true, true, false, false, false] (lo' := [some (.ref v0), some (.int v1), some (.int v2), some (.int v3), none, some (.int v5), some (.int v6), some (.int x3), none, none, none]) rfl ?_
        obtain rfl := Option.some.inj h
        exact hJ15
      · have h := ifN h c17
        refine x_iconst C (v := (-1)) dX9_judged_34 (by decide) ?_
        refine x_goto C (tgt := 43) dX9_judged_35 (by decide) ?_
        refine x_wk [true, true, true, true, false, true, true, true, false, false, false] (lo' := [some (.ref v0), some (.int v1), some (.int v2), some (.int v3), none, some (.int v5), some (.int v6), some (.int x3), none, none, none]) rfl ?_
        obtain rfl := Option.some.inj h
        exact hJ15
set_option maxHeartbeats 4000000 in
set_option maxRecDepth 100000 in
theorem ct_X9_judged {l : Launch} {D : va_G} {cy : Nat → Nat} {N : Nat} {σ : Hp} {t0 : Nat} {p1 : Int32} {p2 : Int32} {p3 : Int32} {p4 : Int32} {r : Int32} (h : m_X9_judged N σ t0 p1 p2 p3 p4 = some r) : Ct l D cy yX9_judged cX9_judged 11 (some .int) 3 [.ref t0, .int p1, .int p2, .int p3, .int p4] N σ (fun v s' => v = (some (.int r)) ∧ s' = σ) := by
  refine Ct.intro [some (.ref t0), some (.int p1), some (.int p2), some (.int p3), some (.int p4), none, none, none, none, none, none] (by decide) rfl (Nat.le_of_ble_eq_true rfl) ?_
  intro κ ω e1 e2 e3 e4 C Z E
  subst e1; subst e2; subst e3; subst e4
  have C : Cx κ 11 3 cX9_judged RX9 "judged" := C
  have hE : ∀ x : Int32, r = x → ((some (Value.int x)) = (some (Value.int r)) ∧ σ = σ) := fun x hx => by subst hx; exact ⟨rfl, rfl⟩
  unfold m_X9_judged at h
  obtain ⟨_, _, h⟩ := ob h
  refine x_iload C (i := 4) dX9_judged_0 rfl ?_
  refine x_istore C (i := 5) (lo' := [some (.ref t0), some (.int p1), some (.int p2), some (.int p3), some (.int p4), some (.int p4), none, none, none, none, none]) dX9_judged_2 (by decide) rfl rfl ?_
  refine x_iconst C (v := 0) dX9_judged_4 (by decide) ?_
  refine x_istore C (i := 6) (lo' := [some (.ref t0), some (.int p1), some (.int p2), some (.int p3), some (.int p4), some (.int p4), some (.int 0), none, none, none, none]) dX9_judged_5 (by decide) rfl rfl ?_
  obtain ⟨z18, ez18, h⟩ := ob h
  refine x_wk [true, true, true, true, false, true, true, false, false, false, false] (lo' := [some (.ref t0), some (.int p1), some (.int p2), some (.int p3), none, some (.int p4), some (.int 0), none, none, none, none]) rfl ?_
  refine lp_X9_judged_7 C Z E σ t0 p1 p2 p3 (fun q20 hx => by subst hx; have h := cS_r h; exact hE q20 (Option.some.inj h).symm) (fun w19 hu => ?_) _ p4 0 ez18
  subst hu
  have h := cS_l h
  refine x_ldc C kc_X9_189 dX9_judged_114 ?_
  exact x_iret C E dX9_judged_116 (hE (-1000000) (Option.some.inj h).symm)
theorem dX9_judge_0 : decode cX9_judge 0 = .ok (.aload_n 0, 1) := by decide +kernel
theorem dX9_judge_1 : decode cX9_judge 1 = .ok (.invokevirtual 183, 3) := by decide +kernel
theorem dX9_judge_4 : decode cX9_judge 4 = .ok (.ifCond .ne 6, 3) := by decide +kernel
theorem dX9_judge_7 : decode cX9_judge 7 = .ok (.ldc 176, 2) := by decide +kernel
theorem dX9_judge_9 : decode cX9_judge 9 = .ok (.ireturn, 1) := by decide +kernel
theorem dX9_judge_10 : decode cX9_judge 10 = .ok (.iload_n 1, 1) := by decide +kernel
theorem dX9_judge_11 : decode cX9_judge 11 = .ok (.invokestatic 60, 3) := by decide +kernel
theorem dX9_judge_14 : decode cX9_judge 14 = .ok (.ifCond .eq 15, 3) := by decide +kernel
theorem dX9_judge_17 : decode cX9_judge 17 = .ok (.iload_n 3, 1) := by decide +kernel
theorem dX9_judge_18 : decode cX9_judge 18 = .ok (.i2l, 1) := by decide +kernel
theorem dX9_judge_19 : decode cX9_judge 19 = .ok (.lconst 1, 1) := by decide +kernel
theorem dX9_judge_20 : decode cX9_judge 20 = .ok (.ldc2_w 243, 3) := by decide +kernel
theorem dX9_judge_23 : decode cX9_judge 23 = .ok (.invokestatic 56, 3) := by decide +kernel
theorem dX9_judge_26 : decode cX9_judge 26 = .ok (.ifCond .ne 6, 3) := by decide +kernel
theorem dX9_judge_29 : decode cX9_judge 29 = .ok (.ldc 66, 2) := by decide +kernel
theorem dX9_judge_31 : decode cX9_judge 31 = .ok (.ireturn, 1) := by decide +kernel
theorem dX9_judge_32 : decode cX9_judge 32 = .ok (.aload_n 0, 1) := by decide +kernel
theorem dX9_judge_33 : decode cX9_judge 33 = .ok (.iload_n 1, 1) := by decide +kernel
theorem dX9_judge_34 : decode cX9_judge 34 = .ok (.iload_n 2, 1) := by decide +kernel
theorem dX9_judge_35 : decode cX9_judge 35 = .ok (.iload_n 3, 1) := by decide +kernel
theorem dX9_judge_36 : decode cX9_judge 36 = .ok (.invokevirtual 211, 3) := by decide +kernel
theorem dX9_judge_39 : decode cX9_judge 39 = .ok (.istore 4, 2) := by decide +kernel
theorem dX9_judge_41 : decode cX9_judge 41 = .ok (.iload 4, 2) := by decide +kernel
theorem dX9_judge_43 : decode cX9_judge 43 = .ok (.ifCond .eq 10, 3) := by decide +kernel
theorem dX9_judge_46 : decode cX9_judge 46 = .ok (.aload_n 0, 1) := by decide +kernel
theorem dX9_judge_47 : decode cX9_judge 47 = .ok (.iload 4, 2) := by decide +kernel
theorem dX9_judge_49 : decode cX9_judge 49 = .ok (.invokevirtual 67, 3) := by decide +kernel
theorem dX9_judge_52 : decode cX9_judge 52 = .ok (.ireturn, 1) := by decide +kernel
theorem dX9_judge_53 : decode cX9_judge 53 = .ok (.aload_n 0, 1) := by decide +kernel
theorem dX9_judge_54 : decode cX9_judge 54 = .ok (.invokevirtual 166, 3) := by decide +kernel
theorem dX9_judge_57 : decode cX9_judge 57 = .ok (.aload_n 0, 1) := by decide +kernel
theorem dX9_judge_58 : decode cX9_judge 58 = .ok (.aload_n 0, 1) := by decide +kernel
theorem dX9_judge_59 : decode cX9_judge 59 = .ok (.iload_n 1, 1) := by decide +kernel
theorem dX9_judge_60 : decode cX9_judge 60 = .ok (.iload_n 2, 1) := by decide +kernel
theorem dX9_judge_61 : decode cX9_judge 61 = .ok (.iload_n 3, 1) := by decide +kernel
theorem dX9_judge_62 : decode cX9_judge 62 = .ok (.aload_n 0, 1) := by decide +kernel
theorem dX9_judge_63 : decode cX9_judge 63 = .ok (.invokevirtual 169, 3) := by decide +kernel
theorem dX9_judge_66 : decode cX9_judge 66 = .ok (.invokevirtual 245, 3) := by decide +kernel
theorem dX9_judge_69 : decode cX9_judge 69 = .ok (.invokevirtual 71, 3) := by decide +kernel
theorem dX9_judge_72 : decode cX9_judge 72 = .ok (.ireturn, 1) := by decide +kernel
def m_X9_judge (N : Nat) (σ : Hp) (t0 : Nat) (p1 : Int32) (p2 : Int32) (p3 : Int32) : Option (Int32 × Hp) :=
  (rv N σ t0 9).bind fun _ =>
  (m_X9_isBoard N σ t0).bind fun r1 =>
  if r1 = 0 then
   some ((-1000002), σ)
  else
   (m_X9_isRow p1).bind fun r3 =>
  if r3 = 0 then
   some ((-1000001), σ)
  else
   (m_X9_in p3.toInt64 1 16).bind fun r5 =>
  if r5 = 0 then
   some ((-1000001), σ)
  else
   (m_X9_wrongOf N σ t0 p1 p2 p3).bind fun r7 =>
  if r7 = 0 then
   (m_X9_asTold N σ t0).bind fun r9 =>
  (m_X9_state N r9 t0).bind fun r10 =>
  (m_X9_judged N r9 t0 p1 p2 p3 r10).bind fun r11 =>
  (m_X9_good N r9 t0 r11).bind fun r12 =>
  some (r12.1, r12.2)
  else
   (m_X9_finds N σ t0 r7).bind fun r13 =>
  some (r13.1, r13.2)
set_option maxHeartbeats 4000000 in
set_option maxRecDepth 100000 in
theorem ct_X9_judge {l : Launch} {D : va_G} {cy : Nat → Nat} {N : Nat} {σ : Hp} {t0 : Nat} {p1 : Int32} {p2 : Int32} {p3 : Int32} {r : Int32 × Hp} (h : m_X9_judge N σ t0 p1 p2 p3 = some r) : Ct l D cy yX9_judge cX9_judge 5 (some .int) 4 [.ref t0, .int p1, .int p2, .int p3] N σ (fun v s' => v = (some (.int r.1)) ∧ s' = r.2) := by
  refine Ct.intro [some (.ref t0), some (.int p1), some (.int p2), some (.int p3), none] (by decide) rfl (Nat.le_of_ble_eq_true rfl) ?_
  intro κ ω e1 e2 e3 e4 C Z E
  subst e1; subst e2; subst e3; subst e4
  have C : Cx κ 5 4 cX9_judge RX9 "judge" := C
  have hE : ∀ x : Int32 × Hp, r = x → ((some (Value.int x.1)) = (some (Value.int r.1)) ∧ x.2 = r.2) := fun x hx => by subst hx; exact ⟨rfl, rfl⟩
  unfold m_X9_judge at h
  obtain ⟨_, _, h⟩ := ob h
  refine x_aload_n C (i := 0) dX9_judge_0 rfl rfl ?_
  obtain ⟨r1, er1, h⟩ := ob h
  refine x_callVr C Z mv_X9_isBoard lk_X9_183 (rv_h er1) (ct_X9_isBoard er1) (by decide) rfl rfl (Nat.le_of_ble_eq_true rfl) dX9_judge_1 ?_
  refine x_if_ne C (tgt := 10) dX9_judge_4 (by decide) (fun c2 => ?_) (fun c2 => ?_)
  · have h := ifN h c2
    refine x_iload_n C (i := 1) dX9_judge_10 rfl rfl ?_
    obtain ⟨r3, er3, h⟩ := ob h
    refine x_callSr C Z ms_X9_isRow lk_X9_60 (ct_X9_isRow (N := ω.1) (σ := σ) er3) (by decide) rfl rfl (Nat.le_of_ble_eq_true rfl) dX9_judge_11 ?_
    refine x_if_eq C (tgt := 29) dX9_judge_14 (by decide) (fun c4 => ?_) (fun c4 => ?_)
    · have h := ifP h c4
      refine x_ldc C kc_X9_66 dX9_judge_29 ?_
      exact x_iret C E dX9_judge_31 (hE ((-1000001), σ) (Option.some.inj h).symm)
    · have h := ifN h c4
      refine x_iload_n C (i := 3) dX9_judge_17 rfl rfl ?_
      refine x_i2l C dX9_judge_18 ?_
      refine x_lconst C (v := 1) dX9_judge_19 (by decide) ?_
      refine x_ldc2 C kj_X9_243 dX9_judge_20 ?_
      obtain ⟨r5, er5, h⟩ := ob h
      refine x_callSr C Z ms_X9_in lk_X9_56 (ct_X9_in (N := ω.1) (σ := σ) er5) (by decide) rfl rfl (Nat.le_of_ble_eq_true rfl) dX9_judge_23 ?_
      refine x_if_ne C (tgt := 32) dX9_judge_26 (by decide) (fun c6 => ?_) (fun c6 => ?_)
      · have h := ifN h c6
        refine x_aload_n C (i := 0) dX9_judge_32 rfl rfl ?_
        refine x_iload_n C (i := 1) dX9_judge_33 rfl rfl ?_
        refine x_iload_n C (i := 2) dX9_judge_34 rfl rfl ?_
        refine x_iload_n C (i := 3) dX9_judge_35 rfl rfl ?_
        obtain ⟨r7, er7, h⟩ := ob h
        refine x_callVr C Z mv_X9_wrongOf lk_X9_211 (rv_h er7) (ct_X9_wrongOf er7) (by decide) rfl rfl (Nat.le_of_ble_eq_true rfl) dX9_judge_36 ?_
        refine x_istore C (i := 4) (lo' := [some (.ref t0), some (.int p1), some (.int p2), some (.int p3), some (.int r7)]) dX9_judge_39 (by decide) rfl rfl ?_
        refine x_iload C (i := 4) dX9_judge_41 rfl ?_
        refine x_if_eq C (tgt := 53) dX9_judge_43 (by decide) (fun c8 => ?_) (fun c8 => ?_)
        · have h := ifP h c8
          refine x_aload_n C (i := 0) dX9_judge_53 rfl rfl ?_
          obtain ⟨r9, er9, h⟩ := ob h
          refine x_callVn C Z mv_X9_asTold lk_X9_166 (rv_h er9) (ct_X9_asTold er9) (by decide) rfl rfl (Nat.le_of_ble_eq_true rfl) dX9_judge_54 ?_
          refine x_aload_n C (i := 0) dX9_judge_57 rfl rfl ?_
          refine x_aload_n C (i := 0) dX9_judge_58 rfl rfl ?_
          refine x_iload_n C (i := 1) dX9_judge_59 rfl rfl ?_
          refine x_iload_n C (i := 2) dX9_judge_60 rfl rfl ?_
          refine x_iload_n C (i := 3) dX9_judge_61 rfl rfl ?_
          refine x_aload_n C (i := 0) dX9_judge_62 rfl rfl ?_
          obtain ⟨r10, er10, h⟩ := ob h
          refine x_callVr C Z mv_X9_state lk_X9_169 (rv_h er10) (ct_X9_state er10) (by decide) rfl rfl (Nat.le_of_ble_eq_true rfl) dX9_judge_63 ?_
          obtain ⟨r11, er11, h⟩ := ob h
          refine x_callVr C Z mv_X9_judged lk_X9_245 (rv_h er11) (ct_X9_judged er11) (by decide) rfl rfl (Nat.le_of_ble_eq_true rfl) dX9_judge_66 ?_
          obtain ⟨r12, er12, h⟩ := ob h
          refine x_callVr C Z mv_X9_good lk_X9_71 (rv_h er12) (ct_X9_good er12) (by decide) rfl rfl (Nat.le_of_ble_eq_true rfl) dX9_judge_69 ?_
          exact x_iret C E dX9_judge_72 (hE (r12.1, r12.2) (Option.some.inj h).symm)
        · have h := ifN h c8
          refine x_aload_n C (i := 0) dX9_judge_46 rfl rfl ?_
          refine x_iload C (i := 4) dX9_judge_47 rfl ?_
          obtain ⟨r13, er13, h⟩ := ob h
          refine x_callVr C Z mv_X9_finds lk_X9_67 (rv_h er13) (ct_X9_finds er13) (by decide) rfl rfl (Nat.le_of_ble_eq_true rfl) dX9_judge_49 ?_
          exact x_iret C E dX9_judge_52 (hE (r13.1, r13.2) (Option.some.inj h).symm)
      · have h := ifP h c6
        refine x_ldc C kc_X9_66 dX9_judge_29 ?_
        exact x_iret C E dX9_judge_31 (hE ((-1000001), σ) (Option.some.inj h).symm)
  · have h := ifP h c2
    refine x_ldc C kc_X9_176 dX9_judge_7 ?_
    exact x_iret C E dX9_judge_9 (hE ((-1000002), σ) (Option.some.inj h).symm)
theorem dX9_fits_0 : decode cX9_fits 0 = .ok (.aload_n 0, 1) := by decide +kernel
theorem dX9_fits_1 : decode cX9_fits 1 = .ok (.iload_n 1, 1) := by decide +kernel
theorem dX9_fits_2 : decode cX9_fits 2 = .ok (.invokevirtual 180, 3) := by decide +kernel
theorem dX9_fits_5 : decode cX9_fits 5 = .ok (.ifCond .eq 36, 3) := by decide +kernel
theorem dX9_fits_8 : decode cX9_fits 8 = .ok (.iload_n 2, 1) := by decide +kernel
theorem dX9_fits_9 : decode cX9_fits 9 = .ok (.invokestatic 60, 3) := by decide +kernel
theorem dX9_fits_12 : decode cX9_fits 12 = .ok (.ifCond .eq 29, 3) := by decide +kernel
theorem dX9_fits_15 : decode cX9_fits 15 = .ok (.iload 4, 2) := by decide +kernel
theorem dX9_fits_17 : decode cX9_fits 17 = .ok (.i2l, 1) := by decide +kernel
theorem dX9_fits_18 : decode cX9_fits 18 = .ok (.lconst 1, 1) := by decide +kernel
theorem dX9_fits_19 : decode cX9_fits 19 = .ok (.ldc2_w 243, 3) := by decide +kernel
theorem dX9_fits_22 : decode cX9_fits 22 = .ok (.invokestatic 56, 3) := by decide +kernel
theorem dX9_fits_25 : decode cX9_fits 25 = .ok (.ifCond .eq 16, 3) := by decide +kernel
theorem dX9_fits_28 : decode cX9_fits 28 = .ok (.iload 5, 2) := by decide +kernel
theorem dX9_fits_30 : decode cX9_fits 30 = .ok (.i2l, 1) := by decide +kernel
theorem dX9_fits_31 : decode cX9_fits 31 = .ok (.lconst 0, 1) := by decide +kernel
theorem dX9_fits_32 : decode cX9_fits 32 = .ok (.ldc2_w 64, 3) := by decide +kernel
theorem dX9_fits_35 : decode cX9_fits 35 = .ok (.invokestatic 56, 3) := by decide +kernel
theorem dX9_fits_38 : decode cX9_fits 38 = .ok (.ifCond .ne 6, 3) := by decide +kernel
theorem dX9_fits_41 : decode cX9_fits 41 = .ok (.ldc 66, 2) := by decide +kernel
theorem dX9_fits_43 : decode cX9_fits 43 = .ok (.ireturn, 1) := by decide +kernel
theorem dX9_fits_44 : decode cX9_fits 44 = .ok (.aload_n 0, 1) := by decide +kernel
theorem dX9_fits_45 : decode cX9_fits 45 = .ok (.iload_n 2, 1) := by decide +kernel
theorem dX9_fits_46 : decode cX9_fits 46 = .ok (.iload_n 3, 1) := by decide +kernel
theorem dX9_fits_47 : decode cX9_fits 47 = .ok (.iload 4, 2) := by decide +kernel
theorem dX9_fits_49 : decode cX9_fits 49 = .ok (.invokevirtual 211, 3) := by decide +kernel
theorem dX9_fits_52 : decode cX9_fits 52 = .ok (.istore 6, 2) := by decide +kernel
theorem dX9_fits_54 : decode cX9_fits 54 = .ok (.iload 6, 2) := by decide +kernel
theorem dX9_fits_56 : decode cX9_fits 56 = .ok (.ifCond .eq 10, 3) := by decide +kernel
theorem dX9_fits_59 : decode cX9_fits 59 = .ok (.aload_n 0, 1) := by decide +kernel
theorem dX9_fits_60 : decode cX9_fits 60 = .ok (.iload 6, 2) := by decide +kernel
theorem dX9_fits_62 : decode cX9_fits 62 = .ok (.invokevirtual 67, 3) := by decide +kernel
theorem dX9_fits_65 : decode cX9_fits 65 = .ok (.ireturn, 1) := by decide +kernel
theorem dX9_fits_66 : decode cX9_fits 66 = .ok (.iconst 0, 1) := by decide +kernel
theorem dX9_fits_67 : decode cX9_fits 67 = .ok (.istore 7, 2) := by decide +kernel
theorem dX9_fits_69 : decode cX9_fits 69 = .ok (.iconst 0, 1) := by decide +kernel
theorem dX9_fits_70 : decode cX9_fits 70 = .ok (.istore 8, 2) := by decide +kernel
theorem dX9_fits_72 : decode cX9_fits 72 = .ok (.iload 8, 2) := by decide +kernel
theorem dX9_fits_74 : decode cX9_fits 74 = .ok (.bipush 6, 2) := by decide +kernel
theorem dX9_fits_76 : decode cX9_fits 76 = .ok (.if_icmp .gt 169, 3) := by decide +kernel
theorem dX9_fits_79 : decode cX9_fits 79 = .ok (.aload_n 0, 1) := by decide +kernel
theorem dX9_fits_80 : decode cX9_fits 80 = .ok (.invokevirtual 166, 3) := by decide +kernel
theorem dX9_fits_83 : decode cX9_fits 83 = .ok (.aload_n 0, 1) := by decide +kernel
theorem dX9_fits_84 : decode cX9_fits 84 = .ok (.iload 5, 2) := by decide +kernel
theorem dX9_fits_86 : decode cX9_fits 86 = .ok (.ifCond .ne 7, 3) := by decide +kernel
theorem dX9_fits_89 : decode cX9_fits 89 = .ok (.iload_n 1, 1) := by decide +kernel
theorem dX9_fits_90 : decode cX9_fits 90 = .ok (.goto 4, 3) := by decide +kernel
theorem dX9_fits_93 : decode cX9_fits 93 = .ok (.iconst (-1), 1) := by decide +kernel
theorem dX9_fits_94 : decode cX9_fits 94 = .ok (.putfield 142, 3) := by decide +kernel
theorem dX9_fits_97 : decode cX9_fits 97 = .ok (.aload_n 0, 1) := by decide +kernel
theorem dX9_fits_98 : decode cX9_fits 98 = .ok (.iload 8, 2) := by decide +kernel
theorem dX9_fits_100 : decode cX9_fits 100 = .ok (.putfield 145, 3) := by decide +kernel
theorem dX9_fits_103 : decode cX9_fits 103 = .ok (.aload_n 0, 1) := by decide +kernel
theorem dX9_fits_104 : decode cX9_fits 104 = .ok (.iload 5, 2) := by decide +kernel
theorem dX9_fits_106 : decode cX9_fits 106 = .ok (.iconst 2, 1) := by decide +kernel
theorem dX9_fits_107 : decode cX9_fits 107 = .ok (.if_icmp .ne 8, 3) := by decide +kernel
theorem dX9_fits_110 : decode cX9_fits 110 = .ok (.iload 8, 2) := by decide +kernel
theorem dX9_fits_112 : decode cX9_fits 112 = .ok (.goto 9, 3) := by decide +kernel
theorem dX9_fits_115 : decode cX9_fits 115 = .ok (.aload_n 0, 1) := by decide +kernel
theorem dX9_fits_116 : decode cX9_fits 116 = .ok (.getfield 23, 3) := by decide +kernel
theorem dX9_fits_119 : decode cX9_fits 119 = .ok (.iconst 1, 1) := by decide +kernel
theorem dX9_fits_120 : decode cX9_fits 120 = .ok (.iaload, 1) := by decide +kernel
theorem dX9_fits_121 : decode cX9_fits 121 = .ok (.putfield 160, 3) := by decide +kernel
theorem dX9_fits_124 : decode cX9_fits 124 = .ok (.iload 5, 2) := by decide +kernel
theorem dX9_fits_126 : decode cX9_fits 126 = .ok (.ifCond .ne 16, 3) := by decide +kernel
theorem dX9_fits_129 : decode cX9_fits 129 = .ok (.iload 8, 2) := by decide +kernel
theorem dX9_fits_131 : decode cX9_fits 131 = .ok (.i2l, 1) := by decide +kernel
theorem dX9_fits_132 : decode cX9_fits 132 = .ok (.lconst 1, 1) := by decide +kernel
theorem dX9_fits_133 : decode cX9_fits 133 = .ok (.ldc2_w 249, 3) := by decide +kernel
theorem dX9_fits_136 : decode cX9_fits 136 = .ok (.invokestatic 56, 3) := by decide +kernel
theorem dX9_fits_139 : decode cX9_fits 139 = .ok (.goto 28, 3) := by decide +kernel
theorem dX9_fits_142 : decode cX9_fits 142 = .ok (.iload 5, 2) := by decide +kernel
theorem dX9_fits_144 : decode cX9_fits 144 = .ok (.iconst 1, 1) := by decide +kernel
theorem dX9_fits_145 : decode cX9_fits 145 = .ok (.if_icmp .ne 12, 3) := by decide +kernel
theorem dX9_fits_148 : decode cX9_fits 148 = .ok (.aload_n 0, 1) := by decide +kernel
theorem dX9_fits_149 : decode cX9_fits 149 = .ok (.iload 8, 2) := by decide +kernel
theorem dX9_fits_151 : decode cX9_fits 151 = .ok (.invokevirtual 163, 3) := by decide +kernel
theorem dX9_fits_154 : decode cX9_fits 154 = .ok (.goto 13, 3) := by decide +kernel
theorem dX9_fits_157 : decode cX9_fits 157 = .ok (.iload 8, 2) := by decide +kernel
theorem dX9_fits_159 : decode cX9_fits 159 = .ok (.ifCond .le 7, 3) := by decide +kernel
theorem dX9_fits_162 : decode cX9_fits 162 = .ok (.iconst 1, 1) := by decide +kernel
theorem dX9_fits_163 : decode cX9_fits 163 = .ok (.goto 4, 3) := by decide +kernel
theorem dX9_fits_166 : decode cX9_fits 166 = .ok (.iconst 0, 1) := by decide +kernel
theorem dX9_fits_167 : decode cX9_fits 167 = .ok (.istore 9, 2) := by decide +kernel
theorem dX9_fits_169 : decode cX9_fits 169 = .ok (.iload 5, 2) := by decide +kernel
theorem dX9_fits_171 : decode cX9_fits 171 = .ok (.iconst 1, 1) := by decide +kernel
theorem dX9_fits_172 : decode cX9_fits 172 = .ok (.if_icmp .ne 30, 3) := by decide +kernel
theorem dX9_fits_175 : decode cX9_fits 175 = .ok (.iload 9, 2) := by decide +kernel
theorem dX9_fits_177 : decode cX9_fits 177 = .ok (.ifCond .eq 25, 3) := by decide +kernel
theorem dX9_fits_180 : decode cX9_fits 180 = .ok (.aload_n 0, 1) := by decide +kernel
theorem dX9_fits_181 : decode cX9_fits 181 = .ok (.invokevirtual 169, 3) := by decide +kernel
theorem dX9_fits_184 : decode cX9_fits 184 = .ok (.iconst 3, 1) := by decide +kernel
theorem dX9_fits_185 : decode cX9_fits 185 = .ok (.iconst 2, 1) := by decide +kernel
theorem dX9_fits_186 : decode cX9_fits 186 = .ok (.iload_n 1, 1) := by decide +kernel
theorem dX9_fits_187 : decode cX9_fits 187 = .ok (.imul, 1) := by decide +kernel
theorem dX9_fits_188 : decode cX9_fits 188 = .ok (.ishl, 1) := by decide +kernel
theorem dX9_fits_189 : decode cX9_fits 189 = .ok (.iconst (-1), 1) := by decide +kernel
theorem dX9_fits_190 : decode cX9_fits 190 = .ok (.ixor, 1) := by decide +kernel
theorem dX9_fits_191 : decode cX9_fits 191 = .ok (.iand, 1) := by decide +kernel
theorem dX9_fits_192 : decode cX9_fits 192 = .ok (.iload 8, 2) := by decide +kernel
theorem dX9_fits_194 : decode cX9_fits 194 = .ok (.iconst 2, 1) := by decide +kernel
theorem dX9_fits_195 : decode cX9_fits 195 = .ok (.iload_n 1, 1) := by decide +kernel
theorem dX9_fits_196 : decode cX9_fits 196 = .ok (.imul, 1) := by decide +kernel
theorem dX9_fits_197 : decode cX9_fits 197 = .ok (.ishl, 1) := by decide +kernel
theorem dX9_fits_198 : decode cX9_fits 198 = .ok (.ior, 1) := by decide +kernel
theorem dX9_fits_199 : decode cX9_fits 199 = .ok (.goto 7, 3) := by decide +kernel
theorem dX9_fits_202 : decode cX9_fits 202 = .ok (.aload_n 0, 1) := by decide +kernel
theorem dX9_fits_203 : decode cX9_fits 203 = .ok (.invokevirtual 169, 3) := by decide +kernel
theorem dX9_fits_206 : decode cX9_fits 206 = .ok (.istore 10, 2) := by decide +kernel
theorem dX9_fits_208 : decode cX9_fits 208 = .ok (.iload 7, 2) := by decide +kernel
theorem dX9_fits_210 : decode cX9_fits 210 = .ok (.iload 9, 2) := by decide +kernel
theorem dX9_fits_212 : decode cX9_fits 212 = .ok (.ifCond .eq 23, 3) := by decide +kernel
theorem dX9_fits_215 : decode cX9_fits 215 = .ok (.aload_n 0, 1) := by decide +kernel
theorem dX9_fits_216 : decode cX9_fits 216 = .ok (.iload_n 2, 1) := by decide +kernel
theorem dX9_fits_217 : decode cX9_fits 217 = .ok (.iload_n 3, 1) := by decide +kernel
theorem dX9_fits_218 : decode cX9_fits 218 = .ok (.iload 4, 2) := by decide +kernel
theorem dX9_fits_220 : decode cX9_fits 220 = .ok (.iload 10, 2) := by decide +kernel
theorem dX9_fits_222 : decode cX9_fits 222 = .ok (.invokevirtual 245, 3) := by decide +kernel
theorem dX9_fits_225 : decode cX9_fits 225 = .ok (.ifCond .ge 10, 3) := by decide +kernel
theorem dX9_fits_228 : decode cX9_fits 228 = .ok (.iconst 1, 1) := by decide +kernel
theorem dX9_fits_229 : decode cX9_fits 229 = .ok (.iload 8, 2) := by decide +kernel
theorem dX9_fits_231 : decode cX9_fits 231 = .ok (.ishl, 1) := by decide +kernel
theorem dX9_fits_232 : decode cX9_fits 232 = .ok (.goto 4, 3) := by decide +kernel
theorem dX9_fits_235 : decode cX9_fits 235 = .ok (.iconst 0, 1) := by decide +kernel
theorem dX9_fits_236 : decode cX9_fits 236 = .ok (.ior, 1) := by decide +kernel
theorem dX9_fits_237 : decode cX9_fits 237 = .ok (.istore 7, 2) := by decide +kernel
theorem dX9_fits_239 : decode cX9_fits 239 = .ok (.iinc 8 1, 3) := by decide +kernel
theorem dX9_fits_242 : decode cX9_fits 242 = .ok (.goto (-170), 3) := by decide +kernel
theorem dX9_fits_245 : decode cX9_fits 245 = .ok (.aload_n 0, 1) := by decide +kernel
theorem dX9_fits_246 : decode cX9_fits 246 = .ok (.invokevirtual 166, 3) := by decide +kernel
theorem dX9_fits_249 : decode cX9_fits 249 = .ok (.aload_n 0, 1) := by decide +kernel
theorem dX9_fits_250 : decode cX9_fits 250 = .ok (.iload 7, 2) := by decide +kernel
theorem dX9_fits_252 : decode cX9_fits 252 = .ok (.invokevirtual 71, 3) := by decide +kernel
theorem dX9_fits_255 : decode cX9_fits 255 = .ok (.ireturn, 1) := by decide +kernel
def L_X9_fits_72 (N : Nat) (v0 : Nat) (v1 : Int32) (v2 : Int32) (v3 : Int32) (v4 : Int32) (v5 : Int32) : Nat → Hp → Int32 → Int32 → Option (Int32 × Hp)
  | 0, _, _, _ => none
  | n + 1, σ, v7, v8 =>
  if 6 < v8 then
   some (v7, σ)
  else
   (m_X9_asTold N σ v0).bind fun r12 =>
  ((if v5 = 0 then
   some v1
  else
   some (-1)) : Option (Int32)).bind fun z13 =>
  (pV N r12 v0 9 20 (.int z13)).bind fun σ14 =>
  (pV N σ14 v0 9 19 (.int v8)).bind fun σ15 =>
  ((if v5 = 2 then
   some v8
  else
   (gR N σ15 v0 9 10).bind fun x41 =>
  (aI 0 N σ15 x41 1).bind fun x42 =>
  some x42) : Option (Int32)).bind fun z16 =>
  (pV N σ15 v0 9 21 (.int z16)).bind fun σ17 =>
  ((if v5 = 0 then
   (m_X9_in v8.toInt64 1 5).bind fun r37 =>
  some r37
  else
   if v5 = 1 then
   (m_X9_isPeg N σ17 v0 v8).bind fun r36 =>
  some r36
  else
   if v8 ≤ 0 then
   some 0
  else
   some 1) : Option (Int32)).bind fun z18 =>
  ((if v5 = 1 then
   if z18 = 0 then
   (m_X9_state N σ17 v0).bind fun r29 =>
  some r29
  else
   (m_X9_state N σ17 v0).bind fun r30 =>
  some ((r30 &&& (((3 : Int32) <<< (((2 : Int32) * v1) &&& 31)) ^^^ (-1))) ||| (v8 <<< (((2 : Int32) * v1) &&& 31)))
  else
   (m_X9_state N σ17 v0).bind fun r27 =>
  some r27) : Option (Int32)).bind fun z19 =>
  if z18 = 0 then
   L_X9_fits_72 N v0 v1 v2 v3 v4 v5 n σ17 (v7 ||| 0) (v8 + 1)
  else
   (m_X9_judged N σ17 v0 v2 v3 v4 z19).bind fun r21 =>
  if 0 ≤ r21 then
   L_X9_fits_72 N v0 v1 v2 v3 v4 v5 n σ17 (v7 ||| 0) (v8 + 1)
  else
   lt (v7 ||| ((1 : Int32) <<< (v8 &&& 31))) fun y23 =>
  L_X9_fits_72 N v0 v1 v2 v3 v4 v5 n σ17 y23 (v8 + 1)
def m_X9_fits (N : Nat) (σ : Hp) (t0 : Nat) (p1 : Int32) (p2 : Int32) (p3 : Int32) (p4 : Int32) (p5 : Int32) : Option (Int32 × Hp) :=
  (rv N σ t0 9).bind fun _ =>
  (m_X9_isDisc N σ t0 p1).bind fun r1 =>
  if r1 = 0 then
   some ((-1000001), σ)
  else
   (m_X9_isRow p2).bind fun r3 =>
  if r3 = 0 then
   some ((-1000001), σ)
  else
   (m_X9_in p4.toInt64 1 16).bind fun r5 =>
  if r5 = 0 then
   some ((-1000001), σ)
  else
   (m_X9_in p5.toInt64 0 2).bind fun r7 =>
  if r7 = 0 then
   some ((-1000001), σ)
  else
   (m_X9_wrongOf N σ t0 p2 p3 p4).bind fun r9 =>
  if r9 = 0 then
   (L_X9_fits_72 N t0 p1 p2 p3 p4 p5 fu σ 0 0).bind fun z46 =>
  (m_X9_asTold N z46.2 t0).bind fun r47 =>
  (m_X9_good N r47 t0 z46.1).bind fun r48 =>
  some (r48.1, r48.2)
  else
   (m_X9_finds N σ t0 r9).bind fun r49 =>
  some (r49.1, r49.2)
set_option maxHeartbeats 4000000 in
set_option maxRecDepth 100000 in
theorem lp_X9_fits_72 {κ : Kx} {ω : Om} (C : Cx κ 11 4 cX9_fits RX9 "fits") (Z : Zx κ ω) (v0 : Nat) (v1 : Int32) (v2 : Int32) (v3 : Int32) (v4 : Int32) (v5 : Int32) {r : Int32 × Hp} (hk : X κ 11 ω 245 [some (.ref v0), none, none, none, none, none, none, some (.int r.1), none, none, none] [] r.2) : ∀ (n : Nat) (σ : Hp) (v7 : Int32) (v8 : Int32), L_X9_fits_72 ω.1 v0 v1 v2 v3 v4 v5 n σ v7 v8 = some r → X κ 11 ω 72 [some (.ref v0), some (.int v1), some (.int v2), some (.int v3), some (.int v4), some (.int v5), none, some (.int v7), some (.int v8), none, none] [] σ := by
  intro n
  induction n with
  | zero => intro σ v7 v8 h; cases h
  | succ n ih =>
    intro σ v7 v8 h
    rw [L_X9_fits_72.eq_2] at h
    refine x_iload C (i := 8) dX9_fits_72 rfl ?_
    refine x_bipush C (v := 6) dX9_fits_74 (by decide) ?_
    refine x_icmp_gt C (tgt := 245) dX9_fits_76 (by decide) (fun c11 => ?_) (fun c11 => ?_)
    · have h := ifP h c11
      refine x_wk [true, false, false, false, false, false, false, true, false, false, false] (lo' := [some (.ref v0), none, none, none, none, none, none, some (.int v7), none, none, none]) rfl ?_
      obtain rfl := Option.some.inj h
      exact hk
    · have h := ifN h c11
      refine x_aload_n C (i := 0) dX9_fits_79 rfl rfl ?_
      obtain ⟨r12, er12, h⟩ := ob h
      refine x_callVn C Z mv_X9_asTold lk_X9_166 (rv_h er12) (ct_X9_asTold er12) (by decide) rfl rfl (Nat.le_of_ble_eq_true rfl) dX9_fits_80 ?_
      refine x_aload_n C (i := 0) dX9_fits_83 rfl rfl ?_
      refine x_iload C (i := 5) dX9_fits_84 rfl ?_
      obtain ⟨z13, hz13, h⟩ := ob h
      have hJ43 : X κ 11 ω 94 [some (.ref v0), some (.int v1), some (.int v2), some (.int v3), some (.int v4), some (.int v5), none, some (.int v7), some (.int v8), none, none] [.int z13, .ref v0] r12 := by
        obtain ⟨σ14, eσ14, h⟩ := ob h
        refine x_put C pl_X9_142 dX9_fits_94 (fun _ => ⟨rfl, rfl⟩) eσ14 ?_
        refine x_aload_n C (i := 0) dX9_fits_97 rfl rfl ?_
        refine x_iload C (i := 8) dX9_fits_98 rfl ?_
        obtain ⟨σ15, eσ15, h⟩ := ob h
        refine x_put C pl_X9_145 dX9_fits_100 (fun _ => ⟨rfl, rfl⟩) eσ15 ?_
        refine x_aload_n C (i := 0) dX9_fits_103 rfl rfl ?_
        refine x_iload C (i := 5) dX9_fits_104 rfl ?_
        refine x_iconst C (v := 2) dX9_fits_106 (by decide) ?_
        obtain ⟨z16, hz16, h⟩ := ob h
        have hJ38 : X κ 11 ω 121 [some (.ref v0), some (.int v1), some (.int v2), some (.int v3), some (.int v4), some (.int v5), none, some (.int v7), some (.int v8), none, none] [.int z16, .ref v0] σ15 := by
          obtain ⟨σ17, eσ17, h⟩ := ob h
          refine x_put C pl_X9_160 dX9_fits_121 (fun _ => ⟨rfl, rfl⟩) eσ17 ?_
          refine x_iload C (i := 5) dX9_fits_124 rfl ?_
          obtain ⟨z18, hz18, h⟩ := ob h
          have hJ31 : X κ 11 ω 167 [some (.ref v0), some (.int v1), some (.int v2), some (.int v3), some (.int v4), some (.int v5), none, some (.int v7), some (.int v8), none, none] [.int z18] σ17 := by
            refine x_istore C (i := 9) (lo' := [some (.ref v0), some (.int v1), some (.int v2), some (.int v3), some (.int v4), some (.int v5), none, some (.int v7), some (.int v8), some (.int z18), none]) dX9_fits_167 (by decide) rfl rfl ?_
            refine x_iload C (i := 5) dX9_fits_169 rfl ?_
            refine x_iconst C (v := 1) dX9_fits_171 (by decide) ?_
            obtain ⟨z19, hz19, h⟩ := ob h
            have hJ24 : X κ 11 ω 206 [some (.ref v0), some (.int v1), some (.int v2), some (.int v3), some (.int v4), some (.int v5), none, some (.int v7), some (.int v8), some (.int z18), none] [.int z19] σ17 := by
              refine x_istore C (i := 10) (lo' := [some (.ref v0), some (.int v1), some (.int v2), some (.int v3), some (.int v4), some (.int v5), none, some (.int v7), some (.int v8), some (.int z18), some (.int z19)]) dX9_fits_206 (by decide) rfl rfl ?_
              refine x_iload C (i := 7) dX9_fits_208 rfl ?_
              refine x_iload C (i := 9) dX9_fits_210 rfl ?_
              refine x_if_eq C (tgt := 235) dX9_fits_212 (by decide) (fun c20 => ?_) (fun c20 => ?_)
              · have h := ifP h c20
                refine x_iconst C (v := 0) dX9_fits_235 (by decide) ?_
                refine x_ior C dX9_fits_236 ?_
                refine x_istore C (i := 7) (lo' := [some (.ref v0), some (.int v1), some (.int v2), some (.int v3), some (.int v4), some (.int v5), none, some (.int (v7 ||| 0)), some (.int v8), some (.int z18), some (.int z19)]) dX9_fits_237 (by decide) rfl rfl ?_
                refine x_iinc C (i := 8) (y := v8 + 1) (lo' := [some (.ref v0), some (.int v1), some (.int v2), some (.int v3), some (.int v4), some (.int v5), none, some (.int (v7 ||| 0)), some (.int (v8 + 1)), some (.int z18), some (.int z19)]) dX9_fits_239 rfl rfl (by decide) rfl rfl ?_
                refine x_goto C (tgt := 72) dX9_fits_242 (by decide) ?_
                refine x_wk [true, true, true, true, true, true, false, true, true, false, false] (lo' := [some (.ref v0), some (.int v1), some (.int v2), some (.int v3), some (.int v4), some (.int v5), none, some (.int (v7 ||| 0)), some (.int (v8 + 1)), none, none]) rfl ?_
                exact ih σ17 (v7 ||| 0) (v8 + 1) h
              · have h := ifN h c20
                refine x_aload_n C (i := 0) dX9_fits_215 rfl rfl ?_
                refine x_iload_n C (i := 2) dX9_fits_216 rfl rfl ?_
                refine x_iload_n C (i := 3) dX9_fits_217 rfl rfl ?_
                refine x_iload C (i := 4) dX9_fits_218 rfl ?_
                refine x_iload C (i := 10) dX9_fits_220 rfl ?_
                obtain ⟨r21, er21, h⟩ := ob h
                refine x_callVr C Z mv_X9_judged lk_X9_245 (rv_h er21) (ct_X9_judged er21) (by decide) rfl rfl (Nat.le_of_ble_eq_true rfl) dX9_fits_222 ?_
                refine x_if_ge C (tgt := 235) dX9_fits_225 (by decide) (fun c22 => ?_) (fun c22 => ?_)
                · have h := ifP h c22
                  refine x_iconst C (v := 0) dX9_fits_235 (by decide) ?_
                  refine x_ior C dX9_fits_236 ?_
                  refine x_istore C (i := 7) (lo' := [some (.ref v0), some (.int v1), some (.int v2), some (.int v3), some (.int v4), some (.int v5), none, some (.int (v7 ||| 0)), some (.int v8), some (.int z18), some (.int z19)]) dX9_fits_237 (by decide) rfl rfl ?_
                  refine x_iinc C (i := 8) (y := v8 + 1) (lo' := [some (.ref v0), some (.int v1), some (.int v2), some (.int v3), some (.int v4), some (.int v5), none, some (.int (v7 ||| 0)), some (.int (v8 + 1)), some (.int z18), some (.int z19)]) dX9_fits_239 rfl rfl (by decide) rfl rfl ?_
                  refine x_goto C (tgt := 72) dX9_fits_242 (by decide) ?_
                  refine x_wk [true, true, true, true, true, true, false, true, true, false, false] (lo' := [some (.ref v0), some (.int v1), some (.int v2), some (.int v3), some (.int v4), some (.int v5), none, some (.int (v7 ||| 0)), some (.int (v8 + 1)), none, none]) rfl ?_
                  exact ih σ17 (v7 ||| 0) (v8 + 1) h
                · have h := ifN h c22
                  refine x_iconst C (v := 1) dX9_fits_228 (by decide) ?_
                  refine x_iload C (i := 8) dX9_fits_229 rfl ?_
                  refine x_ishl C dX9_fits_231 ?_
                  refine x_goto C (tgt := 236) dX9_fits_232 (by decide) ?_
                  refine x_ior C dX9_fits_236 ?_
                  refine x_topi (fun y23 ey23 => ?_)
                  have h := lt_e h ey23
                  refine x_istore C (i := 7) (lo' := [some (.ref v0), some (.int v1), some (.int v2), some (.int v3), some (.int v4), some (.int v5), none, some (.int y23), some (.int v8), some (.int z18), some (.int z19)]) dX9_fits_237 (by decide) rfl rfl ?_
                  refine x_iinc C (i := 8) (y := v8 + 1) (lo' := [some (.ref v0), some (.int v1), some (.int v2), some (.int v3), some (.int v4), some (.int v5), none, some (.int y23), some (.int (v8 + 1)), some (.int z18), some (.int z19)]) dX9_fits_239 rfl rfl (by decide) rfl rfl ?_
                  refine x_goto C (tgt := 72) dX9_fits_242 (by decide) ?_
                  refine x_wk [true, true, true, true, true, true, false, true, true, false, false] (lo' := [some (.ref v0), some (.int v1), some (.int v2), some (.int v3), some (.int v4), some (.int v5), none, some (.int y23), some (.int (v8 + 1)), none, none]) rfl ?_
                  exact ih σ17 y23 (v8 + 1) h
            clear h
            have h := hz19
            refine x_icmp_ne C (tgt := 202) dX9_fits_172 (by decide) (fun c26 => ?_) (fun c26 => ?_)
            · have h := ifN h c26
              refine x_aload_n C (i := 0) dX9_fits_202 rfl rfl ?_
              obtain ⟨r27, er27, h⟩ := ob h
              refine x_callVr C Z mv_X9_state lk_X9_169 (rv_h er27) (ct_X9_state er27) (by decide) rfl rfl (Nat.le_of_ble_eq_true rfl) dX9_fits_203 ?_
              refine x_wk [true, true, true, true, true, true, false, true, true, true, false] (lo' := [some (.ref v0), some (.int v1), some (.int v2), some (.int v3), some (.int v4), some (.int v5), none, some (.int v7), some (.int v8), some (.int z18), none]) rfl ?_
              obtain rfl := Option.some.inj h
              exact hJ24
            · have h := ifP h c26
              refine x_iload C (i := 9) dX9_fits_175 rfl ?_
              refine x_if_eq C (tgt := 202) dX9_fits_177 (by decide) (fun c28 => ?_) (fun c28 => ?_)
              · have h := ifP h c28
                refine x_aload_n C (i := 0) dX9_fits_202 rfl rfl ?_
                obtain ⟨r29, er29, h⟩ := ob h
                refine x_callVr C Z mv_X9_state lk_X9_169 (rv_h er29) (ct_X9_state er29) (by decide) rfl rfl (Nat.le_of_ble_eq_true rfl) dX9_fits_203 ?_
                refine x_wk [true, true, true, true, true, true, false, true, true, true, false] (lo' := [some (.ref v0), some (.int v1), some (.int v2), some (.int v3), some (.int v4), some (.int v5), none, some (.int v7), some (.int v8), some (.int z18), none]) rfl ?_
                obtain rfl := Option.some.inj h
                exact hJ24
              · have h := ifN h c28
                refine x_aload_n C (i := 0) dX9_fits_180 rfl rfl ?_
                obtain ⟨r30, er30, h⟩ := ob h
                refine x_callVr C Z mv_X9_state lk_X9_169 (rv_h er30) (ct_X9_state er30) (by decide) rfl rfl (Nat.le_of_ble_eq_true rfl) dX9_fits_181 ?_
                refine x_iconst C (v := 3) dX9_fits_184 (by decide) ?_
                refine x_iconst C (v := 2) dX9_fits_185 (by decide) ?_
                refine x_iload_n C (i := 1) dX9_fits_186 rfl rfl ?_
                refine x_imul C dX9_fits_187 ?_
                refine x_ishl C dX9_fits_188 ?_
                refine x_iconst C (v := (-1)) dX9_fits_189 (by decide) ?_
                refine x_ixor C dX9_fits_190 ?_
                refine x_iand C dX9_fits_191 ?_
                refine x_iload C (i := 8) dX9_fits_192 rfl ?_
                refine x_iconst C (v := 2) dX9_fits_194 (by decide) ?_
                refine x_iload_n C (i := 1) dX9_fits_195 rfl rfl ?_
                refine x_imul C dX9_fits_196 ?_
                refine x_ishl C dX9_fits_197 ?_
                refine x_ior C dX9_fits_198 ?_
                refine x_goto C (tgt := 206) dX9_fits_199 (by decide) ?_
                refine x_wk [true, true, true, true, true, true, false, true, true, true, false] (lo' := [some (.ref v0), some (.int v1), some (.int v2), some (.int v3), some (.int v4), some (.int v5), none, some (.int v7), some (.int v8), some (.int z18), none]) rfl ?_
                obtain rfl := Option.some.inj h
                exact hJ24
          clear h
          have h := hz18
          refine x_if_ne C (tgt := 142) dX9_fits_126 (by decide) (fun c33 => ?_) (fun c33 => ?_)
          · have h := ifN h c33
            refine x_iload C (i := 5) dX9_fits_142 rfl ?_
            refine x_iconst C (v := 1) dX9_fits_144 (by decide) ?_
            refine x_icmp_ne C (tgt := 157) dX9_fits_145 (by decide) (fun c34 => ?_) (fun c34 => ?_)
            · have h := ifN h c34
              refine x_iload C (i := 8) dX9_fits_157 rfl ?_
              refine x_if_le C (tgt := 166) dX9_fits_159 (by decide) (fun c35 => ?_) (fun c35 => ?_)
              · have h := ifP h c35
                refine x_iconst C (v := 0) dX9_fits_166 (by decide) ?_
                refine x_wk [true, true, true, true, true, true, false, true, true, false, false] (lo' := [some (.ref v0), some (.int v1), some (.int v2), some (.int v3), some (.int v4), some (.int v5), none, some (.int v7), some (.int v8), none, none]) rfl ?_
                obtain rfl := Option.some.inj h
                exact hJ31
              · have h := ifN h c35
                refine x_iconst C (v := 1) dX9_fits_162 (by decide) ?_
                refine x_goto C (tgt := 167) dX9_fits_163 (by decide) ?_
                refine x_wk [true, true, true, true, true, true, false, true, true, false, false] (lo' := [some (.ref v0), some (.int v1), some (.int v2), some (.int v3), some (.int v4), some (.int v5), none, some (.int v7), some (.int v8), none, none]) rfl ?_
                obtain rfl := Option.some.inj h
                exact hJ31
            · have h := ifP h c34
              refine x_aload_n C (i := 0) dX9_fits_148 rfl rfl ?_
              refine x_iload C (i := 8) dX9_fits_149 rfl ?_
              obtain ⟨r36, er36, h⟩ := ob h
              refine x_callVr C Z mv_X9_isPeg lk_X9_163 (rv_h er36) (ct_X9_isPeg er36) (by decide) rfl rfl (Nat.le_of_ble_eq_true rfl) dX9_fits_151 ?_
              refine x_goto C (tgt := 167) dX9_fits_154 (by decide) ?_
              refine x_wk [true, true, true, true, true, true, false, true, true, false, false] (lo' := [some (.ref v0), some (.int v1), some (.int v2), some (.int v3), some (.int v4), some (.int v5), none, some (.int v7), some (.int v8), none, none]) rfl ?_
              obtain rfl := Option.some.inj h
              exact hJ31
          · have h := ifP h c33
            refine x_iload C (i := 8) dX9_fits_129 rfl ?_
            refine x_i2l C dX9_fits_131 ?_
            refine x_lconst C (v := 1) dX9_fits_132 (by decide) ?_
            refine x_ldc2 C kj_X9_249 dX9_fits_133 ?_
            obtain ⟨r37, er37, h⟩ := ob h
            refine x_callSr C Z ms_X9_in lk_X9_56 (ct_X9_in (N := ω.1) (σ := σ17) er37) (by decide) rfl rfl (Nat.le_of_ble_eq_true rfl) dX9_fits_136 ?_
            refine x_goto C (tgt := 167) dX9_fits_139 (by decide) ?_
            refine x_wk [true, true, true, true, true, true, false, true, true, false, false] (lo' := [some (.ref v0), some (.int v1), some (.int v2), some (.int v3), some (.int v4), some (.int v5), none, some (.int v7), some (.int v8), none, none]) rfl ?_
            obtain rfl := Option.some.inj h
            exact hJ31
        clear h
        have h := hz16
        refine x_icmp_ne C (tgt := 115) dX9_fits_107 (by decide) (fun c40 => ?_) (fun c40 => ?_)
        · have h := ifN h c40
          refine x_aload_n C (i := 0) dX9_fits_115 rfl rfl ?_
          obtain ⟨x41, ex41, h⟩ := ob h
          refine x_getR C fl_X9_23 dX9_fits_116 ex41 ?_
          refine x_iconst C (v := 1) dX9_fits_119 (by decide) ?_
          obtain ⟨x42, ex42, h⟩ := ob h
          refine x_iald C dX9_fits_120 ex42 ?_
          refine x_wk [true, true, true, true, true, true, false, true, true, false, false] (lo' := [some (.ref v0), some (.int v1), some (.int v2), some (.int v3), some (.int v4), some (.int v5), none, some (.int v7), some (.int v8), none, none]) rfl ?_
          obtain rfl := Option.some.inj h
          exact hJ38
        · have h := ifP h c40
          refine x_iload C (i := 8) dX9_fits_110 rfl ?_
          refine x_goto C (tgt := 121) dX9_fits_112 (by decide) ?_
          refine x_wk [true, true, true, true, true, true, false, true, true, false, false] (lo' := [some (.ref v0), some (.int v1), some (.int v2), some (.int v3), some (.int v4), some (.int v5), none, some (.int v7), some (.int v8), none, none]) rfl ?_
          obtain rfl := Option.some.inj h
          exact hJ38
      clear h
      have h := hz13
      refine x_if_ne C (tgt := 93) dX9_fits_86 (by decide) (fun c45 => ?_) (fun c45 => ?_)
      · have h := ifN h c45
        refine x_iconst C (v := (-1)) dX9_fits_93 (by decide) ?_
        refine x_wk [true, true, true, true, true, true, false, true, true, false, false] (lo' := [some (.ref v0), some (.int v1), some (.int v2), some (.int v3), some (.int v4), some (.int v5), none, some (.int v7), some (.int v8), none, none]) rfl ?_
        obtain rfl := Option.some.inj h
        exact hJ43
      · have h := ifP h c45
        refine x_iload_n C (i := 1) dX9_fits_89 rfl rfl ?_
        refine x_goto C (tgt := 94) dX9_fits_90 (by decide) ?_
        refine x_wk [true, true, true, true, true, true, false, true, true, false, false] (lo' := [some (.ref v0), some (.int v1), some (.int v2), some (.int v3), some (.int v4), some (.int v5), none, some (.int v7), some (.int v8), none, none]) rfl ?_
        obtain rfl := Option.some.inj h
        exact hJ43
set_option maxHeartbeats 4000000 in
set_option maxRecDepth 100000 in
theorem ct_X9_fits {l : Launch} {D : va_G} {cy : Nat → Nat} {N : Nat} {σ : Hp} {t0 : Nat} {p1 : Int32} {p2 : Int32} {p3 : Int32} {p4 : Int32} {p5 : Int32} {r : Int32 × Hp} (h : m_X9_fits N σ t0 p1 p2 p3 p4 p5 = some r) : Ct l D cy yX9_fits cX9_fits 11 (some .int) 4 [.ref t0, .int p1, .int p2, .int p3, .int p4, .int p5] N σ (fun v s' => v = (some (.int r.1)) ∧ s' = r.2) := by
  refine Ct.intro [some (.ref t0), some (.int p1), some (.int p2), some (.int p3), some (.int p4), some (.int p5), none, none, none, none, none] (by decide) rfl (Nat.le_of_ble_eq_true rfl) ?_
  intro κ ω e1 e2 e3 e4 C Z E
  subst e1; subst e2; subst e3; subst e4
  have C : Cx κ 11 4 cX9_fits RX9 "fits" := C
  have hE : ∀ x : Int32 × Hp, r = x → ((some (Value.int x.1)) = (some (Value.int r.1)) ∧ x.2 = r.2) := fun x hx => by subst hx; exact ⟨rfl, rfl⟩
  unfold m_X9_fits at h
  obtain ⟨_, _, h⟩ := ob h
  refine x_aload_n C (i := 0) dX9_fits_0 rfl rfl ?_
  refine x_iload_n C (i := 1) dX9_fits_1 rfl rfl ?_
  obtain ⟨r1, er1, h⟩ := ob h
  refine x_callVr C Z mv_X9_isDisc lk_X9_180 (rv_h er1) (ct_X9_isDisc er1) (by decide) rfl rfl (Nat.le_of_ble_eq_true rfl) dX9_fits_2 ?_
  refine x_if_eq C (tgt := 41) dX9_fits_5 (by decide) (fun c2 => ?_) (fun c2 => ?_)
  · have h := ifP h c2
    refine x_ldc C kc_X9_66 dX9_fits_41 ?_
    exact x_iret C E dX9_fits_43 (hE ((-1000001), σ) (Option.some.inj h).symm)
  · have h := ifN h c2
    refine x_iload_n C (i := 2) dX9_fits_8 rfl rfl ?_
    obtain ⟨r3, er3, h⟩ := ob h
    refine x_callSr C Z ms_X9_isRow lk_X9_60 (ct_X9_isRow (N := ω.1) (σ := σ) er3) (by decide) rfl rfl (Nat.le_of_ble_eq_true rfl) dX9_fits_9 ?_
    refine x_if_eq C (tgt := 41) dX9_fits_12 (by decide) (fun c4 => ?_) (fun c4 => ?_)
    · have h := ifP h c4
      refine x_ldc C kc_X9_66 dX9_fits_41 ?_
      exact x_iret C E dX9_fits_43 (hE ((-1000001), σ) (Option.some.inj h).symm)
    · have h := ifN h c4
      refine x_iload C (i := 4) dX9_fits_15 rfl ?_
      refine x_i2l C dX9_fits_17 ?_
      refine x_lconst C (v := 1) dX9_fits_18 (by decide) ?_
      refine x_ldc2 C kj_X9_243 dX9_fits_19 ?_
      obtain ⟨r5, er5, h⟩ := ob h
      refine x_callSr C Z ms_X9_in lk_X9_56 (ct_X9_in (N := ω.1) (σ := σ) er5) (by decide) rfl rfl (Nat.le_of_ble_eq_true rfl) dX9_fits_22 ?_
      refine x_if_eq C (tgt := 41) dX9_fits_25 (by decide) (fun c6 => ?_) (fun c6 => ?_)
      · have h := ifP h c6
        refine x_ldc C kc_X9_66 dX9_fits_41 ?_
        exact x_iret C E dX9_fits_43 (hE ((-1000001), σ) (Option.some.inj h).symm)
      · have h := ifN h c6
        refine x_iload C (i := 5) dX9_fits_28 rfl ?_
        refine x_i2l C dX9_fits_30 ?_
        refine x_lconst C (v := 0) dX9_fits_31 (by decide) ?_
        refine x_ldc2 C kj_X9_64 dX9_fits_32 ?_
        obtain ⟨r7, er7, h⟩ := ob h
        refine x_callSr C Z ms_X9_in lk_X9_56 (ct_X9_in (N := ω.1) (σ := σ) er7) (by decide) rfl rfl (Nat.le_of_ble_eq_true rfl) dX9_fits_35 ?_
        refine x_if_ne C (tgt := 44) dX9_fits_38 (by decide) (fun c8 => ?_) (fun c8 => ?_)
        · have h := ifN h c8
          refine x_aload_n C (i := 0) dX9_fits_44 rfl rfl ?_
          refine x_iload_n C (i := 2) dX9_fits_45 rfl rfl ?_
          refine x_iload_n C (i := 3) dX9_fits_46 rfl rfl ?_
          refine x_iload C (i := 4) dX9_fits_47 rfl ?_
          obtain ⟨r9, er9, h⟩ := ob h
          refine x_callVr C Z mv_X9_wrongOf lk_X9_211 (rv_h er9) (ct_X9_wrongOf er9) (by decide) rfl rfl (Nat.le_of_ble_eq_true rfl) dX9_fits_49 ?_
          refine x_istore C (i := 6) (lo' := [some (.ref t0), some (.int p1), some (.int p2), some (.int p3), some (.int p4), some (.int p5), some (.int r9), none, none, none, none]) dX9_fits_52 (by decide) rfl rfl ?_
          refine x_iload C (i := 6) dX9_fits_54 rfl ?_
          refine x_if_eq C (tgt := 66) dX9_fits_56 (by decide) (fun c10 => ?_) (fun c10 => ?_)
          · have h := ifP h c10
            refine x_iconst C (v := 0) dX9_fits_66 (by decide) ?_
            refine x_istore C (i := 7) (lo' := [some (.ref t0), some (.int p1), some (.int p2), some (.int p3), some (.int p4), some (.int p5), some (.int r9), some (.int 0), none, none, none]) dX9_fits_67 (by decide) rfl rfl ?_
            refine x_iconst C (v := 0) dX9_fits_69 (by decide) ?_
            refine x_istore C (i := 8) (lo' := [some (.ref t0), some (.int p1), some (.int p2), some (.int p3), some (.int p4), some (.int p5), some (.int r9), some (.int 0), some (.int 0), none, none]) dX9_fits_70 (by decide) rfl rfl ?_
            obtain ⟨z46, ez46, h⟩ := ob h
            refine x_wk [true, true, true, true, true, true, false, true, true, false, false] (lo' := [some (.ref t0), some (.int p1), some (.int p2), some (.int p3), some (.int p4), some (.int p5), none, some (.int 0), some (.int 0), none, none]) rfl ?_
            refine lp_X9_fits_72 C Z t0 p1 p2 p3 p4 p5 ?_ _ σ 0 0 ez46
            refine x_aload_n C (i := 0) dX9_fits_245 rfl rfl ?_
            obtain ⟨r47, er47, h⟩ := ob h
            refine x_callVn C Z mv_X9_asTold lk_X9_166 (rv_h er47) (ct_X9_asTold er47) (by decide) rfl rfl (Nat.le_of_ble_eq_true rfl) dX9_fits_246 ?_
            refine x_aload_n C (i := 0) dX9_fits_249 rfl rfl ?_
            refine x_iload C (i := 7) dX9_fits_250 rfl ?_
            obtain ⟨r48, er48, h⟩ := ob h
            refine x_callVr C Z mv_X9_good lk_X9_71 (rv_h er48) (ct_X9_good er48) (by decide) rfl rfl (Nat.le_of_ble_eq_true rfl) dX9_fits_252 ?_
            exact x_iret C E dX9_fits_255 (hE (r48.1, r48.2) (Option.some.inj h).symm)
          · have h := ifN h c10
            refine x_aload_n C (i := 0) dX9_fits_59 rfl rfl ?_
            refine x_iload C (i := 6) dX9_fits_60 rfl ?_
            obtain ⟨r49, er49, h⟩ := ob h
            refine x_callVr C Z mv_X9_finds lk_X9_67 (rv_h er49) (ct_X9_finds er49) (by decide) rfl rfl (Nat.le_of_ble_eq_true rfl) dX9_fits_62 ?_
            exact x_iret C E dX9_fits_65 (hE (r49.1, r49.2) (Option.some.inj h).symm)
        · have h := ifP h c8
          refine x_ldc C kc_X9_66 dX9_fits_41 ?_
          exact x_iret C E dX9_fits_43 (hE ((-1000001), σ) (Option.some.inj h).symm)
