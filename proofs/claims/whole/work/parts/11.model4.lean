theorem dX9_ring_0 : decode cX9_ring 0 = .ok (.aload_n 0, 1) := by decide +kernel
theorem dX9_ring_1 : decode cX9_ring 1 = .ok (.invokevirtual 183, 3) := by decide +kernel
theorem dX9_ring_4 : decode cX9_ring 4 = .ok (.ifCond .ne 6, 3) := by decide +kernel
theorem dX9_ring_7 : decode cX9_ring 7 = .ok (.ldc 176, 2) := by decide +kernel
theorem dX9_ring_9 : decode cX9_ring 9 = .ok (.ireturn, 1) := by decide +kernel
theorem dX9_ring_10 : decode cX9_ring 10 = .ok (.aload_n 0, 1) := by decide +kernel
theorem dX9_ring_11 : decode cX9_ring 11 = .ok (.invokevirtual 202, 3) := by decide +kernel
theorem dX9_ring_14 : decode cX9_ring 14 = .ok (.aload_n 0, 1) := by decide +kernel
theorem dX9_ring_15 : decode cX9_ring 15 = .ok (.getfield 33, 3) := by decide +kernel
theorem dX9_ring_18 : decode cX9_ring 18 = .ok (.iconst 0, 1) := by decide +kernel
theorem dX9_ring_19 : decode cX9_ring 19 = .ok (.iaload, 1) := by decide +kernel
theorem dX9_ring_20 : decode cX9_ring 20 = .ok (.istore_n 1, 1) := by decide +kernel
theorem dX9_ring_21 : decode cX9_ring 21 = .ok (.aload_n 0, 1) := by decide +kernel
theorem dX9_ring_22 : decode cX9_ring 22 = .ok (.getfield 30, 3) := by decide +kernel
theorem dX9_ring_25 : decode cX9_ring 25 = .ok (.iload_n 1, 1) := by decide +kernel
theorem dX9_ring_26 : decode cX9_ring 26 = .ok (.sipush 4096, 3) := by decide +kernel
theorem dX9_ring_29 : decode cX9_ring 29 = .ok (.ixor, 1) := by decide +kernel
theorem dX9_ring_30 : decode cX9_ring 30 = .ok (.iaload, 1) := by decide +kernel
theorem dX9_ring_31 : decode cX9_ring 31 = .ok (.istore_n 2, 1) := by decide +kernel
theorem dX9_ring_32 : decode cX9_ring 32 = .ok (.iconst 0, 1) := by decide +kernel
theorem dX9_ring_33 : decode cX9_ring 33 = .ok (.istore_n 3, 1) := by decide +kernel
theorem dX9_ring_34 : decode cX9_ring 34 = .ok (.iload_n 3, 1) := by decide +kernel
theorem dX9_ring_35 : decode cX9_ring 35 = .ok (.aload_n 0, 1) := by decide +kernel
theorem dX9_ring_36 : decode cX9_ring 36 = .ok (.getfield 196, 3) := by decide +kernel
theorem dX9_ring_39 : decode cX9_ring 39 = .ok (.if_icmp .ge 93, 3) := by decide +kernel
theorem dX9_ring_42 : decode cX9_ring 42 = .ok (.aload_n 0, 1) := by decide +kernel
theorem dX9_ring_43 : decode cX9_ring 43 = .ok (.getfield 33, 3) := by decide +kernel
theorem dX9_ring_46 : decode cX9_ring 46 = .ok (.iload_n 3, 1) := by decide +kernel
theorem dX9_ring_47 : decode cX9_ring 47 = .ok (.iaload, 1) := by decide +kernel
theorem dX9_ring_48 : decode cX9_ring 48 = .ok (.istore 4, 2) := by decide +kernel
theorem dX9_ring_50 : decode cX9_ring 50 = .ok (.aload_n 0, 1) := by decide +kernel
theorem dX9_ring_51 : decode cX9_ring 51 = .ok (.iload 4, 2) := by decide +kernel
theorem dX9_ring_53 : decode cX9_ring 53 = .ok (.invokevirtual 190, 3) := by decide +kernel
theorem dX9_ring_56 : decode cX9_ring 56 = .ok (.istore 5, 2) := by decide +kernel
theorem dX9_ring_58 : decode cX9_ring 58 = .ok (.iconst 0, 1) := by decide +kernel
theorem dX9_ring_59 : decode cX9_ring 59 = .ok (.istore 6, 2) := by decide +kernel
theorem dX9_ring_61 : decode cX9_ring 61 = .ok (.iload 6, 2) := by decide +kernel
theorem dX9_ring_63 : decode cX9_ring 63 = .ok (.bipush 16, 2) := by decide +kernel
theorem dX9_ring_65 : decode cX9_ring 65 = .ok (.if_icmp .ge 61, 3) := by decide +kernel
theorem dX9_ring_68 : decode cX9_ring 68 = .ok (.iload 5, 2) := by decide +kernel
theorem dX9_ring_70 : decode cX9_ring 70 = .ok (.iload 6, 2) := by decide +kernel
theorem dX9_ring_72 : decode cX9_ring 72 = .ok (.invokestatic 138, 3) := by decide +kernel
theorem dX9_ring_75 : decode cX9_ring 75 = .ok (.ifCond .eq 45, 3) := by decide +kernel
theorem dX9_ring_78 : decode cX9_ring 78 = .ok (.aload_n 0, 1) := by decide +kernel
theorem dX9_ring_79 : decode cX9_ring 79 = .ok (.iload 4, 2) := by decide +kernel
theorem dX9_ring_81 : decode cX9_ring 81 = .ok (.iload 6, 2) := by decide +kernel
theorem dX9_ring_83 : decode cX9_ring 83 = .ok (.invokevirtual 199, 3) := by decide +kernel
theorem dX9_ring_86 : decode cX9_ring 86 = .ok (.iload_n 1, 1) := by decide +kernel
theorem dX9_ring_87 : decode cX9_ring 87 = .ok (.if_icmp .ne 33, 3) := by decide +kernel
theorem dX9_ring_90 : decode cX9_ring 90 = .ok (.iload_n 2, 1) := by decide +kernel
theorem dX9_ring_91 : decode cX9_ring 91 = .ok (.ifCond .ge 15, 3) := by decide +kernel
theorem dX9_ring_94 : decode cX9_ring 94 = .ok (.aload_n 0, 1) := by decide +kernel
theorem dX9_ring_95 : decode cX9_ring 95 = .ok (.getfield 30, 3) := by decide +kernel
theorem dX9_ring_98 : decode cX9_ring 98 = .ok (.iload 4, 2) := by decide +kernel
theorem dX9_ring_100 : decode cX9_ring 100 = .ok (.iaload, 1) := by decide +kernel
theorem dX9_ring_101 : decode cX9_ring 101 = .ok (.iconst 1, 1) := by decide +kernel
theorem dX9_ring_102 : decode cX9_ring 102 = .ok (.iadd, 1) := by decide +kernel
theorem dX9_ring_103 : decode cX9_ring 103 = .ok (.goto 16, 3) := by decide +kernel
theorem dX9_ring_106 : decode cX9_ring 106 = .ok (.iload_n 2, 1) := by decide +kernel
theorem dX9_ring_107 : decode cX9_ring 107 = .ok (.aload_n 0, 1) := by decide +kernel
theorem dX9_ring_108 : decode cX9_ring 108 = .ok (.getfield 30, 3) := by decide +kernel
theorem dX9_ring_111 : decode cX9_ring 111 = .ok (.iload 4, 2) := by decide +kernel
theorem dX9_ring_113 : decode cX9_ring 113 = .ok (.iaload, 1) := by decide +kernel
theorem dX9_ring_114 : decode cX9_ring 114 = .ok (.iconst 1, 1) := by decide +kernel
theorem dX9_ring_115 : decode cX9_ring 115 = .ok (.iadd, 1) := by decide +kernel
theorem dX9_ring_116 : decode cX9_ring 116 = .ok (.invokestatic 122, 3) := by decide +kernel
theorem dX9_ring_119 : decode cX9_ring 119 = .ok (.istore_n 2, 1) := by decide +kernel
theorem dX9_ring_120 : decode cX9_ring 120 = .ok (.iinc 6 1, 3) := by decide +kernel
theorem dX9_ring_123 : decode cX9_ring 123 = .ok (.goto (-62), 3) := by decide +kernel
theorem dX9_ring_126 : decode cX9_ring 126 = .ok (.iinc 3 1, 3) := by decide +kernel
theorem dX9_ring_129 : decode cX9_ring 129 = .ok (.goto (-95), 3) := by decide +kernel
theorem dX9_ring_132 : decode cX9_ring 132 = .ok (.iload_n 2, 1) := by decide +kernel
theorem dX9_ring_133 : decode cX9_ring 133 = .ok (.ifCond .ge 8, 3) := by decide +kernel
theorem dX9_ring_136 : decode cX9_ring 136 = .ok (.ldc 189, 2) := by decide +kernel
theorem dX9_ring_138 : decode cX9_ring 138 = .ok (.goto 4, 3) := by decide +kernel
theorem dX9_ring_141 : decode cX9_ring 141 = .ok (.iload_n 2, 1) := by decide +kernel
theorem dX9_ring_142 : decode cX9_ring 142 = .ok (.ireturn, 1) := by decide +kernel
def L_X9_ring_61 (N : Nat) (σ : Hp) (v0 : Nat) (v1 : Int32) (v3 : Int32) (v4 : Int32) (v5 : Int32) : Nat → Int32 → Int32 → Option (Int32)
  | 0, _, _ => none
  | n + 1, v2, v6 =>
  if 16 ≤ v6 then
   some v2
  else
   (m_X9_has v5 v6).bind fun r14 =>
  if r14 = 0 then
   L_X9_ring_61 N σ v0 v1 v3 v4 v5 n v2 (v6 + 1)
  else
   (m_X9_behind N σ v0 v4 v6).bind fun r16 =>
  if r16 = v1 then
   if 0 ≤ v2 then
   (gR N σ v0 9 13).bind fun x19 =>
  (aI 0 N σ x19 v4).bind fun x20 =>
  (m_X9_smaller v2 (x20 + 1)).bind fun r21 =>
  L_X9_ring_61 N σ v0 v1 v3 v4 v5 n r21 (v6 + 1)
  else
   (gR N σ v0 9 13).bind fun x22 =>
  (aI 0 N σ x22 v4).bind fun x23 =>
  L_X9_ring_61 N σ v0 v1 v3 v4 v5 n (x23 + 1) (v6 + 1)
  else
   L_X9_ring_61 N σ v0 v1 v3 v4 v5 n v2 (v6 + 1)
def L_X9_ring_34 (N : Nat) (σ : Hp) (v0 : Nat) (v1 : Int32) : Nat → Int32 → Int32 → Option (Int32)
  | 0, _, _ => none
  | n + 1, v2, v3 =>
  (gI N σ v0 9 16).bind fun x8 =>
  if x8 ≤ v3 then
   some v2
  else
   (gR N σ v0 9 14).bind fun x10 =>
  (aI 0 N σ x10 v3).bind fun x11 =>
  (m_X9_movesOf N σ v0 x11).bind fun r12 =>
  (L_X9_ring_61 N σ v0 v1 v3 x11 r12 fu v2 0).bind fun z24 =>
  L_X9_ring_34 N σ v0 v1 n z24 (v3 + 1)
def m_X9_ring (N : Nat) (σ : Hp) (t0 : Nat) : Option (Int32 × Hp) :=
  (rv N σ t0 9).bind fun _ =>
  (m_X9_isBoard N σ t0).bind fun r1 =>
  if r1 = 0 then
   some ((-1000002), σ)
  else
   (m_X9_spreads N σ t0).bind fun r3 =>
  (gR N r3 t0 9 14).bind fun x4 =>
  (aI 0 N r3 x4 0).bind fun x5 =>
  (gR N r3 t0 9 13).bind fun x6 =>
  (aI 0 N r3 x6 (x5 ^^^ 4096)).bind fun x7 =>
  (L_X9_ring_34 N r3 t0 x5 fu x7 0).bind fun z25 =>
  if 0 ≤ z25 then
   some (z25, r3)
  else
   some ((-1000000), r3)
set_option maxHeartbeats 4000000 in
set_option maxRecDepth 100000 in
theorem lp_X9_ring_61 {κ : Kx} {ω : Om} (C : Cx κ 7 5 cX9_ring RX9 "ring") (Z : Zx κ ω) (σ : Hp) (v0 : Nat) (v1 : Int32) (v3 : Int32) (v4 : Int32) (v5 : Int32) {r : Int32} (hk : X κ 7 ω 126 [some (.ref v0), some (.int v1), some (.int r), some (.int v3), none, none, none] [] σ) : ∀ (n : Nat) (v2 : Int32) (v6 : Int32), L_X9_ring_61 ω.1 σ v0 v1 v3 v4 v5 n v2 v6 = some r → X κ 7 ω 61 [some (.ref v0), some (.int v1), some (.int v2), some (.int v3), some (.int v4), some (.int v5), some (.int v6)] [] σ := by
  intro n
  induction n with
  | zero => intro v2 v6 h; cases h
  | succ n ih =>
    intro v2 v6 h
    rw [L_X9_ring_61.eq_2] at h
    refine x_iload C (i := 6) dX9_ring_61 rfl ?_
    refine x_bipush C (v := 16) dX9_ring_63 (by decide) ?_
    refine x_icmp_ge C (tgt := 126) dX9_ring_65 (by decide) (fun c13 => ?_) (fun c13 => ?_)
    · have h := ifP h c13
      refine x_wk [true, true, true, true, false, false, false] (lo' := [some (.ref v0), some (.int v1), some (.int v2), some (.int v3), none, none, none]) rfl ?_
      obtain rfl := Option.some.inj h
      exact hk
    · have h := ifN h c13
      refine x_iload C (i := 5) dX9_ring_68 rfl ?_
      refine x_iload C (i := 6) dX9_ring_70 rfl ?_
      obtain ⟨r14, er14, h⟩ := ob h
      refine x_callSr C Z ms_X9_has lk_X9_138 (ct_X9_has (N := ω.1) (σ := σ) er14) (by decide) rfl rfl (Nat.le_of_ble_eq_true rfl) dX9_ring_72 ?_
      refine x_if_eq C (tgt := 120) dX9_ring_75 (by decide) (fun c15 => ?_) (fun c15 => ?_)
      · have h := ifP h c15
        refine x_iinc C (i := 6) (y := v6 + 1) (lo' := [some (.ref v0), some (.int v1), some (.int v2), some (.int v3), some (.int v4), some (.int v5), some (.int (v6 + 1))]) dX9_ring_120 rfl rfl (by decide) rfl rfl ?_
        refine x_goto C (tgt := 61) dX9_ring_123 (by decide) ?_
        refine x_wk [true, true, true, true, true, true, true] (lo' := [some (.ref v0), some (.int v1), some (.int v2), some (.int v3), some (.int v4), some (.int v5), some (.int (v6 + 1))]) rfl ?_
        exact ih v2 (v6 + 1) h
      · have h := ifN h c15
        refine x_aload_n C (i := 0) dX9_ring_78 rfl rfl ?_
        refine x_iload C (i := 4) dX9_ring_79 rfl ?_
        refine x_iload C (i := 6) dX9_ring_81 rfl ?_
        obtain ⟨r16, er16, h⟩ := ob h
        refine x_callVr C Z mv_X9_behind lk_X9_199 (rv_h er16) (ct_X9_behind er16) (by decide) rfl rfl (Nat.le_of_ble_eq_true rfl) dX9_ring_83 ?_
        refine x_iload_n C (i := 1) dX9_ring_86 rfl rfl ?_
        refine x_icmp_ne C (tgt := 120) dX9_ring_87 (by decide) (fun c17 => ?_) (fun c17 => ?_)
        · have h := ifN h c17
          refine x_iinc C (i := 6) (y := v6 + 1) (lo' := [some (.ref v0), some (.int v1), some (.int v2), some (.int v3), some (.int v4), some (.int v5), some (.int (v6 + 1))]) dX9_ring_120 rfl rfl (by decide) rfl rfl ?_
          refine x_goto C (tgt := 61) dX9_ring_123 (by decide) ?_
          refine x_wk [true, true, true, true, true, true, true] (lo' := [some (.ref v0), some (.int v1), some (.int v2), some (.int v3), some (.int v4), some (.int v5), some (.int (v6 + 1))]) rfl ?_
          exact ih v2 (v6 + 1) h
        · have h := ifP h c17
          refine x_iload_n C (i := 2) dX9_ring_90 rfl rfl ?_
          refine x_if_ge C (tgt := 106) dX9_ring_91 (by decide) (fun c18 => ?_) (fun c18 => ?_)
          · have h := ifP h c18
            refine x_iload_n C (i := 2) dX9_ring_106 rfl rfl ?_
            refine x_aload_n C (i := 0) dX9_ring_107 rfl rfl ?_
            obtain ⟨x19, ex19, h⟩ := ob h
            refine x_getR C fl_X9_30 dX9_ring_108 ex19 ?_
            refine x_iload C (i := 4) dX9_ring_111 rfl ?_
            obtain ⟨x20, ex20, h⟩ := ob h
            refine x_iald C dX9_ring_113 ex20 ?_
            refine x_iconst C (v := 1) dX9_ring_114 (by decide) ?_
            refine x_iadd C dX9_ring_115 ?_
            obtain ⟨r21, er21, h⟩ := ob h
            refine x_callSr C Z ms_X9_smaller lk_X9_122 (ct_X9_smaller (N := ω.1) (σ := σ) er21) (by decide) rfl rfl (Nat.le_of_ble_eq_true rfl) dX9_ring_116 ?_
            refine x_istore_n C (i := 2) (lo' := [some (.ref v0), some (.int v1), some (.int r21), some (.int v3), some (.int v4), some (.int v5), some (.int v6)]) dX9_ring_119 rfl (by decide) rfl rfl ?_
            refine x_iinc C (i := 6) (y := v6 + 1) (lo' := [some (.ref v0), some (.int v1), some (.int r21), some (.int v3), some (.int v4), some (.int v5), some (.int (v6 + 1))]) dX9_ring_120 rfl rfl (by decide) rfl rfl ?_
            refine x_goto C (tgt := 61) dX9_ring_123 (by decide) ?_
            refine x_wk [true, true, true, true, true, true, true] (lo' := [some (.ref v0), some (.int v1), some (.int r21), some (.int v3), some (.int v4), some (.int v5), some (.int (v6 + 1))]) rfl ?_
            exact ih r21 (v6 + 1) h
          · have h := ifN h c18
            refine x_aload_n C (i := 0) dX9_ring_94 rfl rfl ?_
            obtain ⟨x22, ex22, h⟩ := ob h
            refine x_getR C fl_X9_30 dX9_ring_95 ex22 ?_
            refine x_iload C (i := 4) dX9_ring_98 rfl ?_
            obtain ⟨x23, ex23, h⟩ := ob h
            refine x_iald C dX9_ring_100 ex23 ?_
            refine x_iconst C (v := 1) dX9_ring_101 (by decide) ?_
            refine x_iadd C dX9_ring_102 ?_
            refine x_goto C (tgt := 119) dX9_ring_103 (by decide) ?_
            refine x_istore_n C (i := 2) (lo' := [some (.ref v0), some (.int v1), some (.int (x23 + 1)), some (.int v3), some (.int v4), some (.int v5), some (.int v6)]) dX9_ring_119 rfl (by decide) rfl rfl ?_
            refine x_iinc C (i := 6) (y := v6 + 1) (lo' := [some (.ref v0), some (.int v1), some (.int (x23 + 1)), some (.int v3), some (.int v4), some (.int v5), some (.int (v6 + 1))]) dX9_ring_120 rfl rfl (by decide) rfl rfl ?_
            refine x_goto C (tgt := 61) dX9_ring_123 (by decide) ?_
            refine x_wk [true, true, true, true, true, true, true] (lo' := [some (.ref v0), some (.int v1), some (.int (x23 + 1)), some (.int v3), some (.int v4), some (.int v5), some (.int (v6 + 1))]) rfl ?_
            exact ih (x23 + 1) (v6 + 1) h
set_option maxHeartbeats 4000000 in
set_option maxRecDepth 100000 in
theorem lp_X9_ring_34 {κ : Kx} {ω : Om} (C : Cx κ 7 5 cX9_ring RX9 "ring") (Z : Zx κ ω) (σ : Hp) (v0 : Nat) (v1 : Int32) {r : Int32} (hk : X κ 7 ω 132 [none, none, some (.int r), none, none, none, none] [] σ) : ∀ (n : Nat) (v2 : Int32) (v3 : Int32), L_X9_ring_34 ω.1 σ v0 v1 n v2 v3 = some r → X κ 7 ω 34 [some (.ref v0), some (.int v1), some (.int v2), some (.int v3), none, none, none] [] σ := by
  intro n
  induction n with
  | zero => intro v2 v3 h; cases h
  | succ n ih =>
    intro v2 v3 h
    rw [L_X9_ring_34.eq_2] at h
    refine x_iload_n C (i := 3) dX9_ring_34 rfl rfl ?_
    refine x_aload_n C (i := 0) dX9_ring_35 rfl rfl ?_
    obtain ⟨x8, ex8, h⟩ := ob h
    refine x_getI C fl_X9_196 dX9_ring_36 ex8 ?_
    refine x_icmp_ge C (tgt := 132) dX9_ring_39 (by decide) (fun c9 => ?_) (fun c9 => ?_)
    · have h := ifP h c9
      refine x_wk [false, false, true, false, false, false, false] (lo' := [none, none, some (.int v2), none, none, none, none]) rfl ?_
      obtain rfl := Option.some.inj h
      exact hk
    · have h := ifN h c9
      refine x_aload_n C (i := 0) dX9_ring_42 rfl rfl ?_
      obtain ⟨x10, ex10, h⟩ := ob h
      refine x_getR C fl_X9_33 dX9_ring_43 ex10 ?_
      refine x_iload_n C (i := 3) dX9_ring_46 rfl rfl ?_
      obtain ⟨x11, ex11, h⟩ := ob h
      refine x_iald C dX9_ring_47 ex11 ?_
      refine x_istore C (i := 4) (lo' := [some (.ref v0), some (.int v1), some (.int v2), some (.int v3), some (.int x11), none, none]) dX9_ring_48 (by decide) rfl rfl ?_
      refine x_aload_n C (i := 0) dX9_ring_50 rfl rfl ?_
      refine x_iload C (i := 4) dX9_ring_51 rfl ?_
      obtain ⟨r12, er12, h⟩ := ob h
      refine x_callVr C Z mv_X9_movesOf lk_X9_190 (rv_h er12) (ct_X9_movesOf er12) (by decide) rfl rfl (Nat.le_of_ble_eq_true rfl) dX9_ring_53 ?_
      refine x_istore C (i := 5) (lo' := [some (.ref v0), some (.int v1), some (.int v2), some (.int v3), some (.int x11), some (.int r12), none]) dX9_ring_56 (by decide) rfl rfl ?_
      refine x_iconst C (v := 0) dX9_ring_58 (by decide) ?_
      refine x_istore C (i := 6) (lo' := [some (.ref v0), some (.int v1), some (.int v2), some (.int v3), some (.int x11), some (.int r12), some (.int 0)]) dX9_ring_59 (by decide) rfl rfl ?_
      obtain ⟨z24, ez24, h⟩ := ob h
      refine x_wk [true, true, true, true, true, true, true] (lo' := [some (.ref v0), some (.int v1), some (.int v2), some (.int v3), some (.int x11), some (.int r12), some (.int 0)]) rfl ?_
      refine lp_X9_ring_61 C Z σ v0 v1 v3 x11 r12 ?_ _ v2 0 ez24
      refine x_iinc C (i := 3) (y := v3 + 1) (lo' := [some (.ref v0), some (.int v1), some (.int z24), some (.int (v3 + 1)), none, none, none]) dX9_ring_126 rfl rfl (by decide) rfl rfl ?_
      refine x_goto C (tgt := 34) dX9_ring_129 (by decide) ?_
      refine x_wk [true, true, true, true, false, false, false] (lo' := [some (.ref v0), some (.int v1), some (.int z24), some (.int (v3 + 1)), none, none, none]) rfl ?_
      exact ih z24 (v3 + 1) h
set_option maxHeartbeats 4000000 in
set_option maxRecDepth 100000 in
theorem ct_X9_ring {l : Launch} {D : va_G} {cy : Nat → Nat} {N : Nat} {σ : Hp} {t0 : Nat} {r : Int32 × Hp} (h : m_X9_ring N σ t0 = some r) : Ct l D cy yX9_ring cX9_ring 7 (some .int) 5 [.ref t0] N σ (fun v s' => v = (some (.int r.1)) ∧ s' = r.2) := by
  refine Ct.intro [some (.ref t0), none, none, none, none, none, none] (by decide) rfl (Nat.le_of_ble_eq_true rfl) ?_
  intro κ ω e1 e2 e3 e4 C Z E
  subst e1; subst e2; subst e3; subst e4
  have C : Cx κ 7 5 cX9_ring RX9 "ring" := C
  have hE : ∀ x : Int32 × Hp, r = x → ((some (Value.int x.1)) = (some (Value.int r.1)) ∧ x.2 = r.2) := fun x hx => by subst hx; exact ⟨rfl, rfl⟩
  unfold m_X9_ring at h
  obtain ⟨_, _, h⟩ := ob h
  refine x_aload_n C (i := 0) dX9_ring_0 rfl rfl ?_
  obtain ⟨r1, er1, h⟩ := ob h
  refine x_callVr C Z mv_X9_isBoard lk_X9_183 (rv_h er1) (ct_X9_isBoard er1) (by decide) rfl rfl (Nat.le_of_ble_eq_true rfl) dX9_ring_1 ?_
  refine x_if_ne C (tgt := 10) dX9_ring_4 (by decide) (fun c2 => ?_) (fun c2 => ?_)
  · have h := ifN h c2
    refine x_aload_n C (i := 0) dX9_ring_10 rfl rfl ?_
    obtain ⟨r3, er3, h⟩ := ob h
    refine x_callVn C Z mv_X9_spreads lk_X9_202 (rv_h er3) (ct_X9_spreads er3) (by decide) rfl rfl (Nat.le_of_ble_eq_true rfl) dX9_ring_11 ?_
    refine x_aload_n C (i := 0) dX9_ring_14 rfl rfl ?_
    obtain ⟨x4, ex4, h⟩ := ob h
    refine x_getR C fl_X9_33 dX9_ring_15 ex4 ?_
    refine x_iconst C (v := 0) dX9_ring_18 (by decide) ?_
    obtain ⟨x5, ex5, h⟩ := ob h
    refine x_iald C dX9_ring_19 ex5 ?_
    refine x_istore_n C (i := 1) (lo' := [some (.ref t0), some (.int x5), none, none, none, none, none]) dX9_ring_20 rfl (by decide) rfl rfl ?_
    refine x_aload_n C (i := 0) dX9_ring_21 rfl rfl ?_
    obtain ⟨x6, ex6, h⟩ := ob h
    refine x_getR C fl_X9_30 dX9_ring_22 ex6 ?_
    refine x_iload_n C (i := 1) dX9_ring_25 rfl rfl ?_
    refine x_sipush C (v := 4096) dX9_ring_26 (by decide) ?_
    refine x_ixor C dX9_ring_29 ?_
    obtain ⟨x7, ex7, h⟩ := ob h
    refine x_iald C dX9_ring_30 ex7 ?_
    refine x_istore_n C (i := 2) (lo' := [some (.ref t0), some (.int x5), some (.int x7), none, none, none, none]) dX9_ring_31 rfl (by decide) rfl rfl ?_
    refine x_iconst C (v := 0) dX9_ring_32 (by decide) ?_
    refine x_istore_n C (i := 3) (lo' := [some (.ref t0), some (.int x5), some (.int x7), some (.int 0), none, none, none]) dX9_ring_33 rfl (by decide) rfl rfl ?_
    obtain ⟨z25, ez25, h⟩ := ob h
    refine x_wk [true, true, true, true, false, false, false] (lo' := [some (.ref t0), some (.int x5), some (.int x7), some (.int 0), none, none, none]) rfl ?_
    refine lp_X9_ring_34 C Z r3 t0 x5 ?_ _ x7 0 ez25
    refine x_iload_n C (i := 2) dX9_ring_132 rfl rfl ?_
    refine x_if_ge C (tgt := 141) dX9_ring_133 (by decide) (fun c26 => ?_) (fun c26 => ?_)
    · have h := ifP h c26
      refine x_iload_n C (i := 2) dX9_ring_141 rfl rfl ?_
      exact x_iret C E dX9_ring_142 (hE (z25, r3) (Option.some.inj h).symm)
    · have h := ifN h c26
      refine x_ldc C kc_X9_189 dX9_ring_136 ?_
      refine x_goto C (tgt := 142) dX9_ring_138 (by decide) ?_
      exact x_iret C E dX9_ring_142 (hE ((-1000000), r3) (Option.some.inj h).symm)
  · have h := ifP h c2
    refine x_ldc C kc_X9_176 dX9_ring_7 ?_
    exact x_iret C E dX9_ring_9 (hE ((-1000002), σ) (Option.some.inj h).symm)
theorem dX9_beginsWays_0 : decode cX9_beginsWays 0 = .ok (.aload_n 0, 1) := by decide +kernel
theorem dX9_beginsWays_1 : decode cX9_beginsWays 1 = .ok (.invokevirtual 166, 3) := by decide +kernel
theorem dX9_beginsWays_4 : decode cX9_beginsWays 4 = .ok (.iconst 0, 1) := by decide +kernel
theorem dX9_beginsWays_5 : decode cX9_beginsWays 5 = .ok (.istore_n 1, 1) := by decide +kernel
theorem dX9_beginsWays_6 : decode cX9_beginsWays 6 = .ok (.iload_n 1, 1) := by decide +kernel
theorem dX9_beginsWays_7 : decode cX9_beginsWays 7 = .ok (.sipush 8192, 3) := by decide +kernel
theorem dX9_beginsWays_10 : decode cX9_beginsWays 10 = .ok (.if_icmp .ge 16, 3) := by decide +kernel
theorem dX9_beginsWays_13 : decode cX9_beginsWays 13 = .ok (.aload_n 0, 1) := by decide +kernel
theorem dX9_beginsWays_14 : decode cX9_beginsWays 14 = .ok (.getfield 39, 3) := by decide +kernel
theorem dX9_beginsWays_17 : decode cX9_beginsWays 17 = .ok (.iload_n 1, 1) := by decide +kernel
theorem dX9_beginsWays_18 : decode cX9_beginsWays 18 = .ok (.lconst 0, 1) := by decide +kernel
theorem dX9_beginsWays_19 : decode cX9_beginsWays 19 = .ok (.lastore, 1) := by decide +kernel
theorem dX9_beginsWays_20 : decode cX9_beginsWays 20 = .ok (.iinc 1 1, 3) := by decide +kernel
theorem dX9_beginsWays_23 : decode cX9_beginsWays 23 = .ok (.goto (-17), 3) := by decide +kernel
theorem dX9_beginsWays_26 : decode cX9_beginsWays 26 = .ok (.aload_n 0, 1) := by decide +kernel
theorem dX9_beginsWays_27 : decode cX9_beginsWays 27 = .ok (.getfield 39, 3) := by decide +kernel
theorem dX9_beginsWays_30 : decode cX9_beginsWays 30 = .ok (.aload_n 0, 1) := by decide +kernel
theorem dX9_beginsWays_31 : decode cX9_beginsWays 31 = .ok (.invokevirtual 169, 3) := by decide +kernel
theorem dX9_beginsWays_34 : decode cX9_beginsWays 34 = .ok (.lconst 1, 1) := by decide +kernel
theorem dX9_beginsWays_35 : decode cX9_beginsWays 35 = .ok (.lastore, 1) := by decide +kernel
theorem dX9_beginsWays_36 : decode cX9_beginsWays 36 = .ok (.return_, 1) := by decide +kernel
def L_X9_beginsWays_6 (N : Nat) (v0 : Nat) : Nat → Hp → Int32 → Option (Hp)
  | 0, _, _ => none
  | n + 1, σ, v1 =>
  if 8192 ≤ v1 then
   some σ
  else
   (gR N σ v0 9 17).bind fun x3 =>
  (sJ N σ x3 v1 0).bind fun σ4 =>
  L_X9_beginsWays_6 N v0 n σ4 (v1 + 1)
def m_X9_beginsWays (N : Nat) (σ : Hp) (t0 : Nat) : Option (Hp) :=
  (rv N σ t0 9).bind fun _ =>
  (m_X9_asTold N σ t0).bind fun r1 =>
  (L_X9_beginsWays_6 N t0 fu r1 0).bind fun z5 =>
  (gR N z5 t0 9 17).bind fun x6 =>
  (m_X9_state N z5 t0).bind fun r7 =>
  (sJ N z5 x6 r7 1).bind fun σ8 =>
  some σ8
set_option maxHeartbeats 4000000 in
set_option maxRecDepth 100000 in
theorem lp_X9_beginsWays_6 {κ : Kx} {ω : Om} (C : Cx κ 2 1 cX9_beginsWays RX9 "beginsWays") (Z : Zx κ ω) (v0 : Nat) {r : Hp} (hk : X κ 2 ω 26 [some (.ref v0), none] [] r) : ∀ (n : Nat) (σ : Hp) (v1 : Int32), L_X9_beginsWays_6 ω.1 v0 n σ v1 = some r → X κ 2 ω 6 [some (.ref v0), some (.int v1)] [] σ := by
  intro n
  induction n with
  | zero => intro σ v1 h; cases h
  | succ n ih =>
    intro σ v1 h
    rw [L_X9_beginsWays_6.eq_2] at h
    refine x_iload_n C (i := 1) dX9_beginsWays_6 rfl rfl ?_
    refine x_sipush C (v := 8192) dX9_beginsWays_7 (by decide) ?_
    refine x_icmp_ge C (tgt := 26) dX9_beginsWays_10 (by decide) (fun c2 => ?_) (fun c2 => ?_)
    · have h := ifP h c2
      refine x_wk [true, false] (lo' := [some (.ref v0), none]) rfl ?_
      obtain rfl := Option.some.inj h
      exact hk
    · have h := ifN h c2
      refine x_aload_n C (i := 0) dX9_beginsWays_13 rfl rfl ?_
      obtain ⟨x3, ex3, h⟩ := ob h
      refine x_getR C fl_X9_39 dX9_beginsWays_14 ex3 ?_
      refine x_iload_n C (i := 1) dX9_beginsWays_17 rfl rfl ?_
      refine x_lconst C (v := 0) dX9_beginsWays_18 (by decide) ?_
      obtain ⟨σ4, eσ4, h⟩ := ob h
      refine x_last C dX9_beginsWays_19 eσ4 ?_
      refine x_iinc C (i := 1) (y := v1 + 1) (lo' := [some (.ref v0), some (.int (v1 + 1))]) dX9_beginsWays_20 rfl rfl (by decide) rfl rfl ?_
      refine x_goto C (tgt := 6) dX9_beginsWays_23 (by decide) ?_
      refine x_wk [true, true] (lo' := [some (.ref v0), some (.int (v1 + 1))]) rfl ?_
      exact ih σ4 (v1 + 1) h
set_option maxHeartbeats 4000000 in
set_option maxRecDepth 100000 in
theorem ct_X9_beginsWays {l : Launch} {D : va_G} {cy : Nat → Nat} {N : Nat} {σ : Hp} {t0 : Nat} {r : Hp} (h : m_X9_beginsWays N σ t0 = some r) : Ct l D cy yX9_beginsWays cX9_beginsWays 2 none 1 [.ref t0] N σ (fun v s' => v = none ∧ s' = r) := by
  refine Ct.intro [some (.ref t0), none] (by decide) rfl (Nat.le_of_ble_eq_true rfl) ?_
  intro κ ω e1 e2 e3 e4 C Z E
  subst e1; subst e2; subst e3; subst e4
  have C : Cx κ 2 1 cX9_beginsWays RX9 "beginsWays" := C
  have hE : ∀ x : Hp, r = x → ((none : Option Value) = none ∧ x = r) := fun x hx => by subst hx; exact ⟨rfl, rfl⟩
  unfold m_X9_beginsWays at h
  obtain ⟨_, _, h⟩ := ob h
  refine x_aload_n C (i := 0) dX9_beginsWays_0 rfl rfl ?_
  obtain ⟨r1, er1, h⟩ := ob h
  refine x_callVn C Z mv_X9_asTold lk_X9_166 (rv_h er1) (ct_X9_asTold er1) (by decide) rfl rfl (Nat.le_of_ble_eq_true rfl) dX9_beginsWays_1 ?_
  refine x_iconst C (v := 0) dX9_beginsWays_4 (by decide) ?_
  refine x_istore_n C (i := 1) (lo' := [some (.ref t0), some (.int 0)]) dX9_beginsWays_5 rfl (by decide) rfl rfl ?_
  obtain ⟨z5, ez5, h⟩ := ob h
  refine x_wk [true, true] (lo' := [some (.ref t0), some (.int 0)]) rfl ?_
  refine lp_X9_beginsWays_6 C Z t0 ?_ _ r1 0 ez5
  refine x_aload_n C (i := 0) dX9_beginsWays_26 rfl rfl ?_
  obtain ⟨x6, ex6, h⟩ := ob h
  refine x_getR C fl_X9_39 dX9_beginsWays_27 ex6 ?_
  refine x_aload_n C (i := 0) dX9_beginsWays_30 rfl rfl ?_
  obtain ⟨r7, er7, h⟩ := ob h
  refine x_callVr C Z mv_X9_state lk_X9_169 (rv_h er7) (ct_X9_state er7) (by decide) rfl rfl (Nat.le_of_ble_eq_true rfl) dX9_beginsWays_31 ?_
  refine x_lconst C (v := 1) dX9_beginsWays_34 (by decide) ?_
  obtain ⟨σ8, eσ8, h⟩ := ob h
  refine x_last C dX9_beginsWays_35 eσ8 ?_
  exact x_vret C E dX9_beginsWays_36 (hE σ8 (Option.some.inj h).symm)
theorem dX9_stepWays_0 : decode cX9_stepWays 0 = .ok (.iconst 0, 1) := by decide +kernel
theorem dX9_stepWays_1 : decode cX9_stepWays 1 = .ok (.istore_n 2, 1) := by decide +kernel
theorem dX9_stepWays_2 : decode cX9_stepWays 2 = .ok (.iload_n 2, 1) := by decide +kernel
theorem dX9_stepWays_3 : decode cX9_stepWays 3 = .ok (.sipush 8192, 3) := by decide +kernel
theorem dX9_stepWays_6 : decode cX9_stepWays 6 = .ok (.if_icmp .ge 16, 3) := by decide +kernel
theorem dX9_stepWays_9 : decode cX9_stepWays 9 = .ok (.aload_n 0, 1) := by decide +kernel
theorem dX9_stepWays_10 : decode cX9_stepWays 10 = .ok (.getfield 43, 3) := by decide +kernel
theorem dX9_stepWays_13 : decode cX9_stepWays 13 = .ok (.iload_n 2, 1) := by decide +kernel
theorem dX9_stepWays_14 : decode cX9_stepWays 14 = .ok (.lconst 0, 1) := by decide +kernel
theorem dX9_stepWays_15 : decode cX9_stepWays 15 = .ok (.lastore, 1) := by decide +kernel
theorem dX9_stepWays_16 : decode cX9_stepWays 16 = .ok (.iinc 2 1, 3) := by decide +kernel
theorem dX9_stepWays_19 : decode cX9_stepWays 19 = .ok (.goto (-17), 3) := by decide +kernel
theorem dX9_stepWays_22 : decode cX9_stepWays 22 = .ok (.iconst 0, 1) := by decide +kernel
theorem dX9_stepWays_23 : decode cX9_stepWays 23 = .ok (.istore_n 2, 1) := by decide +kernel
theorem dX9_stepWays_24 : decode cX9_stepWays 24 = .ok (.iload_n 2, 1) := by decide +kernel
theorem dX9_stepWays_25 : decode cX9_stepWays 25 = .ok (.sipush 8192, 3) := by decide +kernel
theorem dX9_stepWays_28 : decode cX9_stepWays 28 = .ok (.if_icmp .ge 159, 3) := by decide +kernel
theorem dX9_stepWays_31 : decode cX9_stepWays 31 = .ok (.aload_n 0, 1) := by decide +kernel
theorem dX9_stepWays_32 : decode cX9_stepWays 32 = .ok (.getfield 39, 3) := by decide +kernel
theorem dX9_stepWays_35 : decode cX9_stepWays 35 = .ok (.iload_n 2, 1) := by decide +kernel
theorem dX9_stepWays_36 : decode cX9_stepWays 36 = .ok (.laload, 1) := by decide +kernel
theorem dX9_stepWays_37 : decode cX9_stepWays 37 = .ok (.lconst 0, 1) := by decide +kernel
theorem dX9_stepWays_38 : decode cX9_stepWays 38 = .ok (.lcmp, 1) := by decide +kernel
theorem dX9_stepWays_39 : decode cX9_stepWays 39 = .ok (.ifCond .le 142, 3) := by decide +kernel
theorem dX9_stepWays_42 : decode cX9_stepWays 42 = .ok (.aload_n 0, 1) := by decide +kernel
theorem dX9_stepWays_43 : decode cX9_stepWays 43 = .ok (.iload_n 2, 1) := by decide +kernel
theorem dX9_stepWays_44 : decode cX9_stepWays 44 = .ok (.invokevirtual 190, 3) := by decide +kernel
theorem dX9_stepWays_47 : decode cX9_stepWays 47 = .ok (.istore_n 3, 1) := by decide +kernel
theorem dX9_stepWays_48 : decode cX9_stepWays 48 = .ok (.iconst 0, 1) := by decide +kernel
theorem dX9_stepWays_49 : decode cX9_stepWays 49 = .ok (.istore 4, 2) := by decide +kernel
theorem dX9_stepWays_51 : decode cX9_stepWays 51 = .ok (.iconst 0, 1) := by decide +kernel
theorem dX9_stepWays_52 : decode cX9_stepWays 52 = .ok (.istore 5, 2) := by decide +kernel
theorem dX9_stepWays_54 : decode cX9_stepWays 54 = .ok (.iload 5, 2) := by decide +kernel
theorem dX9_stepWays_56 : decode cX9_stepWays 56 = .ok (.bipush 16, 2) := by decide +kernel
theorem dX9_stepWays_58 : decode cX9_stepWays 58 = .ok (.if_icmp .ge 20, 3) := by decide +kernel
theorem dX9_stepWays_61 : decode cX9_stepWays 61 = .ok (.iload 4, 2) := by decide +kernel
theorem dX9_stepWays_63 : decode cX9_stepWays 63 = .ok (.iload_n 3, 1) := by decide +kernel
theorem dX9_stepWays_64 : decode cX9_stepWays 64 = .ok (.iload 5, 2) := by decide +kernel
theorem dX9_stepWays_66 : decode cX9_stepWays 66 = .ok (.ishr, 1) := by decide +kernel
theorem dX9_stepWays_67 : decode cX9_stepWays 67 = .ok (.iconst 1, 1) := by decide +kernel
theorem dX9_stepWays_68 : decode cX9_stepWays 68 = .ok (.iand, 1) := by decide +kernel
theorem dX9_stepWays_69 : decode cX9_stepWays 69 = .ok (.iadd, 1) := by decide +kernel
theorem dX9_stepWays_70 : decode cX9_stepWays 70 = .ok (.istore 4, 2) := by decide +kernel
theorem dX9_stepWays_72 : decode cX9_stepWays 72 = .ok (.iinc 5 1, 3) := by decide +kernel
theorem dX9_stepWays_75 : decode cX9_stepWays 75 = .ok (.goto (-21), 3) := by decide +kernel
theorem dX9_stepWays_78 : decode cX9_stepWays 78 = .ok (.iload_n 1, 1) := by decide +kernel
theorem dX9_stepWays_79 : decode cX9_stepWays 79 = .ok (.ifCond .eq 18, 3) := by decide +kernel
theorem dX9_stepWays_82 : decode cX9_stepWays 82 = .ok (.iload 4, 2) := by decide +kernel
theorem dX9_stepWays_84 : decode cX9_stepWays 84 = .ok (.ifCond .le 13, 3) := by decide +kernel
theorem dX9_stepWays_87 : decode cX9_stepWays 87 = .ok (.ldc2_w 228, 3) := by decide +kernel
theorem dX9_stepWays_90 : decode cX9_stepWays 90 = .ok (.iload 4, 2) := by decide +kernel
theorem dX9_stepWays_92 : decode cX9_stepWays 92 = .ok (.i2l, 1) := by decide +kernel
theorem dX9_stepWays_93 : decode cX9_stepWays 93 = .ok (.ldiv, 1) := by decide +kernel
theorem dX9_stepWays_94 : decode cX9_stepWays 94 = .ok (.goto 4, 3) := by decide +kernel
theorem dX9_stepWays_97 : decode cX9_stepWays 97 = .ok (.lconst 1, 1) := by decide +kernel
theorem dX9_stepWays_98 : decode cX9_stepWays 98 = .ok (.lstore 5, 2) := by decide +kernel
theorem dX9_stepWays_100 : decode cX9_stepWays 100 = .ok (.iconst 0, 1) := by decide +kernel
theorem dX9_stepWays_101 : decode cX9_stepWays 101 = .ok (.istore 7, 2) := by decide +kernel
theorem dX9_stepWays_103 : decode cX9_stepWays 103 = .ok (.iload 7, 2) := by decide +kernel
theorem dX9_stepWays_105 : decode cX9_stepWays 105 = .ok (.bipush 16, 2) := by decide +kernel
theorem dX9_stepWays_107 : decode cX9_stepWays 107 = .ok (.if_icmp .ge 42, 3) := by decide +kernel
theorem dX9_stepWays_110 : decode cX9_stepWays 110 = .ok (.iload_n 3, 1) := by decide +kernel
theorem dX9_stepWays_111 : decode cX9_stepWays 111 = .ok (.iload 7, 2) := by decide +kernel
theorem dX9_stepWays_113 : decode cX9_stepWays 113 = .ok (.invokestatic 138, 3) := by decide +kernel
theorem dX9_stepWays_116 : decode cX9_stepWays 116 = .ok (.ifCond .eq 27, 3) := by decide +kernel
theorem dX9_stepWays_119 : decode cX9_stepWays 119 = .ok (.aload_n 0, 1) := by decide +kernel
theorem dX9_stepWays_120 : decode cX9_stepWays 120 = .ok (.getfield 43, 3) := by decide +kernel
theorem dX9_stepWays_123 : decode cX9_stepWays 123 = .ok (.aload_n 0, 1) := by decide +kernel
theorem dX9_stepWays_124 : decode cX9_stepWays 124 = .ok (.iload_n 2, 1) := by decide +kernel
theorem dX9_stepWays_125 : decode cX9_stepWays 125 = .ok (.iload 7, 2) := by decide +kernel
theorem dX9_stepWays_127 : decode cX9_stepWays 127 = .ok (.invokevirtual 199, 3) := by decide +kernel
theorem dX9_stepWays_130 : decode cX9_stepWays 130 = .ok (.dup2, 1) := by decide +kernel
theorem dX9_stepWays_131 : decode cX9_stepWays 131 = .ok (.laload, 1) := by decide +kernel
theorem dX9_stepWays_132 : decode cX9_stepWays 132 = .ok (.aload_n 0, 1) := by decide +kernel
theorem dX9_stepWays_133 : decode cX9_stepWays 133 = .ok (.getfield 39, 3) := by decide +kernel
theorem dX9_stepWays_136 : decode cX9_stepWays 136 = .ok (.iload_n 2, 1) := by decide +kernel
theorem dX9_stepWays_137 : decode cX9_stepWays 137 = .ok (.laload, 1) := by decide +kernel
theorem dX9_stepWays_138 : decode cX9_stepWays 138 = .ok (.lload 5, 2) := by decide +kernel
theorem dX9_stepWays_140 : decode cX9_stepWays 140 = .ok (.lmul, 1) := by decide +kernel
theorem dX9_stepWays_141 : decode cX9_stepWays 141 = .ok (.ladd, 1) := by decide +kernel
theorem dX9_stepWays_142 : decode cX9_stepWays 142 = .ok (.lastore, 1) := by decide +kernel
theorem dX9_stepWays_143 : decode cX9_stepWays 143 = .ok (.iinc 7 1, 3) := by decide +kernel
theorem dX9_stepWays_146 : decode cX9_stepWays 146 = .ok (.goto (-43), 3) := by decide +kernel
theorem dX9_stepWays_149 : decode cX9_stepWays 149 = .ok (.aload_n 0, 1) := by decide +kernel
theorem dX9_stepWays_150 : decode cX9_stepWays 150 = .ok (.getfield 43, 3) := by decide +kernel
theorem dX9_stepWays_153 : decode cX9_stepWays 153 = .ok (.iload_n 2, 1) := by decide +kernel
theorem dX9_stepWays_154 : decode cX9_stepWays 154 = .ok (.dup2, 1) := by decide +kernel
theorem dX9_stepWays_155 : decode cX9_stepWays 155 = .ok (.laload, 1) := by decide +kernel
theorem dX9_stepWays_156 : decode cX9_stepWays 156 = .ok (.iload_n 1, 1) := by decide +kernel
theorem dX9_stepWays_157 : decode cX9_stepWays 157 = .ok (.ifCond .eq 21, 3) := by decide +kernel
theorem dX9_stepWays_160 : decode cX9_stepWays 160 = .ok (.iload 4, 2) := by decide +kernel
theorem dX9_stepWays_162 : decode cX9_stepWays 162 = .ok (.ifCond .ne 16, 3) := by decide +kernel
theorem dX9_stepWays_165 : decode cX9_stepWays 165 = .ok (.ldc2_w 228, 3) := by decide +kernel
theorem dX9_stepWays_168 : decode cX9_stepWays 168 = .ok (.aload_n 0, 1) := by decide +kernel
theorem dX9_stepWays_169 : decode cX9_stepWays 169 = .ok (.getfield 39, 3) := by decide +kernel
theorem dX9_stepWays_172 : decode cX9_stepWays 172 = .ok (.iload_n 2, 1) := by decide +kernel
theorem dX9_stepWays_173 : decode cX9_stepWays 173 = .ok (.laload, 1) := by decide +kernel
theorem dX9_stepWays_174 : decode cX9_stepWays 174 = .ok (.lmul, 1) := by decide +kernel
theorem dX9_stepWays_175 : decode cX9_stepWays 175 = .ok (.goto 4, 3) := by decide +kernel
theorem dX9_stepWays_178 : decode cX9_stepWays 178 = .ok (.lconst 0, 1) := by decide +kernel
theorem dX9_stepWays_179 : decode cX9_stepWays 179 = .ok (.ladd, 1) := by decide +kernel
theorem dX9_stepWays_180 : decode cX9_stepWays 180 = .ok (.lastore, 1) := by decide +kernel
theorem dX9_stepWays_181 : decode cX9_stepWays 181 = .ok (.iinc 2 1, 3) := by decide +kernel
theorem dX9_stepWays_184 : decode cX9_stepWays 184 = .ok (.goto (-160), 3) := by decide +kernel
theorem dX9_stepWays_187 : decode cX9_stepWays 187 = .ok (.iconst 0, 1) := by decide +kernel
theorem dX9_stepWays_188 : decode cX9_stepWays 188 = .ok (.istore_n 2, 1) := by decide +kernel
theorem dX9_stepWays_189 : decode cX9_stepWays 189 = .ok (.iload_n 2, 1) := by decide +kernel
theorem dX9_stepWays_190 : decode cX9_stepWays 190 = .ok (.sipush 8192, 3) := by decide +kernel
theorem dX9_stepWays_193 : decode cX9_stepWays 193 = .ok (.if_icmp .ge 21, 3) := by decide +kernel
theorem dX9_stepWays_196 : decode cX9_stepWays 196 = .ok (.aload_n 0, 1) := by decide +kernel
theorem dX9_stepWays_197 : decode cX9_stepWays 197 = .ok (.getfield 39, 3) := by decide +kernel
theorem dX9_stepWays_200 : decode cX9_stepWays 200 = .ok (.iload_n 2, 1) := by decide +kernel
theorem dX9_stepWays_201 : decode cX9_stepWays 201 = .ok (.aload_n 0, 1) := by decide +kernel
theorem dX9_stepWays_202 : decode cX9_stepWays 202 = .ok (.getfield 43, 3) := by decide +kernel
theorem dX9_stepWays_205 : decode cX9_stepWays 205 = .ok (.iload_n 2, 1) := by decide +kernel
theorem dX9_stepWays_206 : decode cX9_stepWays 206 = .ok (.laload, 1) := by decide +kernel
theorem dX9_stepWays_207 : decode cX9_stepWays 207 = .ok (.lastore, 1) := by decide +kernel
theorem dX9_stepWays_208 : decode cX9_stepWays 208 = .ok (.iinc 2 1, 3) := by decide +kernel
theorem dX9_stepWays_211 : decode cX9_stepWays 211 = .ok (.goto (-22), 3) := by decide +kernel
theorem dX9_stepWays_214 : decode cX9_stepWays 214 = .ok (.return_, 1) := by decide +kernel
def L_X9_stepWays_2 (N : Nat) (v0 : Nat) (v1 : Int32) : Nat → Hp → Int32 → Option (Hp)
  | 0, _, _ => none
  | n + 1, σ, v2 =>
  if 8192 ≤ v2 then
   some σ
  else
   (gR N σ v0 9 18).bind fun x2 =>
  (sJ N σ x2 v2 0).bind fun σ3 =>
  L_X9_stepWays_2 N v0 v1 n σ3 (v2 + 1)
def L_X9_stepWays_54 (N : Nat) (σ : Hp) (v0 : Nat) (v1 : Int32) (v2 : Int32) (v3 : Int32) : Nat → Int32 → Int32 → Option (Int32)
  | 0, _, _ => none
  | n + 1, v4, v5 =>
  if 16 ≤ v5 then
   some v4
  else
   lt (v4 + ((v3 >>> (v5 &&& 31)) &&& 1)) fun y11 =>
  L_X9_stepWays_54 N σ v0 v1 v2 v3 n y11 (v5 + 1)
def L_X9_stepWays_103 (N : Nat) (v0 : Nat) (v1 : Int32) (v2 : Int32) (v3 : Int32) (v4 : Int32) (v5 : Int32) : Nat → Hp → Int32 → Option (Hp)
  | 0, _, _ => none
  | n + 1, σ, v7 =>
  if 16 ≤ v7 then
   some σ
  else
   (m_X9_has v3 v7).bind fun r16 =>
  if r16 = 0 then
   L_X9_stepWays_103 N v0 v1 v2 v3 v4 v5 n σ (v7 + 1)
  else
   (gR N σ v0 9 18).bind fun x18 =>
  (m_X9_behind N σ v0 v2 v7).bind fun r19 =>
  (aJ N σ x18 r19).bind fun x20 =>
  (gR N σ v0 9 17).bind fun x21 =>
  (aJ N σ x21 v2).bind fun x22 =>
  (sJ N σ x18 r19 (x20 + (x22 * v5))).bind fun σ23 =>
  L_X9_stepWays_103 N v0 v1 v2 v3 v4 v5 n σ23 (v7 + 1)
def L_X9_stepWays_24 (N : Nat) (v0 : Nat) (v1 : Int32) : Nat → Hp → Int32 → Option (Hp)
  | 0, _, _ => none
  | n + 1, σ, v2 =>
  if 8192 ≤ v2 then
   some σ
  else
   (gR N σ v0 9 17).bind fun x6 =>
  (aJ N σ x6 v2).bind fun x7 =>
  if (lg_cmp x7 0) ≤ 0 then
   L_X9_stepWays_24 N v0 v1 n σ (v2 + 1)
  else
   (m_X9_movesOf N σ v0 v2).bind fun r9 =>
  (L_X9_stepWays_54 N σ v0 v1 v2 r9 fu 0 0).bind fun z12 =>
  ((if v1 = 0 then
   some (.inl (v2, σ))
  else
   if z12 ≤ 0 then
   some (.inl (v2, σ))
  else
   (nzJ z12.toInt64).bind fun u40 =>
  (L_X9_stepWays_103 N v0 v1 v2 r9 z12 (60 / z12.toInt64) fu σ 0).bind fun z41 =>
  (gR N z41 v0 9 18).bind fun x42 =>
  (aJ N z41 x42 v2).bind fun x43 =>
  if v1 = 0 then
   (sJ N z41 x42 v2 (x43 + 0)).bind fun σ45 =>
  Option.map Sum.inr (L_X9_stepWays_24 N v0 v1 n σ45 (v2 + 1))
  else
   ((if z12 = 0 then
   (gR N z41 v0 9 17).bind fun x51 =>
  (aJ N z41 x51 v2).bind fun x52 =>
  some (60 * x52)
  else
   some 0) : Option (Int64)).bind fun z46 =>
  (sJ N z41 x42 v2 (x43 + z46)).bind fun σ47 =>
  Option.map Sum.inr (L_X9_stepWays_24 N v0 v1 n σ47 (v2 + 1))) : Option ((Int32 × Hp) ⊕ (Hp))).bind fun z13 =>
  cS z13 (fun w14 => (L_X9_stepWays_103 N v0 v1 w14.1 r9 z12 1 fu w14.2 0).bind fun z24 =>
  (gR N z24 v0 9 18).bind fun x25 =>
  (aJ N z24 x25 w14.1).bind fun x26 =>
  if v1 = 0 then
   (sJ N z24 x25 w14.1 (x26 + 0)).bind fun σ28 =>
  L_X9_stepWays_24 N v0 v1 n σ28 (w14.1 + 1)
  else
   ((if z12 = 0 then
   (gR N z24 v0 9 17).bind fun x34 =>
  (aJ N z24 x34 w14.1).bind fun x35 =>
  some (60 * x35)
  else
   some 0) : Option (Int64)).bind fun z29 =>
  (sJ N z24 x25 w14.1 (x26 + z29)).bind fun σ30 =>
  L_X9_stepWays_24 N v0 v1 n σ30 (w14.1 + 1)) (fun q53 => some q53)
def L_X9_stepWays_189 (N : Nat) (v0 : Nat) : Nat → Hp → Int32 → Option (Hp)
  | 0, _, _ => none
  | n + 1, σ, v2 =>
  if 8192 ≤ v2 then
   some σ
  else
   (gR N σ v0 9 17).bind fun x56 =>
  (gR N σ v0 9 18).bind fun x57 =>
  (aJ N σ x57 v2).bind fun x58 =>
  (sJ N σ x56 v2 x58).bind fun σ59 =>
  L_X9_stepWays_189 N v0 n σ59 (v2 + 1)
def m_X9_stepWays (N : Nat) (σ : Hp) (t0 : Nat) (p1 : Int32) : Option (Hp) :=
  (rv N σ t0 9).bind fun _ =>
  (L_X9_stepWays_2 N t0 p1 fu σ 0).bind fun z4 =>
  (L_X9_stepWays_24 N t0 p1 fu z4 0).bind fun z54 =>
  (L_X9_stepWays_189 N t0 fu z54 0).bind fun z60 =>
  some z60
set_option maxHeartbeats 4000000 in
set_option maxRecDepth 100000 in
theorem lp_X9_stepWays_2 {κ : Kx} {ω : Om} (C : Cx κ 8 4 cX9_stepWays RX9 "stepWays") (Z : Zx κ ω) (v0 : Nat) (v1 : Int32) {r : Hp} (hk : X κ 8 ω 22 [some (.ref v0), some (.int v1), none, none, none, none, none, none] [] r) : ∀ (n : Nat) (σ : Hp) (v2 : Int32), L_X9_stepWays_2 ω.1 v0 v1 n σ v2 = some r → X κ 8 ω 2 [some (.ref v0), some (.int v1), some (.int v2), none, none, none, none, none] [] σ := by
  intro n
  induction n with
  | zero => intro σ v2 h; cases h
  | succ n ih =>
    intro σ v2 h
    rw [L_X9_stepWays_2.eq_2] at h
    refine x_iload_n C (i := 2) dX9_stepWays_2 rfl rfl ?_
    refine x_sipush C (v := 8192) dX9_stepWays_3 (by decide) ?_
    refine x_icmp_ge C (tgt := 22) dX9_stepWays_6 (by decide) (fun c1 => ?_) (fun c1 => ?_)
    · have h := ifP h c1
      refine x_wk [true, true, false, false, false, false, false, false] (lo' := [some (.ref v0), some (.int v1), none, none, none, none, none, none]) rfl ?_
      obtain rfl := Option.some.inj h
      exact hk
    · have h := ifN h c1
      refine x_aload_n C (i := 0) dX9_stepWays_9 rfl rfl ?_
      obtain ⟨x2, ex2, h⟩ := ob h
      refine x_getR C fl_X9_43 dX9_stepWays_10 ex2 ?_
      refine x_iload_n C (i := 2) dX9_stepWays_13 rfl rfl ?_
      refine x_lconst C (v := 0) dX9_stepWays_14 (by decide) ?_
      obtain ⟨σ3, eσ3, h⟩ := ob h
      refine x_last C dX9_stepWays_15 eσ3 ?_
      refine x_iinc C (i := 2) (y := v2 + 1) (lo' := [some (.ref v0), some (.int v1), some (.int (v2 + 1)), none, none, none, none, none]) dX9_stepWays_16 rfl rfl (by decide) rfl rfl ?_
      refine x_goto C (tgt := 2) dX9_stepWays_19 (by decide) ?_
      refine x_wk [true, true, true, false, false, false, false, false] (lo' := [some (.ref v0), some (.int v1), some (.int (v2 + 1)), none, none, none, none, none]) rfl ?_
      exact ih σ3 (v2 + 1) h
set_option maxHeartbeats 4000000 in
set_option maxRecDepth 100000 in
theorem lp_X9_stepWays_54 {κ : Kx} {ω : Om} (C : Cx κ 8 4 cX9_stepWays RX9 "stepWays") (Z : Zx κ ω) (σ : Hp) (v0 : Nat) (v1 : Int32) (v2 : Int32) (v3 : Int32) {r : Int32} (hk : X κ 8 ω 78 [some (.ref v0), some (.int v1), some (.int v2), some (.int v3), some (.int r), none, none, none] [] σ) : ∀ (n : Nat) (v4 : Int32) (v5 : Int32), L_X9_stepWays_54 ω.1 σ v0 v1 v2 v3 n v4 v5 = some r → X κ 8 ω 54 [some (.ref v0), some (.int v1), some (.int v2), some (.int v3), some (.int v4), some (.int v5), none, none] [] σ := by
  intro n
  induction n with
  | zero => intro v4 v5 h; cases h
  | succ n ih =>
    intro v4 v5 h
    rw [L_X9_stepWays_54.eq_2] at h
    refine x_iload C (i := 5) dX9_stepWays_54 rfl ?_
    refine x_bipush C (v := 16) dX9_stepWays_56 (by decide) ?_
    refine x_icmp_ge C (tgt := 78) dX9_stepWays_58 (by decide) (fun c10 => ?_) (fun c10 => ?_)
    · have h := ifP h c10
      refine x_wk [true, true, true, true, true, false, false, false] (lo' := [some (.ref v0), some (.int v1), some (.int v2), some (.int v3), some (.int v4), none, none, none]) rfl ?_
      obtain rfl := Option.some.inj h
      exact hk
    · have h := ifN h c10
      refine x_iload C (i := 4) dX9_stepWays_61 rfl ?_
      refine x_iload_n C (i := 3) dX9_stepWays_63 rfl rfl ?_
      refine x_iload C (i := 5) dX9_stepWays_64 rfl ?_
      refine x_ishr C dX9_stepWays_66 ?_
      refine x_iconst C (v := 1) dX9_stepWays_67 (by decide) ?_
      refine x_iand C dX9_stepWays_68 ?_
      refine x_iadd C dX9_stepWays_69 ?_
      refine x_topi (fun y11 ey11 => ?_)
      have h := lt_e h ey11
      refine x_istore C (i := 4) (lo' := [some (.ref v0), some (.int v1), some (.int v2), some (.int v3), some (.int y11), some (.int v5), none, none]) dX9_stepWays_70 (by decide) rfl rfl ?_
      refine x_iinc C (i := 5) (y := v5 + 1) (lo' := [some (.ref v0), some (.int v1), some (.int v2), some (.int v3), some (.int y11), some (.int (v5 + 1)), none, none]) dX9_stepWays_72 rfl rfl (by decide) rfl rfl ?_
      refine x_goto C (tgt := 54) dX9_stepWays_75 (by decide) ?_
      refine x_wk [true, true, true, true, true, true, false, false] (lo' := [some (.ref v0), some (.int v1), some (.int v2), some (.int v3), some (.int y11), some (.int (v5 + 1)), none, none]) rfl ?_
      exact ih y11 (v5 + 1) h
set_option maxHeartbeats 4000000 in
set_option maxRecDepth 100000 in
theorem lp_X9_stepWays_103 {κ : Kx} {ω : Om} (C : Cx κ 8 4 cX9_stepWays RX9 "stepWays") (Z : Zx κ ω) (v0 : Nat) (v1 : Int32) (v2 : Int32) (v3 : Int32) (v4 : Int32) (v5 : Int32) {r : Hp} (hk : X κ 8 ω 149 [some (.ref v0), some (.int v1), some (.int v2), none, some (.int v4), none, none, none] [] r) : ∀ (n : Nat) (σ : Hp) (v7 : Int32), L_X9_stepWays_103 ω.1 v0 v1 v2 v3 v4 v5 n σ v7 = some r → X κ 8 ω 103 [some (.ref v0), some (.int v1), some (.int v2), some (.int v3), some (.int v4), some (.int v5), none, some (.int v7)] [] σ := by
  intro n
  induction n with
  | zero => intro σ v7 h; cases h
  | succ n ih =>
    intro σ v7 h
    rw [L_X9_stepWays_103.eq_2] at h
    refine x_iload C (i := 7) dX9_stepWays_103 rfl ?_
    refine x_bipush C (v := 16) dX9_stepWays_105 (by decide) ?_
    refine x_icmp_ge C (tgt := 149) dX9_stepWays_107 (by decide) (fun c15 => ?_) (fun c15 => ?_)
    · have h := ifP h c15
      refine x_wk [true, true, true, false, true, false, false, false] (lo' := [some (.ref v0), some (.int v1), some (.int v2), none, some (.int v4), none, none, none]) rfl ?_
      obtain rfl := Option.some.inj h
      exact hk
    · have h := ifN h c15
      refine x_iload_n C (i := 3) dX9_stepWays_110 rfl rfl ?_
      refine x_iload C (i := 7) dX9_stepWays_111 rfl ?_
      obtain ⟨r16, er16, h⟩ := ob h
      refine x_callSr C Z ms_X9_has lk_X9_138 (ct_X9_has (N := ω.1) (σ := σ) er16) (by decide) rfl rfl (Nat.le_of_ble_eq_true rfl) dX9_stepWays_113 ?_
      refine x_if_eq C (tgt := 143) dX9_stepWays_116 (by decide) (fun c17 => ?_) (fun c17 => ?_)
      · have h := ifP h c17
        refine x_iinc C (i := 7) (y := v7 + 1) (lo' := [some (.ref v0), some (.int v1), some (.int v2), some (.int v3), some (.int v4), some (.int v5), none, some (.int (v7 + 1))]) dX9_stepWays_143 rfl rfl (by decide) rfl rfl ?_
        refine x_goto C (tgt := 103) dX9_stepWays_146 (by decide) ?_
        refine x_wk [true, true, true, true, true, true, false, true] (lo' := [some (.ref v0), some (.int v1), some (.int v2), some (.int v3), some (.int v4), some (.int v5), none, some (.int (v7 + 1))]) rfl ?_
        exact ih σ (v7 + 1) h
      · have h := ifN h c17
        refine x_aload_n C (i := 0) dX9_stepWays_119 rfl rfl ?_
        obtain ⟨x18, ex18, h⟩ := ob h
        refine x_getR C fl_X9_43 dX9_stepWays_120 ex18 ?_
        refine x_aload_n C (i := 0) dX9_stepWays_123 rfl rfl ?_
        refine x_iload_n C (i := 2) dX9_stepWays_124 rfl rfl ?_
        refine x_iload C (i := 7) dX9_stepWays_125 rfl ?_
        obtain ⟨r19, er19, h⟩ := ob h
        refine x_callVr C Z mv_X9_behind lk_X9_199 (rv_h er19) (ct_X9_behind er19) (by decide) rfl rfl (Nat.le_of_ble_eq_true rfl) dX9_stepWays_127 ?_
        refine x_dup2 C dX9_stepWays_130 rfl rfl ?_
        obtain ⟨x20, ex20, h⟩ := ob h
        refine x_lald C dX9_stepWays_131 ex20 ?_
        refine x_aload_n C (i := 0) dX9_stepWays_132 rfl rfl ?_
        obtain ⟨x21, ex21, h⟩ := ob h
        refine x_getR C fl_X9_39 dX9_stepWays_133 ex21 ?_
        refine x_iload_n C (i := 2) dX9_stepWays_136 rfl rfl ?_
        obtain ⟨x22, ex22, h⟩ := ob h
        refine x_lald C dX9_stepWays_137 ex22 ?_
        refine x_lload C (i := 5) dX9_stepWays_138 rfl ?_
        refine x_lmul C dX9_stepWays_140 ?_
        refine x_ladd C dX9_stepWays_141 ?_
        obtain ⟨σ23, eσ23, h⟩ := ob h
        refine x_last C dX9_stepWays_142 eσ23 ?_
        refine x_iinc C (i := 7) (y := v7 + 1) (lo' := [some (.ref v0), some (.int v1), some (.int v2), some (.int v3), some (.int v4), some (.int v5), none, some (.int (v7 + 1))]) dX9_stepWays_143 rfl rfl (by decide) rfl rfl ?_
        refine x_goto C (tgt := 103) dX9_stepWays_146 (by decide) ?_
        refine x_wk [true, true, true, true, true, true, false, true] (lo' := [some (.ref v0), some (.int v1), some (.int v2), some (.int v3), some (.int v4), some (.int v5), none, some (.int (v7 + 1))]) rfl ?_
        exact ih σ23 (v7 + 1) h
set_option maxHeartbeats 4000000 in
set_option maxRecDepth 100000 in
theorem lp_X9_stepWays_24 {κ : Kx} {ω : Om} (C : Cx κ 8 4 cX9_stepWays RX9 "stepWays") (Z : Zx κ ω) (v0 : Nat) (v1 : Int32) {r : Hp} (hk : X κ 8 ω 187 [some (.ref v0), none, none, none, none, none, none, none] [] r) : ∀ (n : Nat) (σ : Hp) (v2 : Int32), L_X9_stepWays_24 ω.1 v0 v1 n σ v2 = some r → X κ 8 ω 24 [some (.ref v0), some (.int v1), some (.int v2), none, none, none, none, none] [] σ := by
  intro n
  induction n with
  | zero => intro σ v2 h; cases h
  | succ n ih =>
    intro σ v2 h
    rw [L_X9_stepWays_24.eq_2] at h
    refine x_iload_n C (i := 2) dX9_stepWays_24 rfl rfl ?_
    refine x_sipush C (v := 8192) dX9_stepWays_25 (by decide) ?_
    refine x_icmp_ge C (tgt := 187) dX9_stepWays_28 (by decide) (fun c5 => ?_) (fun c5 => ?_)
    · have h := ifP h c5
      refine x_wk [true, false, false, false, false, false, false, false] (lo' := [some (.ref v0), none, none, none, none, none, none, none]) rfl ?_
      obtain rfl := Option.some.inj h
      exact hk
    · have h := ifN h c5
      refine x_aload_n C (i := 0) dX9_stepWays_31 rfl rfl ?_
      obtain ⟨x6, ex6, h⟩ := ob h
      refine x_getR C fl_X9_39 dX9_stepWays_32 ex6 ?_
      refine x_iload_n C (i := 2) dX9_stepWays_35 rfl rfl ?_
      obtain ⟨x7, ex7, h⟩ := ob h
      refine x_lald C dX9_stepWays_36 ex7 ?_
      refine x_lconst C (v := 0) dX9_stepWays_37 (by decide) ?_
      refine x_lcmp C dX9_stepWays_38 ?_
      refine x_if_le C (tgt := 181) dX9_stepWays_39 (by decide) (fun c8 => ?_) (fun c8 => ?_)
      · have h := ifP h c8
        refine x_iinc C (i := 2) (y := v2 + 1) (lo' := [some (.ref v0), some (.int v1), some (.int (v2 + 1)), none, none, none, none, none]) dX9_stepWays_181 rfl rfl (by decide) rfl rfl ?_
        refine x_goto C (tgt := 24) dX9_stepWays_184 (by decide) ?_
        refine x_wk [true, true, true, false, false, false, false, false] (lo' := [some (.ref v0), some (.int v1), some (.int (v2 + 1)), none, none, none, none, none]) rfl ?_
        exact ih σ (v2 + 1) h
      · have h := ifN h c8
        refine x_aload_n C (i := 0) dX9_stepWays_42 rfl rfl ?_
        refine x_iload_n C (i := 2) dX9_stepWays_43 rfl rfl ?_
        obtain ⟨r9, er9, h⟩ := ob h
        refine x_callVr C Z mv_X9_movesOf lk_X9_190 (rv_h er9) (ct_X9_movesOf er9) (by decide) rfl rfl (Nat.le_of_ble_eq_true rfl) dX9_stepWays_44 ?_
        refine x_istore_n C (i := 3) (lo' := [some (.ref v0), some (.int v1), some (.int v2), some (.int r9), none, none, none, none]) dX9_stepWays_47 rfl (by decide) rfl rfl ?_
        refine x_iconst C (v := 0) dX9_stepWays_48 (by decide) ?_
        refine x_istore C (i := 4) (lo' := [some (.ref v0), some (.int v1), some (.int v2), some (.int r9), some (.int 0), none, none, none]) dX9_stepWays_49 (by decide) rfl rfl ?_
        refine x_iconst C (v := 0) dX9_stepWays_51 (by decide) ?_
        refine x_istore C (i := 5) (lo' := [some (.ref v0), some (.int v1), some (.int v2), some (.int r9), some (.int 0), some (.int 0), none, none]) dX9_stepWays_52 (by decide) rfl rfl ?_
        obtain ⟨z12, ez12, h⟩ := ob h
        refine x_wk [true, true, true, true, true, true, false, false] (lo' := [some (.ref v0), some (.int v1), some (.int v2), some (.int r9), some (.int 0), some (.int 0), none, none]) rfl ?_
        refine lp_X9_stepWays_54 C Z σ v0 v1 v2 r9 ?_ _ 0 0 ez12
        refine x_iload_n C (i := 1) dX9_stepWays_78 rfl rfl ?_
        obtain ⟨z13, hz13, hO37⟩ := ob h
        have hJ36 : ∀ w14, z13 = .inl w14 → X κ 8 ω 97 [some (.ref v0), some (.int v1), some (.int w14.1), some (.int r9), some (.int z12), none, none, none] [] w14.2 := by
          intro w14 hu
          subst hu
          have h := cS_l hO37
          refine x_lconst C (v := 1) dX9_stepWays_97 (by decide) ?_
          refine x_lstore C (i := 5) (lo' := [some (.ref v0), some (.int v1), some (.int w14.1), some (.int r9), some (.int z12), some (.long 1), none, none]) dX9_stepWays_98 (by decide) rfl rfl ?_
          refine x_iconst C (v := 0) dX9_stepWays_100 (by decide) ?_
          refine x_istore C (i := 7) (lo' := [some (.ref v0), some (.int v1), some (.int w14.1), some (.int r9), some (.int z12), some (.long 1), none, some (.int 0)]) dX9_stepWays_101 (by decide) rfl rfl ?_
          obtain ⟨z24, ez24, h⟩ := ob h
          refine x_wk [true, true, true, true, true, true, false, true] (lo' := [some (.ref v0), some (.int v1), some (.int w14.1), some (.int r9), some (.int z12), some (.long 1), none, some (.int 0)]) rfl ?_
          refine lp_X9_stepWays_103 C Z v0 v1 w14.1 r9 z12 1 ?_ _ w14.2 0 ez24
          refine x_aload_n C (i := 0) dX9_stepWays_149 rfl rfl ?_
          obtain ⟨x25, ex25, h⟩ := ob h
          refine x_getR C fl_X9_43 dX9_stepWays_150 ex25 ?_
          refine x_iload_n C (i := 2) dX9_stepWays_153 rfl rfl ?_
          refine x_dup2 C dX9_stepWays_154 rfl rfl ?_
          obtain ⟨x26, ex26, h⟩ := ob h
          refine x_lald C dX9_stepWays_155 ex26 ?_
          refine x_iload_n C (i := 1) dX9_stepWays_156 rfl rfl ?_
          refine x_if_eq C (tgt := 178) dX9_stepWays_157 (by decide) (fun c27 => ?_) (fun c27 => ?_)
          · have h := ifP h c27
            refine x_lconst C (v := 0) dX9_stepWays_178 (by decide) ?_
            refine x_ladd C dX9_stepWays_179 ?_
            obtain ⟨σ28, eσ28, h⟩ := ob h
            refine x_last C dX9_stepWays_180 eσ28 ?_
            refine x_iinc C (i := 2) (y := w14.1 + 1) (lo' := [some (.ref v0), some (.int v1), some (.int (w14.1 + 1)), none, some (.int z12), none, none, none]) dX9_stepWays_181 rfl rfl (by decide) rfl rfl ?_
            refine x_goto C (tgt := 24) dX9_stepWays_184 (by decide) ?_
            refine x_wk [true, true, true, false, false, false, false, false] (lo' := [some (.ref v0), some (.int v1), some (.int (w14.1 + 1)), none, none, none, none, none]) rfl ?_
            exact ih σ28 (w14.1 + 1) h
          · have h := ifN h c27
            refine x_iload C (i := 4) dX9_stepWays_160 rfl ?_
            obtain ⟨z29, hz29, h⟩ := ob h
            have hJ31 : X κ 8 ω 179 [some (.ref v0), some (.int v1), some (.int w14.1), none, none, none, none, none] [.long z29, .long x26, .int w14.1, .ref x25] z24 := by
              refine x_ladd C dX9_stepWays_179 ?_
              obtain ⟨σ30, eσ30, h⟩ := ob h
              refine x_last C dX9_stepWays_180 eσ30 ?_
              refine x_iinc C (i := 2) (y := w14.1 + 1) (lo' := [some (.ref v0), some (.int v1), some (.int (w14.1 + 1)), none, none, none, none, none]) dX9_stepWays_181 rfl rfl (by decide) rfl rfl ?_
              refine x_goto C (tgt := 24) dX9_stepWays_184 (by decide) ?_
              refine x_wk [true, true, true, false, false, false, false, false] (lo' := [some (.ref v0), some (.int v1), some (.int (w14.1 + 1)), none, none, none, none, none]) rfl ?_
              exact ih σ30 (w14.1 + 1) h
            clear h
            have h := hz29
            refine x_if_ne C (tgt := 178) dX9_stepWays_162 (by decide) (fun c33 => ?_) (fun c33 => ?_)
            · have h := ifN h c33
              refine x_lconst C (v := 0) dX9_stepWays_178 (by decide) ?_
              refine x_wk [true, true, true, false, false, false, false, false] (lo' := [some (.ref v0), some (.int v1), some (.int w14.1), none, none, none, none, none]) rfl ?_
              obtain rfl := Option.some.inj h
              exact hJ31
            · have h := ifP h c33
              refine x_ldc2 C kj_X9_228 dX9_stepWays_165 ?_
              refine x_aload_n C (i := 0) dX9_stepWays_168 rfl rfl ?_
              obtain ⟨x34, ex34, h⟩ := ob h
              refine x_getR C fl_X9_39 dX9_stepWays_169 ex34 ?_
              refine x_iload_n C (i := 2) dX9_stepWays_172 rfl rfl ?_
              obtain ⟨x35, ex35, h⟩ := ob h
              refine x_lald C dX9_stepWays_173 ex35 ?_
              refine x_lmul C dX9_stepWays_174 ?_
              refine x_goto C (tgt := 179) dX9_stepWays_175 (by decide) ?_
              refine x_wk [true, true, true, false, false, false, false, false] (lo' := [some (.ref v0), some (.int v1), some (.int w14.1), none, none, none, none, none]) rfl ?_
              obtain rfl := Option.some.inj h
              exact hJ31
        have h := hz13
        refine x_if_eq C (tgt := 97) dX9_stepWays_79 (by decide) (fun c38 => ?_) (fun c38 => ?_)
        · have h := ifP h c38
          refine x_wk [true, true, true, true, true, false, false, false] (lo' := [some (.ref v0), some (.int v1), some (.int v2), some (.int r9), some (.int z12), none, none, none]) rfl ?_
          exact hJ36 _ (Option.some.inj h).symm
        · have h := ifN h c38
          refine x_iload C (i := 4) dX9_stepWays_82 rfl ?_
          refine x_if_le C (tgt := 97) dX9_stepWays_84 (by decide) (fun c39 => ?_) (fun c39 => ?_)
          · have h := ifP h c39
            refine x_wk [true, true, true, true, true, false, false, false] (lo' := [some (.ref v0), some (.int v1), some (.int v2), some (.int r9), some (.int z12), none, none, none]) rfl ?_
            exact hJ36 _ (Option.some.inj h).symm
          · have h := ifN h c39
            refine x_ldc2 C kj_X9_228 dX9_stepWays_87 ?_
            refine x_iload C (i := 4) dX9_stepWays_90 rfl ?_
            refine x_i2l C dX9_stepWays_92 ?_
            obtain ⟨u40, eu40, h⟩ := ob h
            refine x_ldiv C dX9_stepWays_93 (nzJ_ne eu40) ?_
            refine x_goto C (tgt := 98) dX9_stepWays_94 (by decide) ?_
            refine x_lstore C (i := 5) (lo' := [some (.ref v0), some (.int v1), some (.int v2), some (.int r9), some (.int z12), some (.long (60 / z12.toInt64)), none, none]) dX9_stepWays_98 (by decide) rfl rfl ?_
            refine x_iconst C (v := 0) dX9_stepWays_100 (by decide) ?_
            refine x_istore C (i := 7) (lo' := [some (.ref v0), some (.int v1), some (.int v2), some (.int r9), some (.int z12), some (.long (60 / z12.toInt64)), none, some (.int 0)]) dX9_stepWays_101 (by decide) rfl rfl ?_
            obtain ⟨z41, ez41, h⟩ := ob h
            refine x_wk [true, true, true, true, true, true, false, true] (lo' := [some (.ref v0), some (.int v1), some (.int v2), some (.int r9), some (.int z12), some (.long (60 / z12.toInt64)), none, some (.int 0)]) rfl ?_
            refine lp_X9_stepWays_103 C Z v0 v1 v2 r9 z12 (60 / z12.toInt64) ?_ _ σ 0 ez41
            refine x_aload_n C (i := 0) dX9_stepWays_149 rfl rfl ?_
            obtain ⟨x42, ex42, h⟩ := ob h
            refine x_getR C fl_X9_43 dX9_stepWays_150 ex42 ?_
            refine x_iload_n C (i := 2) dX9_stepWays_153 rfl rfl ?_
            refine x_dup2 C dX9_stepWays_154 rfl rfl ?_
            obtain ⟨x43, ex43, h⟩ := ob h
            refine x_lald C dX9_stepWays_155 ex43 ?_
            refine x_iload_n C (i := 1) dX9_stepWays_156 rfl rfl ?_
            refine x_if_eq C (tgt := 178) dX9_stepWays_157 (by decide) (fun c44 => ?_) (fun c44 => ?_)
            · have h := ifP h c44
              refine x_lconst C (v := 0) dX9_stepWays_178 (by decide) ?_
              refine x_ladd C dX9_stepWays_179 ?_
              obtain ⟨σ45, eσ45, h⟩ := ob h
              refine x_last C dX9_stepWays_180 eσ45 ?_
              refine x_iinc C (i := 2) (y := v2 + 1) (lo' := [some (.ref v0), some (.int v1), some (.int (v2 + 1)), none, some (.int z12), none, none, none]) dX9_stepWays_181 rfl rfl (by decide) rfl rfl ?_
              refine x_goto C (tgt := 24) dX9_stepWays_184 (by decide) ?_
              have h := escM h hO37
              refine x_wk [true, true, true, false, false, false, false, false] (lo' := [some (.ref v0), some (.int v1), some (.int (v2 + 1)), none, none, none, none, none]) rfl ?_
              exact ih σ45 (v2 + 1) h
            · have h := ifN h c44
              refine x_iload C (i := 4) dX9_stepWays_160 rfl ?_
              obtain ⟨z46, hz46, h⟩ := ob h
              have hJ48 : X κ 8 ω 179 [some (.ref v0), some (.int v1), some (.int v2), none, none, none, none, none] [.long z46, .long x43, .int v2, .ref x42] z41 := by
                refine x_ladd C dX9_stepWays_179 ?_
                obtain ⟨σ47, eσ47, h⟩ := ob h
                refine x_last C dX9_stepWays_180 eσ47 ?_
                refine x_iinc C (i := 2) (y := v2 + 1) (lo' := [some (.ref v0), some (.int v1), some (.int (v2 + 1)), none, none, none, none, none]) dX9_stepWays_181 rfl rfl (by decide) rfl rfl ?_
                refine x_goto C (tgt := 24) dX9_stepWays_184 (by decide) ?_
                have h := escM h hO37
                refine x_wk [true, true, true, false, false, false, false, false] (lo' := [some (.ref v0), some (.int v1), some (.int (v2 + 1)), none, none, none, none, none]) rfl ?_
                exact ih σ47 (v2 + 1) h
              clear h
              have h := hz46
              refine x_if_ne C (tgt := 178) dX9_stepWays_162 (by decide) (fun c50 => ?_) (fun c50 => ?_)
              · have h := ifN h c50
                refine x_lconst C (v := 0) dX9_stepWays_178 (by decide) ?_
                refine x_wk [true, true, true, false, false, false, false, false] (lo' := [some (.ref v0), some (.int v1), some (.int v2), none, none, none, none, none]) rfl ?_
                obtain rfl := Option.some.inj h
                exact hJ48
              · have h := ifP h c50
                refine x_ldc2 C kj_X9_228 dX9_stepWays_165 ?_
                refine x_aload_n C (i := 0) dX9_stepWays_168 rfl rfl ?_
                obtain ⟨x51, ex51, h⟩ := ob h
                refine x_getR C fl_X9_39 dX9_stepWays_169 ex51 ?_
                refine x_iload_n C (i := 2) dX9_stepWays_172 rfl rfl ?_
                obtain ⟨x52, ex52, h⟩ := ob h
                refine x_lald C dX9_stepWays_173 ex52 ?_
                refine x_lmul C dX9_stepWays_174 ?_
                refine x_goto C (tgt := 179) dX9_stepWays_175 (by decide) ?_
                refine x_wk [true, true, true, false, false, false, false, false] (lo' := [some (.ref v0), some (.int v1), some (.int v2), none, none, none, none, none]) rfl ?_
                obtain rfl := Option.some.inj h
                exact hJ48
set_option maxHeartbeats 4000000 in
set_option maxRecDepth 100000 in
theorem lp_X9_stepWays_189 {κ : Kx} {ω : Om} (C : Cx κ 8 4 cX9_stepWays RX9 "stepWays") (Z : Zx κ ω) (v0 : Nat) {r : Hp} (hk : X κ 8 ω 214 [none, none, none, none, none, none, none, none] [] r) : ∀ (n : Nat) (σ : Hp) (v2 : Int32), L_X9_stepWays_189 ω.1 v0 n σ v2 = some r → X κ 8 ω 189 [some (.ref v0), none, some (.int v2), none, none, none, none, none] [] σ := by
  intro n
  induction n with
  | zero => intro σ v2 h; cases h
  | succ n ih =>
    intro σ v2 h
    rw [L_X9_stepWays_189.eq_2] at h
    refine x_iload_n C (i := 2) dX9_stepWays_189 rfl rfl ?_
    refine x_sipush C (v := 8192) dX9_stepWays_190 (by decide) ?_
    refine x_icmp_ge C (tgt := 214) dX9_stepWays_193 (by decide) (fun c55 => ?_) (fun c55 => ?_)
    · have h := ifP h c55
      refine x_wk [false, false, false, false, false, false, false, false] (lo' := [none, none, none, none, none, none, none, none]) rfl ?_
      obtain rfl := Option.some.inj h
      exact hk
    · have h := ifN h c55
      refine x_aload_n C (i := 0) dX9_stepWays_196 rfl rfl ?_
      obtain ⟨x56, ex56, h⟩ := ob h
      refine x_getR C fl_X9_39 dX9_stepWays_197 ex56 ?_
      refine x_iload_n C (i := 2) dX9_stepWays_200 rfl rfl ?_
      refine x_aload_n C (i := 0) dX9_stepWays_201 rfl rfl ?_
      obtain ⟨x57, ex57, h⟩ := ob h
      refine x_getR C fl_X9_43 dX9_stepWays_202 ex57 ?_
      refine x_iload_n C (i := 2) dX9_stepWays_205 rfl rfl ?_
      obtain ⟨x58, ex58, h⟩ := ob h
      refine x_lald C dX9_stepWays_206 ex58 ?_
      obtain ⟨σ59, eσ59, h⟩ := ob h
      refine x_last C dX9_stepWays_207 eσ59 ?_
      refine x_iinc C (i := 2) (y := v2 + 1) (lo' := [some (.ref v0), none, some (.int (v2 + 1)), none, none, none, none, none]) dX9_stepWays_208 rfl rfl (by decide) rfl rfl ?_
      refine x_goto C (tgt := 189) dX9_stepWays_211 (by decide) ?_
      refine x_wk [true, false, true, false, false, false, false, false] (lo' := [some (.ref v0), none, some (.int (v2 + 1)), none, none, none, none, none]) rfl ?_
      exact ih σ59 (v2 + 1) h
set_option maxHeartbeats 4000000 in
set_option maxRecDepth 100000 in
theorem ct_X9_stepWays {l : Launch} {D : va_G} {cy : Nat → Nat} {N : Nat} {σ : Hp} {t0 : Nat} {p1 : Int32} {r : Hp} (h : m_X9_stepWays N σ t0 p1 = some r) : Ct l D cy yX9_stepWays cX9_stepWays 8 none 4 [.ref t0, .int p1] N σ (fun v s' => v = none ∧ s' = r) := by
  refine Ct.intro [some (.ref t0), some (.int p1), none, none, none, none, none, none] (by decide) rfl (Nat.le_of_ble_eq_true rfl) ?_
  intro κ ω e1 e2 e3 e4 C Z E
  subst e1; subst e2; subst e3; subst e4
  have C : Cx κ 8 4 cX9_stepWays RX9 "stepWays" := C
  have hE : ∀ x : Hp, r = x → ((none : Option Value) = none ∧ x = r) := fun x hx => by subst hx; exact ⟨rfl, rfl⟩
  unfold m_X9_stepWays at h
  obtain ⟨_, _, h⟩ := ob h
  refine x_iconst C (v := 0) dX9_stepWays_0 (by decide) ?_
  refine x_istore_n C (i := 2) (lo' := [some (.ref t0), some (.int p1), some (.int 0), none, none, none, none, none]) dX9_stepWays_1 rfl (by decide) rfl rfl ?_
  obtain ⟨z4, ez4, h⟩ := ob h
  refine x_wk [true, true, true, false, false, false, false, false] (lo' := [some (.ref t0), some (.int p1), some (.int 0), none, none, none, none, none]) rfl ?_
  refine lp_X9_stepWays_2 C Z t0 p1 ?_ _ σ 0 ez4
  refine x_iconst C (v := 0) dX9_stepWays_22 (by decide) ?_
  refine x_istore_n C (i := 2) (lo' := [some (.ref t0), some (.int p1), some (.int 0), none, none, none, none, none]) dX9_stepWays_23 rfl (by decide) rfl rfl ?_
  obtain ⟨z54, ez54, h⟩ := ob h
  refine x_wk [true, true, true, false, false, false, false, false] (lo' := [some (.ref t0), some (.int p1), some (.int 0), none, none, none, none, none]) rfl ?_
  refine lp_X9_stepWays_24 C Z t0 p1 ?_ _ z4 0 ez54
  refine x_iconst C (v := 0) dX9_stepWays_187 (by decide) ?_
  refine x_istore_n C (i := 2) (lo' := [some (.ref t0), none, some (.int 0), none, none, none, none, none]) dX9_stepWays_188 rfl (by decide) rfl rfl ?_
  obtain ⟨z60, ez60, h⟩ := ob h
  refine x_wk [true, false, true, false, false, false, false, false] (lo' := [some (.ref t0), none, some (.int 0), none, none, none, none, none]) rfl ?_
  refine lp_X9_stepWays_189 C Z t0 ?_ _ z54 0 ez60
  exact x_vret C E dX9_stepWays_214 (hE z60 (Option.some.inj h).symm)
theorem dX9_ways_0 : decode cX9_ways 0 = .ok (.aload_n 0, 1) := by decide +kernel
theorem dX9_ways_1 : decode cX9_ways 1 = .ok (.invokevirtual 183, 3) := by decide +kernel
theorem dX9_ways_4 : decode cX9_ways 4 = .ok (.ifCond .ne 7, 3) := by decide +kernel
theorem dX9_ways_7 : decode cX9_ways 7 = .ok (.ldc2_w 230, 3) := by decide +kernel
theorem dX9_ways_10 : decode cX9_ways 10 = .ok (.lreturn, 1) := by decide +kernel
theorem dX9_ways_11 : decode cX9_ways 11 = .ok (.iload_n 1, 1) := by decide +kernel
theorem dX9_ways_12 : decode cX9_ways 12 = .ok (.invokestatic 60, 3) := by decide +kernel
theorem dX9_ways_15 : decode cX9_ways 15 = .ok (.ifCond .eq 15, 3) := by decide +kernel
theorem dX9_ways_18 : decode cX9_ways 18 = .ok (.iload_n 3, 1) := by decide +kernel
theorem dX9_ways_19 : decode cX9_ways 19 = .ok (.i2l, 1) := by decide +kernel
theorem dX9_ways_20 : decode cX9_ways 20 = .ok (.lconst 0, 1) := by decide +kernel
theorem dX9_ways_21 : decode cX9_ways 21 = .ok (.ldc2_w 232, 3) := by decide +kernel
theorem dX9_ways_24 : decode cX9_ways 24 = .ok (.invokestatic 56, 3) := by decide +kernel
theorem dX9_ways_27 : decode cX9_ways 27 = .ok (.ifCond .ne 7, 3) := by decide +kernel
theorem dX9_ways_30 : decode cX9_ways 30 = .ok (.ldc2_w 234, 3) := by decide +kernel
theorem dX9_ways_33 : decode cX9_ways 33 = .ok (.lreturn, 1) := by decide +kernel
theorem dX9_ways_34 : decode cX9_ways 34 = .ok (.aload_n 0, 1) := by decide +kernel
theorem dX9_ways_35 : decode cX9_ways 35 = .ok (.iload_n 1, 1) := by decide +kernel
theorem dX9_ways_36 : decode cX9_ways 36 = .ok (.iload_n 2, 1) := by decide +kernel
theorem dX9_ways_37 : decode cX9_ways 37 = .ok (.aload_n 0, 1) := by decide +kernel
theorem dX9_ways_38 : decode cX9_ways 38 = .ok (.getfield 23, 3) := by decide +kernel
theorem dX9_ways_41 : decode cX9_ways 41 = .ok (.iconst 2, 1) := by decide +kernel
theorem dX9_ways_42 : decode cX9_ways 42 = .ok (.iaload, 1) := by decide +kernel
theorem dX9_ways_43 : decode cX9_ways 43 = .ok (.invokevirtual 211, 3) := by decide +kernel
theorem dX9_ways_46 : decode cX9_ways 46 = .ok (.istore 4, 2) := by decide +kernel
theorem dX9_ways_48 : decode cX9_ways 48 = .ok (.iload 4, 2) := by decide +kernel
theorem dX9_ways_50 : decode cX9_ways 50 = .ok (.ifCond .eq 11, 3) := by decide +kernel
theorem dX9_ways_53 : decode cX9_ways 53 = .ok (.aload_n 0, 1) := by decide +kernel
theorem dX9_ways_54 : decode cX9_ways 54 = .ok (.iload 4, 2) := by decide +kernel
theorem dX9_ways_56 : decode cX9_ways 56 = .ok (.invokevirtual 67, 3) := by decide +kernel
theorem dX9_ways_59 : decode cX9_ways 59 = .ok (.i2l, 1) := by decide +kernel
theorem dX9_ways_60 : decode cX9_ways 60 = .ok (.lreturn, 1) := by decide +kernel
theorem dX9_ways_61 : decode cX9_ways 61 = .ok (.aload_n 0, 1) := by decide +kernel
theorem dX9_ways_62 : decode cX9_ways 62 = .ok (.iconst 0, 1) := by decide +kernel
theorem dX9_ways_63 : decode cX9_ways 63 = .ok (.putfield 49, 3) := by decide +kernel
theorem dX9_ways_66 : decode cX9_ways 66 = .ok (.aload_n 0, 1) := by decide +kernel
theorem dX9_ways_67 : decode cX9_ways 67 = .ok (.iload_n 1, 1) := by decide +kernel
theorem dX9_ways_68 : decode cX9_ways 68 = .ok (.iload_n 2, 1) := by decide +kernel
theorem dX9_ways_69 : decode cX9_ways 69 = .ok (.invokevirtual 214, 3) := by decide +kernel
theorem dX9_ways_72 : decode cX9_ways 72 = .ok (.istore 5, 2) := by decide +kernel
theorem dX9_ways_74 : decode cX9_ways 74 = .ok (.iload 5, 2) := by decide +kernel
theorem dX9_ways_76 : decode cX9_ways 76 = .ok (.ifCond .ge 5, 3) := by decide +kernel
theorem dX9_ways_79 : decode cX9_ways 79 = .ok (.lconst 0, 1) := by decide +kernel
theorem dX9_ways_80 : decode cX9_ways 80 = .ok (.lreturn, 1) := by decide +kernel
theorem dX9_ways_81 : decode cX9_ways 81 = .ok (.aload_n 0, 1) := by decide +kernel
theorem dX9_ways_82 : decode cX9_ways 82 = .ok (.invokevirtual 236, 3) := by decide +kernel
theorem dX9_ways_85 : decode cX9_ways 85 = .ok (.iconst 0, 1) := by decide +kernel
theorem dX9_ways_86 : decode cX9_ways 86 = .ok (.istore 6, 2) := by decide +kernel
theorem dX9_ways_88 : decode cX9_ways 88 = .ok (.iload 6, 2) := by decide +kernel
theorem dX9_ways_90 : decode cX9_ways 90 = .ok (.iload_n 3, 1) := by decide +kernel
theorem dX9_ways_91 : decode cX9_ways 91 = .ok (.if_icmp .ge 14, 3) := by decide +kernel
theorem dX9_ways_94 : decode cX9_ways 94 = .ok (.aload_n 0, 1) := by decide +kernel
theorem dX9_ways_95 : decode cX9_ways 95 = .ok (.iconst 0, 1) := by decide +kernel
theorem dX9_ways_96 : decode cX9_ways 96 = .ok (.invokevirtual 239, 3) := by decide +kernel
theorem dX9_ways_99 : decode cX9_ways 99 = .ok (.iinc 6 1, 3) := by decide +kernel
theorem dX9_ways_102 : decode cX9_ways 102 = .ok (.goto (-14), 3) := by decide +kernel
theorem dX9_ways_105 : decode cX9_ways 105 = .ok (.aload_n 0, 1) := by decide +kernel
theorem dX9_ways_106 : decode cX9_ways 106 = .ok (.getfield 39, 3) := by decide +kernel
theorem dX9_ways_109 : decode cX9_ways 109 = .ok (.iload 5, 2) := by decide +kernel
theorem dX9_ways_111 : decode cX9_ways 111 = .ok (.laload, 1) := by decide +kernel
theorem dX9_ways_112 : decode cX9_ways 112 = .ok (.aload_n 0, 1) := by decide +kernel
theorem dX9_ways_113 : decode cX9_ways 113 = .ok (.getfield 39, 3) := by decide +kernel
theorem dX9_ways_116 : decode cX9_ways 116 = .ok (.iload 5, 2) := by decide +kernel
theorem dX9_ways_118 : decode cX9_ways 118 = .ok (.sipush 4096, 3) := by decide +kernel
theorem dX9_ways_121 : decode cX9_ways 121 = .ok (.iadd, 1) := by decide +kernel
theorem dX9_ways_122 : decode cX9_ways 122 = .ok (.laload, 1) := by decide +kernel
theorem dX9_ways_123 : decode cX9_ways 123 = .ok (.ladd, 1) := by decide +kernel
theorem dX9_ways_124 : decode cX9_ways 124 = .ok (.lreturn, 1) := by decide +kernel
def L_X9_ways_88 (N : Nat) (v0 : Nat) (v3 : Int32) (v5 : Int32) : Nat → Hp → Int32 → Option (Hp)
  | 0, _, _ => none
  | n + 1, σ, v6 =>
  if v3 ≤ v6 then
   some σ
  else
   (m_X9_stepWays N σ v0 0).bind fun r16 =>
  L_X9_ways_88 N v0 v3 v5 n r16 (v6 + 1)
def m_X9_ways (N : Nat) (σ : Hp) (t0 : Nat) (p1 : Int32) (p2 : Int32) (p3 : Int32) : Option (Int64 × Hp) :=
  (rv N σ t0 9).bind fun _ =>
  (m_X9_isBoard N σ t0).bind fun r1 =>
  if r1 = 0 then
   some ((-1000002), σ)
  else
   (m_X9_isRow p1).bind fun r3 =>
  if r3 = 0 then
   some ((-1000001), σ)
  else
   (m_X9_in p3.toInt64 0 12).bind fun r5 =>
  if r5 = 0 then
   some ((-1000001), σ)
  else
   (gR N σ t0 9 10).bind fun x7 =>
  (aI 0 N σ x7 2).bind fun x8 =>
  (m_X9_wrongOf N σ t0 p1 p2 x8).bind fun r9 =>
  if r9 = 0 then
   (pV N σ t0 9 3 (.int 0)).bind fun σ11 =>
  (m_X9_told N σ11 t0 p1 p2).bind fun r12 =>
  if 0 ≤ r12 then
   (m_X9_beginsWays N σ11 t0).bind fun r14 =>
  (L_X9_ways_88 N t0 p3 r12 fu r14 0).bind fun z17 =>
  (gR N z17 t0 9 17).bind fun x18 =>
  (aJ N z17 x18 r12).bind fun x19 =>
  (gR N z17 t0 9 17).bind fun x20 =>
  (aJ N z17 x20 (r12 + 4096)).bind fun x21 =>
  some (x19 + x21, z17)
  else
   some (0, σ11)
  else
   (m_X9_finds N σ t0 r9).bind fun r22 =>
  some (r22.1.toInt64, r22.2)
set_option maxHeartbeats 4000000 in
set_option maxRecDepth 100000 in
theorem lp_X9_ways_88 {κ : Kx} {ω : Om} (C : Cx κ 7 5 cX9_ways RX9 "ways") (Z : Zx κ ω) (v0 : Nat) (v3 : Int32) (v5 : Int32) {r : Hp} (hk : X κ 7 ω 105 [some (.ref v0), none, none, none, none, some (.int v5), none] [] r) : ∀ (n : Nat) (σ : Hp) (v6 : Int32), L_X9_ways_88 ω.1 v0 v3 v5 n σ v6 = some r → X κ 7 ω 88 [some (.ref v0), none, none, some (.int v3), none, some (.int v5), some (.int v6)] [] σ := by
  intro n
  induction n with
  | zero => intro σ v6 h; cases h
  | succ n ih =>
    intro σ v6 h
    rw [L_X9_ways_88.eq_2] at h
    refine x_iload C (i := 6) dX9_ways_88 rfl ?_
    refine x_iload_n C (i := 3) dX9_ways_90 rfl rfl ?_
    refine x_icmp_ge C (tgt := 105) dX9_ways_91 (by decide) (fun c15 => ?_) (fun c15 => ?_)
    · have h := ifP h c15
      refine x_wk [true, false, false, false, false, true, false] (lo' := [some (.ref v0), none, none, none, none, some (.int v5), none]) rfl ?_
      obtain rfl := Option.some.inj h
      exact hk
    · have h := ifN h c15
      refine x_aload_n C (i := 0) dX9_ways_94 rfl rfl ?_
      refine x_iconst C (v := 0) dX9_ways_95 (by decide) ?_
      obtain ⟨r16, er16, h⟩ := ob h
      refine x_callVn C Z mv_X9_stepWays lk_X9_239 (rv_h er16) (ct_X9_stepWays er16) (by decide) rfl rfl (Nat.le_of_ble_eq_true rfl) dX9_ways_96 ?_
      refine x_iinc C (i := 6) (y := v6 + 1) (lo' := [some (.ref v0), none, none, some (.int v3), none, some (.int v5), some (.int (v6 + 1))]) dX9_ways_99 rfl rfl (by decide) rfl rfl ?_
      refine x_goto C (tgt := 88) dX9_ways_102 (by decide) ?_
      refine x_wk [true, false, false, true, false, true, true] (lo' := [some (.ref v0), none, none, some (.int v3), none, some (.int v5), some (.int (v6 + 1))]) rfl ?_
      exact ih r16 (v6 + 1) h
set_option maxHeartbeats 4000000 in
set_option maxRecDepth 100000 in
theorem ct_X9_ways {l : Launch} {D : va_G} {cy : Nat → Nat} {N : Nat} {σ : Hp} {t0 : Nat} {p1 : Int32} {p2 : Int32} {p3 : Int32} {r : Int64 × Hp} (h : m_X9_ways N σ t0 p1 p2 p3 = some r) : Ct l D cy yX9_ways cX9_ways 7 (some .long) 5 [.ref t0, .int p1, .int p2, .int p3] N σ (fun v s' => v = (some (.long r.1)) ∧ s' = r.2) := by
  refine Ct.intro [some (.ref t0), some (.int p1), some (.int p2), some (.int p3), none, none, none] (by decide) rfl (Nat.le_of_ble_eq_true rfl) ?_
  intro κ ω e1 e2 e3 e4 C Z E
  subst e1; subst e2; subst e3; subst e4
  have C : Cx κ 7 5 cX9_ways RX9 "ways" := C
  have hE : ∀ x : Int64 × Hp, r = x → ((some (Value.long x.1)) = (some (Value.long r.1)) ∧ x.2 = r.2) := fun x hx => by subst hx; exact ⟨rfl, rfl⟩
  unfold m_X9_ways at h
  obtain ⟨_, _, h⟩ := ob h
  refine x_aload_n C (i := 0) dX9_ways_0 rfl rfl ?_
  obtain ⟨r1, er1, h⟩ := ob h
  refine x_callVr C Z mv_X9_isBoard lk_X9_183 (rv_h er1) (ct_X9_isBoard er1) (by decide) rfl rfl (Nat.le_of_ble_eq_true rfl) dX9_ways_1 ?_
  refine x_if_ne C (tgt := 11) dX9_ways_4 (by decide) (fun c2 => ?_) (fun c2 => ?_)
  · have h := ifN h c2
    refine x_iload_n C (i := 1) dX9_ways_11 rfl rfl ?_
    obtain ⟨r3, er3, h⟩ := ob h
    refine x_callSr C Z ms_X9_isRow lk_X9_60 (ct_X9_isRow (N := ω.1) (σ := σ) er3) (by decide) rfl rfl (Nat.le_of_ble_eq_true rfl) dX9_ways_12 ?_
    refine x_if_eq C (tgt := 30) dX9_ways_15 (by decide) (fun c4 => ?_) (fun c4 => ?_)
    · have h := ifP h c4
      refine x_ldc2 C kj_X9_234 dX9_ways_30 ?_
      exact x_lret C E dX9_ways_33 (hE ((-1000001), σ) (Option.some.inj h).symm)
    · have h := ifN h c4
      refine x_iload_n C (i := 3) dX9_ways_18 rfl rfl ?_
      refine x_i2l C dX9_ways_19 ?_
      refine x_lconst C (v := 0) dX9_ways_20 (by decide) ?_
      refine x_ldc2 C kj_X9_232 dX9_ways_21 ?_
      obtain ⟨r5, er5, h⟩ := ob h
      refine x_callSr C Z ms_X9_in lk_X9_56 (ct_X9_in (N := ω.1) (σ := σ) er5) (by decide) rfl rfl (Nat.le_of_ble_eq_true rfl) dX9_ways_24 ?_
      refine x_if_ne C (tgt := 34) dX9_ways_27 (by decide) (fun c6 => ?_) (fun c6 => ?_)
      · have h := ifN h c6
        refine x_aload_n C (i := 0) dX9_ways_34 rfl rfl ?_
        refine x_iload_n C (i := 1) dX9_ways_35 rfl rfl ?_
        refine x_iload_n C (i := 2) dX9_ways_36 rfl rfl ?_
        refine x_aload_n C (i := 0) dX9_ways_37 rfl rfl ?_
        obtain ⟨x7, ex7, h⟩ := ob h
        refine x_getR C fl_X9_23 dX9_ways_38 ex7 ?_
        refine x_iconst C (v := 2) dX9_ways_41 (by decide) ?_
        obtain ⟨x8, ex8, h⟩ := ob h
        refine x_iald C dX9_ways_42 ex8 ?_
        obtain ⟨r9, er9, h⟩ := ob h
        refine x_callVr C Z mv_X9_wrongOf lk_X9_211 (rv_h er9) (ct_X9_wrongOf er9) (by decide) rfl rfl (Nat.le_of_ble_eq_true rfl) dX9_ways_43 ?_
        refine x_istore C (i := 4) (lo' := [some (.ref t0), some (.int p1), some (.int p2), some (.int p3), some (.int r9), none, none]) dX9_ways_46 (by decide) rfl rfl ?_
        refine x_iload C (i := 4) dX9_ways_48 rfl ?_
        refine x_if_eq C (tgt := 61) dX9_ways_50 (by decide) (fun c10 => ?_) (fun c10 => ?_)
        · have h := ifP h c10
          refine x_aload_n C (i := 0) dX9_ways_61 rfl rfl ?_
          refine x_iconst C (v := 0) dX9_ways_62 (by decide) ?_
          obtain ⟨σ11, eσ11, h⟩ := ob h
          refine x_put C pl_X9_49 dX9_ways_63 (fun _ => ⟨rfl, rfl⟩) eσ11 ?_
          refine x_aload_n C (i := 0) dX9_ways_66 rfl rfl ?_
          refine x_iload_n C (i := 1) dX9_ways_67 rfl rfl ?_
          refine x_iload_n C (i := 2) dX9_ways_68 rfl rfl ?_
          obtain ⟨r12, er12, h⟩ := ob h
          refine x_callVr C Z mv_X9_told lk_X9_214 (rv_h er12) (ct_X9_told er12) (by decide) rfl rfl (Nat.le_of_ble_eq_true rfl) dX9_ways_69 ?_
          refine x_istore C (i := 5) (lo' := [some (.ref t0), some (.int p1), some (.int p2), some (.int p3), some (.int r9), some (.int r12), none]) dX9_ways_72 (by decide) rfl rfl ?_
          refine x_iload C (i := 5) dX9_ways_74 rfl ?_
          refine x_if_ge C (tgt := 81) dX9_ways_76 (by decide) (fun c13 => ?_) (fun c13 => ?_)
          · have h := ifP h c13
            refine x_aload_n C (i := 0) dX9_ways_81 rfl rfl ?_
            obtain ⟨r14, er14, h⟩ := ob h
            refine x_callVn C Z mv_X9_beginsWays lk_X9_236 (rv_h er14) (ct_X9_beginsWays er14) (by decide) rfl rfl (Nat.le_of_ble_eq_true rfl) dX9_ways_82 ?_
            refine x_iconst C (v := 0) dX9_ways_85 (by decide) ?_
            refine x_istore C (i := 6) (lo' := [some (.ref t0), some (.int p1), some (.int p2), some (.int p3), some (.int r9), some (.int r12), some (.int 0)]) dX9_ways_86 (by decide) rfl rfl ?_
            obtain ⟨z17, ez17, h⟩ := ob h
            refine x_wk [true, false, false, true, false, true, true] (lo' := [some (.ref t0), none, none, some (.int p3), none, some (.int r12), some (.int 0)]) rfl ?_
            refine lp_X9_ways_88 C Z t0 p3 r12 ?_ _ r14 0 ez17
            refine x_aload_n C (i := 0) dX9_ways_105 rfl rfl ?_
            obtain ⟨x18, ex18, h⟩ := ob h
            refine x_getR C fl_X9_39 dX9_ways_106 ex18 ?_
            refine x_iload C (i := 5) dX9_ways_109 rfl ?_
            obtain ⟨x19, ex19, h⟩ := ob h
            refine x_lald C dX9_ways_111 ex19 ?_
            refine x_aload_n C (i := 0) dX9_ways_112 rfl rfl ?_
            obtain ⟨x20, ex20, h⟩ := ob h
            refine x_getR C fl_X9_39 dX9_ways_113 ex20 ?_
            refine x_iload C (i := 5) dX9_ways_116 rfl ?_
            refine x_sipush C (v := 4096) dX9_ways_118 (by decide) ?_
            refine x_iadd C dX9_ways_121 ?_
            obtain ⟨x21, ex21, h⟩ := ob h
            refine x_lald C dX9_ways_122 ex21 ?_
            refine x_ladd C dX9_ways_123 ?_
            exact x_lret C E dX9_ways_124 (hE (x19 + x21, z17) (Option.some.inj h).symm)
          · have h := ifN h c13
            refine x_lconst C (v := 0) dX9_ways_79 (by decide) ?_
            exact x_lret C E dX9_ways_80 (hE (0, σ11) (Option.some.inj h).symm)
        · have h := ifN h c10
          refine x_aload_n C (i := 0) dX9_ways_53 rfl rfl ?_
          refine x_iload C (i := 4) dX9_ways_54 rfl ?_
          obtain ⟨r22, er22, h⟩ := ob h
          refine x_callVr C Z mv_X9_finds lk_X9_67 (rv_h er22) (ct_X9_finds er22) (by decide) rfl rfl (Nat.le_of_ble_eq_true rfl) dX9_ways_56 ?_
          refine x_i2l C dX9_ways_59 ?_
          exact x_lret C E dX9_ways_60 (hE (r22.1.toInt64, r22.2) (Option.some.inj h).symm)
      · have h := ifP h c6
        refine x_ldc2 C kj_X9_234 dX9_ways_30 ?_
        exact x_lret C E dX9_ways_33 (hE ((-1000001), σ) (Option.some.inj h).symm)
  · have h := ifP h c2
    refine x_ldc2 C kj_X9_230 dX9_ways_7 ?_
    exact x_lret C E dX9_ways_10 (hE ((-1000002), σ) (Option.some.inj h).symm)
theorem dX9_judged_0 : decode cX9_judged 0 = .ok (.iload 4, 2) := by decide +kernel
theorem dX9_judged_2 : decode cX9_judged 2 = .ok (.istore 5, 2) := by decide +kernel
theorem dX9_judged_4 : decode cX9_judged 4 = .ok (.iconst 0, 1) := by decide +kernel
theorem dX9_judged_5 : decode cX9_judged 5 = .ok (.istore 6, 2) := by decide +kernel
theorem dX9_judged_7 : decode cX9_judged 7 = .ok (.iload 6, 2) := by decide +kernel
theorem dX9_judged_9 : decode cX9_judged 9 = .ok (.iload_n 3, 1) := by decide +kernel
theorem dX9_judged_10 : decode cX9_judged 10 = .ok (.if_icmp .ge 104, 3) := by decide +kernel
theorem dX9_judged_13 : decode cX9_judged 13 = .ok (.aload_n 0, 1) := by decide +kernel
theorem dX9_judged_14 : decode cX9_judged 14 = .ok (.getfield 7, 3) := by decide +kernel
theorem dX9_judged_17 : decode cX9_judged 17 = .ok (.bipush 40, 2) := by decide +kernel
theorem dX9_judged_19 : decode cX9_judged 19 = .ok (.iload_n 1, 1) := by decide +kernel
theorem dX9_judged_20 : decode cX9_judged 20 = .ok (.imul, 1) := by decide +kernel
theorem dX9_judged_21 : decode cX9_judged 21 = .ok (.iload_n 2, 1) := by decide +kernel
theorem dX9_judged_22 : decode cX9_judged 22 = .ok (.iadd, 1) := by decide +kernel
theorem dX9_judged_23 : decode cX9_judged 23 = .ok (.iload 6, 2) := by decide +kernel
theorem dX9_judged_25 : decode cX9_judged 25 = .ok (.iadd, 1) := by decide +kernel
theorem dX9_judged_26 : decode cX9_judged 26 = .ok (.iaload, 1) := by decide +kernel
theorem dX9_judged_27 : decode cX9_judged 27 = .ok (.istore 7, 2) := by decide +kernel
theorem dX9_judged_29 : decode cX9_judged 29 = .ok (.iload 7, 2) := by decide +kernel
theorem dX9_judged_31 : decode cX9_judged 31 = .ok (.ifCond .ge 7, 3) := by decide +kernel
theorem dX9_judged_34 : decode cX9_judged 34 = .ok (.iconst (-1), 1) := by decide +kernel
theorem dX9_judged_35 : decode cX9_judged 35 = .ok (.goto 8, 3) := by decide +kernel
theorem dX9_judged_38 : decode cX9_judged 38 = .ok (.iload 7, 2) := by decide +kernel
theorem dX9_judged_40 : decode cX9_judged 40 = .ok (.bipush 10, 2) := by decide +kernel
theorem dX9_judged_42 : decode cX9_judged 42 = .ok (.idiv, 1) := by decide +kernel
theorem dX9_judged_43 : decode cX9_judged 43 = .ok (.istore 8, 2) := by decide +kernel
theorem dX9_judged_45 : decode cX9_judged 45 = .ok (.iload 7, 2) := by decide +kernel
theorem dX9_judged_47 : decode cX9_judged 47 = .ok (.bipush 10, 2) := by decide +kernel
theorem dX9_judged_49 : decode cX9_judged 49 = .ok (.irem, 1) := by decide +kernel
theorem dX9_judged_50 : decode cX9_judged 50 = .ok (.istore 9, 2) := by decide +kernel
theorem dX9_judged_52 : decode cX9_judged 52 = .ok (.aload_n 0, 1) := by decide +kernel
theorem dX9_judged_53 : decode cX9_judged 53 = .ok (.iload 8, 2) := by decide +kernel
theorem dX9_judged_55 : decode cX9_judged 55 = .ok (.invokevirtual 163, 3) := by decide +kernel
theorem dX9_judged_58 : decode cX9_judged 58 = .ok (.ifCond .eq 25, 3) := by decide +kernel
theorem dX9_judged_61 : decode cX9_judged 61 = .ok (.aload_n 0, 1) := by decide +kernel
theorem dX9_judged_62 : decode cX9_judged 62 = .ok (.iload 9, 2) := by decide +kernel
theorem dX9_judged_64 : decode cX9_judged 64 = .ok (.invokevirtual 163, 3) := by decide +kernel
theorem dX9_judged_67 : decode cX9_judged 67 = .ok (.ifCond .eq 16, 3) := by decide +kernel
theorem dX9_judged_70 : decode cX9_judged 70 = .ok (.aload_n 0, 1) := by decide +kernel
theorem dX9_judged_71 : decode cX9_judged 71 = .ok (.iload 5, 2) := by decide +kernel
theorem dX9_judged_73 : decode cX9_judged 73 = .ok (.iload 8, 2) := by decide +kernel
theorem dX9_judged_75 : decode cX9_judged 75 = .ok (.iload 9, 2) := by decide +kernel
theorem dX9_judged_77 : decode cX9_judged 77 = .ok (.invokevirtual 173, 3) := by decide +kernel
theorem dX9_judged_80 : decode cX9_judged 80 = .ok (.goto 5, 3) := by decide +kernel
theorem dX9_judged_83 : decode cX9_judged 83 = .ok (.bipush 6, 2) := by decide +kernel
theorem dX9_judged_85 : decode cX9_judged 85 = .ok (.istore 10, 2) := by decide +kernel
theorem dX9_judged_87 : decode cX9_judged 87 = .ok (.iload 10, 2) := by decide +kernel
theorem dX9_judged_89 : decode cX9_judged 89 = .ok (.bipush 6, 2) := by decide +kernel
theorem dX9_judged_91 : decode cX9_judged 91 = .ok (.if_icmp .ne 6, 3) := by decide +kernel
theorem dX9_judged_94 : decode cX9_judged 94 = .ok (.iload 6, 2) := by decide +kernel
theorem dX9_judged_96 : decode cX9_judged 96 = .ok (.ireturn, 1) := by decide +kernel
theorem dX9_judged_97 : decode cX9_judged 97 = .ok (.iload 5, 2) := by decide +kernel
theorem dX9_judged_99 : decode cX9_judged 99 = .ok (.iload 10, 2) := by decide +kernel
theorem dX9_judged_101 : decode cX9_judged 101 = .ok (.iload 9, 2) := by decide +kernel
theorem dX9_judged_103 : decode cX9_judged 103 = .ok (.invokestatic 193, 3) := by decide +kernel
theorem dX9_judged_106 : decode cX9_judged 106 = .ok (.istore 5, 2) := by decide +kernel
theorem dX9_judged_108 : decode cX9_judged 108 = .ok (.iinc 6 1, 3) := by decide +kernel
theorem dX9_judged_111 : decode cX9_judged 111 = .ok (.goto (-104), 3) := by decide +kernel
theorem dX9_judged_114 : decode cX9_judged 114 = .ok (.ldc 189, 2) := by decide +kernel
theorem dX9_judged_116 : decode cX9_judged 116 = .ok (.ireturn, 1) := by decide +kernel
def L_X9_judged_7 (N : Nat) (σ : Hp) (v0 : Nat) (v1 : Int32) (v2 : Int32) (v3 : Int32) : Nat → Int32 → Int32 → Option ((Unit) ⊕ (Int32))
  | 0, _, _ => none
  | n + 1, v5, v6 =>
  if v3 ≤ v6 then
   some (.inl ())
  else
   (gR N σ v0 9 0).bind fun x2 =>
  (aI 0 N σ x2 (((40 * v1) + v2) + v6)).bind fun x3 =>
  ((if 0 ≤ x3 then
   some (x3 / 10)
  else
   some (-1)) : Option (Int32)).bind fun z4 =>
  (m_X9_isPeg N σ v0 z4).bind fun r5 =>
  ((if r5 = 0 then
   some (.inl (v5, v6))
  else
   (m_X9_isPeg N σ v0 (x3 - x3 / 10 * 10)).bind fun r13 =>
  if r13 = 0 then
   some (.inl (v5, v6))
  else
   (m_X9_mover N σ v0 v5 z4 (x3 - x3 / 10 * 10)).bind fun r15 =>
  if r15 = 6 then
   some (.inr (.inr v6))
  else
   (m_X9_moved v5 r15 (x3 - x3 / 10 * 10)).bind fun r17 =>
  Option.map Sum.inr (L_X9_judged_7 N σ v0 v1 v2 v3 n r17 (v6 + 1))) : Option ((Int32 × Int32) ⊕ ((Unit) ⊕ (Int32)))).bind fun z6 =>
  cS z6 (fun w7 => if (6 : Int32) = 6 then
   some (.inr w7.2)
  else
   (m_X9_moved w7.1 6 (x3 - x3 / 10 * 10)).bind fun r9 =>
  L_X9_judged_7 N σ v0 v1 v2 v3 n r9 (w7.2 + 1)) (fun q18 => some q18)
def m_X9_judged (N : Nat) (σ : Hp) (t0 : Nat) (p1 : Int32) (p2 : Int32) (p3 : Int32) (p4 : Int32) : Option (Int32) :=
  (rv N σ t0 9).bind fun _ =>
  (L_X9_judged_7 N σ t0 p1 p2 p3 fu p4 0).bind fun z22 =>
  cS z22 (fun w23 => some (-1000000)) (fun q24 => some q24)
set_option maxHeartbeats 4000000 in
set_option maxRecDepth 100000 in
theorem lp_X9_judged_7 {κ : Kx} {ω : Om} (C : Cx κ 11 3 cX9_judged RX9 "judged") (Z : Zx κ ω) {Post : Option Value → Hp → Prop} (E : Rt κ ω (some .int) Post) (σ : Hp) (v0 : Nat) (v1 : Int32) (v2 : Int32) (v3 : Int32) {r : (Unit) ⊕ (Int32)} (hE : ∀ x : Int32, r = .inr x → Post (some (.int x)) σ) (hk : ∀ u, r = .inl u → X κ 11 ω 114 [none, none, none, none, none, none, none, none, none, none, none] [] σ) : ∀ (n : Nat) (v5 : Int32) (v6 : Int32), L_X9_judged_7 ω.1 σ v0 v1 v2 v3 n v5 v6 = some r → X κ 11 ω 7 [some (.ref v0), some (.int v1), some (.int v2), some (.int v3), none, some (.int v5), some (.int v6), none, none, none, none] [] σ := by
  intro n
  induction n with
  | zero => intro v5 v6 h; cases h
  | succ n ih =>
    intro v5 v6 h
    rw [L_X9_judged_7.eq_2] at h
    refine x_iload C (i := 6) dX9_judged_7 rfl ?_
    refine x_iload_n C (i := 3) dX9_judged_9 rfl rfl ?_
    refine x_icmp_ge C (tgt := 114) dX9_judged_10 (by decide) (fun c1 => ?_) (fun c1 => ?_)
    · have h := ifP h c1
      refine x_wk [false, false, false, false, false, false, false, false, false, false, false] (lo' := [none, none, none, none, none, none, none, none, none, none, none]) rfl ?_
      exact hk _ (Option.some.inj h).symm
    · have h := ifN h c1
      refine x_aload_n C (i := 0) dX9_judged_13 rfl rfl ?_
      obtain ⟨x2, ex2, h⟩ := ob h
      refine x_getR C fl_X9_7 dX9_judged_14 ex2 ?_
      refine x_bipush C (v := 40) dX9_judged_17 (by decide) ?_
      refine x_iload_n C (i := 1) dX9_judged_19 rfl rfl ?_
      refine x_imul C dX9_judged_20 ?_
      refine x_iload_n C (i := 2) dX9_judged_21 rfl rfl ?_
      refine x_iadd C dX9_judged_22 ?_
      refine x_iload C (i := 6) dX9_judged_23 rfl ?_
      refine x_iadd C dX9_judged_25 ?_
      obtain ⟨x3, ex3, h⟩ := ob h
      refine x_iald C dX9_judged_26 ex3 ?_
      refine x_istore C (i := 7) (lo' := [some (.ref v0), some (.int v1), some (.int v2), some (.int v3), none, some (.int v5), some (.int v6), some (.int x3), none, none, none]) dX9_judged_27 (by decide) rfl rfl ?_
      refine x_iload C (i := 7) dX9_judged_29 rfl ?_
      obtain ⟨z4, hz4, h⟩ := ob h
      have hJ19 : X κ 11 ω 43 [some (.ref v0), some (.int v1), some (.int v2), some (.int v3), none, some (.int v5), some (.int v6), some (.int x3), none, none, none] [.int z4] σ := by
        refine x_istore C (i := 8) (lo' := [some (.ref v0), some (.int v1), some (.int v2), some (.int v3), none, some (.int v5), some (.int v6), some (.int x3), some (.int z4), none, none]) dX9_judged_43 (by decide) rfl rfl ?_
        refine x_iload C (i := 7) dX9_judged_45 rfl ?_
        refine x_bipush C (v := 10) dX9_judged_47 (by decide) ?_
        refine x_irem C dX9_judged_49 (by decide) ?_
        refine x_istore C (i := 9) (lo' := [some (.ref v0), some (.int v1), some (.int v2), some (.int v3), none, some (.int v5), some (.int v6), some (.int x3), some (.int z4), some (.int (x3 - x3 / 10 * 10)), none]) dX9_judged_50 (by decide) rfl rfl ?_
        refine x_aload_n C (i := 0) dX9_judged_52 rfl rfl ?_
        refine x_iload C (i := 8) dX9_judged_53 rfl ?_
        obtain ⟨r5, er5, h⟩ := ob h
        refine x_callVr C Z mv_X9_isPeg lk_X9_163 (rv_h er5) (ct_X9_isPeg er5) (by decide) rfl rfl (Nat.le_of_ble_eq_true rfl) dX9_judged_55 ?_
        obtain ⟨z6, hz6, hO11⟩ := ob h
        have hJ10 : ∀ w7, z6 = .inl w7 → X κ 11 ω 83 [some (.ref v0), some (.int v1), some (.int v2), some (.int v3), none, some (.int w7.1), some (.int w7.2), none, none, some (.int (x3 - x3 / 10 * 10)), none] [] σ := by
          intro w7 hu
          subst hu
          have h := cS_l hO11
          refine x_bipush C (v := 6) dX9_judged_83 (by decide) ?_
          refine x_istore C (i := 10) (lo' := [some (.ref v0), some (.int v1), some (.int v2), some (.int v3), none, some (.int w7.1), some (.int w7.2), none, none, some (.int (x3 - x3 / 10 * 10)), some (.int 6)]) dX9_judged_85 (by decide) rfl rfl ?_
          refine x_iload C (i := 10) dX9_judged_87 rfl ?_
          refine x_bipush C (v := 6) dX9_judged_89 (by decide) ?_
          refine x_icmp_ne C (tgt := 97) dX9_judged_91 (by decide) (fun c8 => ?_) (fun c8 => ?_)
          · have h := ifN h c8
            refine x_iload C (i := 5) dX9_judged_97 rfl ?_
            refine x_iload C (i := 10) dX9_judged_99 rfl ?_
            refine x_iload C (i := 9) dX9_judged_101 rfl ?_
            obtain ⟨r9, er9, h⟩ := ob h
            refine x_callSr C Z ms_X9_moved lk_X9_193 (ct_X9_moved (N := ω.1) (σ := σ) er9) (by decide) rfl rfl (Nat.le_of_ble_eq_true rfl) dX9_judged_103 ?_
            refine x_istore C (i := 5) (lo' := [some (.ref v0), some (.int v1), some (.int v2), some (.int v3), none, some (.int r9), some (.int w7.2), none, none, some (.int (x3 - x3 / 10 * 10)), some (.int 6)]) dX9_judged_106 (by decide) rfl rfl ?_
            refine x_iinc C (i := 6) (y := w7.2 + 1) (lo' := [some (.ref v0), some (.int v1), some (.int v2), some (.int v3), none, some (.int r9), some (.int (w7.2 + 1)), none, none, some (.int (x3 - x3 / 10 * 10)), some (.int 6)]) dX9_judged_108 rfl rfl (by decide) rfl rfl ?_
            refine x_goto C (tgt := 7) dX9_judged_111 (by decide) ?_
            refine x_wk [true, true, true, true, false, true, true, false, false, false, false] (lo' := [some (.ref v0), some (.int v1), some (.int v2), some (.int v3), none, some (.int r9), some (.int (w7.2 + 1)), none, none, none, none]) rfl ?_
            exact ih r9 (w7.2 + 1) h
          · have h := ifP h c8
            refine x_iload C (i := 6) dX9_judged_94 rfl ?_
            exact x_iret C E dX9_judged_96 (hE w7.2 (Option.some.inj h).symm)
        have h := hz6
        refine x_if_eq C (tgt := 83) dX9_judged_58 (by decide) (fun c12 => ?_) (fun c12 => ?_)
        · have h := ifP h c12
          refine x_wk [true, true, true, true, false, true, true, false, false, true, false] (lo' := [some (.ref v0), some (.int v1), some (.int v2), some (.int v3), none, some (.int v5), some (.int v6), none, none, some (.int (x3 - x3 / 10 * 10)), none]) rfl ?_
          exact hJ10 _ (Option.some.inj h).symm
        · have h := ifN h c12
          refine x_aload_n C (i := 0) dX9_judged_61 rfl rfl ?_
          refine x_iload C (i := 9) dX9_judged_62 rfl ?_
          obtain ⟨r13, er13, h⟩ := ob h
          refine x_callVr C Z mv_X9_isPeg lk_X9_163 (rv_h er13) (ct_X9_isPeg er13) (by decide) rfl rfl (Nat.le_of_ble_eq_true rfl) dX9_judged_64 ?_
          refine x_if_eq C (tgt := 83) dX9_judged_67 (by decide) (fun c14 => ?_) (fun c14 => ?_)
          · have h := ifP h c14
            refine x_wk [true, true, true, true, false, true, true, false, false, true, false] (lo' := [some (.ref v0), some (.int v1), some (.int v2), some (.int v3), none, some (.int v5), some (.int v6), none, none, some (.int (x3 - x3 / 10 * 10)), none]) rfl ?_
            exact hJ10 _ (Option.some.inj h).symm
          · have h := ifN h c14
            refine x_aload_n C (i := 0) dX9_judged_70 rfl rfl ?_
            refine x_iload C (i := 5) dX9_judged_71 rfl ?_
            refine x_iload C (i := 8) dX9_judged_73 rfl ?_
            refine x_iload C (i := 9) dX9_judged_75 rfl ?_
            obtain ⟨r15, er15, h⟩ := ob h
            refine x_callVr C Z mv_X9_mover lk_X9_173 (rv_h er15) (ct_X9_mover er15) (by decide) rfl rfl (Nat.le_of_ble_eq_true rfl) dX9_judged_77 ?_
            refine x_goto C (tgt := 85) dX9_judged_80 (by decide) ?_
            refine x_istore C (i := 10) (lo' := [some (.ref v0), some (.int v1), some (.int v2), some (.int v3), none, some (.int v5), some (.int v6), some (.int x3), some (.int z4), some (.int (x3 - x3 / 10 * 10)), some (.int r15)]) dX9_judged_85 (by decide) rfl rfl ?_
            refine x_iload C (i := 10) dX9_judged_87 rfl ?_
            refine x_bipush C (v := 6) dX9_judged_89 (by decide) ?_
            refine x_icmp_ne C (tgt := 97) dX9_judged_91 (by decide) (fun c16 => ?_) (fun c16 => ?_)
            · have h := ifN h c16
              refine x_iload C (i := 5) dX9_judged_97 rfl ?_
              refine x_iload C (i := 10) dX9_judged_99 rfl ?_
              refine x_iload C (i := 9) dX9_judged_101 rfl ?_
              obtain ⟨r17, er17, h⟩ := ob h
              refine x_callSr C Z ms_X9_moved lk_X9_193 (ct_X9_moved (N := ω.1) (σ := σ) er17) (by decide) rfl rfl (Nat.le_of_ble_eq_true rfl) dX9_judged_103 ?_
              refine x_istore C (i := 5) (lo' := [some (.ref v0), some (.int v1), some (.int v2), some (.int v3), none, some (.int r17), some (.int v6), some (.int x3), some (.int z4), some (.int (x3 - x3 / 10 * 10)), some (.int r15)]) dX9_judged_106 (by decide) rfl rfl ?_
              refine x_iinc C (i := 6) (y := v6 + 1) (lo' := [some (.ref v0), some (.int v1), some (.int v2), some (.int v3), none, some (.int r17), some (.int (v6 + 1)), some (.int x3), some (.int z4), some (.int (x3 - x3 / 10 * 10)), some (.int r15)]) dX9_judged_108 rfl rfl (by decide) rfl rfl ?_
              refine x_goto C (tgt := 7) dX9_judged_111 (by decide) ?_
              have h := escM h hO11
              refine x_wk [true, true, true, true, false, true, true, false, false, false, false] (lo' := [some (.ref v0), some (.int v1), some (.int v2), some (.int v3), none, some (.int r17), some (.int (v6 + 1)), none, none, none, none]) rfl ?_
              exact ih r17 (v6 + 1) h
            · have h := ifP h c16
              refine x_iload C (i := 6) dX9_judged_94 rfl ?_
              have h := esc h hO11
              exact x_iret C E dX9_judged_96 (hE v6 (Option.some.inj h).symm)
      clear h
      have h := hz4
      refine x_if_ge C (tgt := 38) dX9_judged_31 (by decide) (fun c21 => ?_) (fun c21 => ?_)
      · have h := ifP h c21
        refine x_iload C (i := 7) dX9_judged_38 rfl ?_
        refine x_bipush C (v := 10) dX9_judged_40 (by decide) ?_
        refine x_idiv C dX9_judged_42 (by decide) ?_
        refine x_wk [true, true, true, true, false, true, true, true, false, false, false] (lo' := [some (.ref v0), some (.int v1), some (.int v2), some (.int v3), none, some (.int v5), some (.int v6), some (.int x3), none, none, none]) rfl ?_
        obtain rfl := Option.some.inj h
        exact hJ19
      · have h := ifN h c21
        refine x_iconst C (v := (-1)) dX9_judged_34 (by decide) ?_
        refine x_goto C (tgt := 43) dX9_judged_35 (by decide) ?_
        refine x_wk [true, true, true, true, false, true, true, true, false, false, false] (lo' := [some (.ref v0), some (.int v1), some (.int v2), some (.int v3), none, some (.int v5), some (.int v6), some (.int x3), none, none, none]) rfl ?_
        obtain rfl := Option.some.inj h
        exact hJ19
set_option maxHeartbeats 4000000 in
set_option maxRecDepth 100000 in
theorem ct_X9_judged {l : Launch} {D : va_G} {cy : Nat → Nat} {N : Nat} {σ : Hp} {t0 : Nat} {p1 : Int32} {p2 : Int32} {p3 : Int32} {p4 : Int32} {r : Int32} (h : m_X9_judged N σ t0 p1 p2 p3 p4 = some r) : Ct l D cy yX9_judged cX9_judged 11 (some .int) 3 [.ref t0, .int p1, .int p2, .int p3, .int p4] N σ (fun v s' => v = (some (.int r)) ∧ s' = σ) := by
  refine Ct.intro [some (.ref t0), some (.int p1), some (.int p2), some (.int p3), some (.int p4), none, none, none, none, none, none] (by decide) rfl (Nat.le_of_ble_eq_true rfl) ?_
  intro κ ω e1 e2 e3 e4 C Z E
  subst e1; subst e2; subst e3; subst e4
  have C : Cx κ 11 3 cX9_judged RX9 "judged" := C
  have hE : ∀ x : Int32, r = x → ((some (Value.int x)) = (some (Value.int r)) ∧ σ = σ) := fun x hx => by subst hx; exact ⟨rfl, rfl⟩
  unfold m_X9_judged at h
  obtain ⟨_, _, h⟩ := ob h
  refine x_iload C (i := 4) dX9_judged_0 rfl ?_
  refine x_istore C (i := 5) (lo' := [some (.ref t0), some (.int p1), some (.int p2), some (.int p3), some (.int p4), some (.int p4), none, none, none, none, none]) dX9_judged_2 (by decide) rfl rfl ?_
  refine x_iconst C (v := 0) dX9_judged_4 (by decide) ?_
  refine x_istore C (i := 6) (lo' := [some (.ref t0), some (.int p1), some (.int p2), some (.int p3), some (.int p4), some (.int p4), some (.int 0), none, none, none, none]) dX9_judged_5 (by decide) rfl rfl ?_
  obtain ⟨z22, ez22, h⟩ := ob h
  refine x_wk [true, true, true, true, false, true, true, false, false, false, false] (lo' := [some (.ref t0), some (.int p1), some (.int p2), some (.int p3), none, some (.int p4), some (.int 0), none, none, none, none]) rfl ?_
  refine lp_X9_judged_7 C Z E σ t0 p1 p2 p3 (fun q24 hx => by subst hx; have h := cS_r h; exact hE q24 (Option.some.inj h).symm) (fun w23 hu => ?_) _ p4 0 ez22
  subst hu
  have h := cS_l h
  refine x_ldc C kc_X9_189 dX9_judged_114 ?_
  exact x_iret C E dX9_judged_116 (hE (-1000000) (Option.some.inj h).symm)
theorem dX9_judge_0 : decode cX9_judge 0 = .ok (.aload_n 0, 1) := by decide +kernel
theorem dX9_judge_1 : decode cX9_judge 1 = .ok (.invokevirtual 183, 3) := by decide +kernel
theorem dX9_judge_4 : decode cX9_judge 4 = .ok (.ifCond .ne 6, 3) := by decide +kernel
theorem dX9_judge_7 : decode cX9_judge 7 = .ok (.ldc 176, 2) := by decide +kernel
theorem dX9_judge_9 : decode cX9_judge 9 = .ok (.ireturn, 1) := by decide +kernel
theorem dX9_judge_10 : decode cX9_judge 10 = .ok (.iload_n 1, 1) := by decide +kernel
theorem dX9_judge_11 : decode cX9_judge 11 = .ok (.invokestatic 60, 3) := by decide +kernel
theorem dX9_judge_14 : decode cX9_judge 14 = .ok (.ifCond .eq 15, 3) := by decide +kernel
theorem dX9_judge_17 : decode cX9_judge 17 = .ok (.iload_n 3, 1) := by decide +kernel
theorem dX9_judge_18 : decode cX9_judge 18 = .ok (.i2l, 1) := by decide +kernel
theorem dX9_judge_19 : decode cX9_judge 19 = .ok (.lconst 1, 1) := by decide +kernel
theorem dX9_judge_20 : decode cX9_judge 20 = .ok (.ldc2_w 243, 3) := by decide +kernel
theorem dX9_judge_23 : decode cX9_judge 23 = .ok (.invokestatic 56, 3) := by decide +kernel
theorem dX9_judge_26 : decode cX9_judge 26 = .ok (.ifCond .ne 6, 3) := by decide +kernel
theorem dX9_judge_29 : decode cX9_judge 29 = .ok (.ldc 66, 2) := by decide +kernel
theorem dX9_judge_31 : decode cX9_judge 31 = .ok (.ireturn, 1) := by decide +kernel
theorem dX9_judge_32 : decode cX9_judge 32 = .ok (.aload_n 0, 1) := by decide +kernel
theorem dX9_judge_33 : decode cX9_judge 33 = .ok (.iload_n 1, 1) := by decide +kernel
theorem dX9_judge_34 : decode cX9_judge 34 = .ok (.iload_n 2, 1) := by decide +kernel
theorem dX9_judge_35 : decode cX9_judge 35 = .ok (.iload_n 3, 1) := by decide +kernel
theorem dX9_judge_36 : decode cX9_judge 36 = .ok (.invokevirtual 211, 3) := by decide +kernel
theorem dX9_judge_39 : decode cX9_judge 39 = .ok (.istore 4, 2) := by decide +kernel
theorem dX9_judge_41 : decode cX9_judge 41 = .ok (.iload 4, 2) := by decide +kernel
theorem dX9_judge_43 : decode cX9_judge 43 = .ok (.ifCond .eq 10, 3) := by decide +kernel
theorem dX9_judge_46 : decode cX9_judge 46 = .ok (.aload_n 0, 1) := by decide +kernel
theorem dX9_judge_47 : decode cX9_judge 47 = .ok (.iload 4, 2) := by decide +kernel
theorem dX9_judge_49 : decode cX9_judge 49 = .ok (.invokevirtual 67, 3) := by decide +kernel
theorem dX9_judge_52 : decode cX9_judge 52 = .ok (.ireturn, 1) := by decide +kernel
theorem dX9_judge_53 : decode cX9_judge 53 = .ok (.aload_n 0, 1) := by decide +kernel
theorem dX9_judge_54 : decode cX9_judge 54 = .ok (.invokevirtual 166, 3) := by decide +kernel
theorem dX9_judge_57 : decode cX9_judge 57 = .ok (.aload_n 0, 1) := by decide +kernel
theorem dX9_judge_58 : decode cX9_judge 58 = .ok (.aload_n 0, 1) := by decide +kernel
theorem dX9_judge_59 : decode cX9_judge 59 = .ok (.iload_n 1, 1) := by decide +kernel
theorem dX9_judge_60 : decode cX9_judge 60 = .ok (.iload_n 2, 1) := by decide +kernel
theorem dX9_judge_61 : decode cX9_judge 61 = .ok (.iload_n 3, 1) := by decide +kernel
theorem dX9_judge_62 : decode cX9_judge 62 = .ok (.aload_n 0, 1) := by decide +kernel
theorem dX9_judge_63 : decode cX9_judge 63 = .ok (.invokevirtual 169, 3) := by decide +kernel
theorem dX9_judge_66 : decode cX9_judge 66 = .ok (.invokevirtual 245, 3) := by decide +kernel
theorem dX9_judge_69 : decode cX9_judge 69 = .ok (.invokevirtual 71, 3) := by decide +kernel
theorem dX9_judge_72 : decode cX9_judge 72 = .ok (.ireturn, 1) := by decide +kernel
def m_X9_judge (N : Nat) (σ : Hp) (t0 : Nat) (p1 : Int32) (p2 : Int32) (p3 : Int32) : Option (Int32 × Hp) :=
  (rv N σ t0 9).bind fun _ =>
  (m_X9_isBoard N σ t0).bind fun r1 =>
  if r1 = 0 then
   some ((-1000002), σ)
  else
   (m_X9_isRow p1).bind fun r3 =>
  if r3 = 0 then
   some ((-1000001), σ)
  else
   (m_X9_in p3.toInt64 1 16).bind fun r5 =>
  if r5 = 0 then
   some ((-1000001), σ)
  else
   (m_X9_wrongOf N σ t0 p1 p2 p3).bind fun r7 =>
  if r7 = 0 then
   (m_X9_asTold N σ t0).bind fun r9 =>
  (m_X9_state N r9 t0).bind fun r10 =>
  (m_X9_judged N r9 t0 p1 p2 p3 r10).bind fun r11 =>
  (m_X9_good N r9 t0 r11).bind fun r12 =>
  some (r12.1, r12.2)
  else
   (m_X9_finds N σ t0 r7).bind fun r13 =>
  some (r13.1, r13.2)
set_option maxHeartbeats 4000000 in
set_option maxRecDepth 100000 in
theorem ct_X9_judge {l : Launch} {D : va_G} {cy : Nat → Nat} {N : Nat} {σ : Hp} {t0 : Nat} {p1 : Int32} {p2 : Int32} {p3 : Int32} {r : Int32 × Hp} (h : m_X9_judge N σ t0 p1 p2 p3 = some r) : Ct l D cy yX9_judge cX9_judge 5 (some .int) 4 [.ref t0, .int p1, .int p2, .int p3] N σ (fun v s' => v = (some (.int r.1)) ∧ s' = r.2) := by
  refine Ct.intro [some (.ref t0), some (.int p1), some (.int p2), some (.int p3), none] (by decide) rfl (Nat.le_of_ble_eq_true rfl) ?_
  intro κ ω e1 e2 e3 e4 C Z E
  subst e1; subst e2; subst e3; subst e4
  have C : Cx κ 5 4 cX9_judge RX9 "judge" := C
  have hE : ∀ x : Int32 × Hp, r = x → ((some (Value.int x.1)) = (some (Value.int r.1)) ∧ x.2 = r.2) := fun x hx => by subst hx; exact ⟨rfl, rfl⟩
  unfold m_X9_judge at h
  obtain ⟨_, _, h⟩ := ob h
  refine x_aload_n C (i := 0) dX9_judge_0 rfl rfl ?_
  obtain ⟨r1, er1, h⟩ := ob h
  refine x_callVr C Z mv_X9_isBoard lk_X9_183 (rv_h er1) (ct_X9_isBoard er1) (by decide) rfl rfl (Nat.le_of_ble_eq_true rfl) dX9_judge_1 ?_
  refine x_if_ne C (tgt := 10) dX9_judge_4 (by decide) (fun c2 => ?_) (fun c2 => ?_)
  · have h := ifN h c2
    refine x_iload_n C (i := 1) dX9_judge_10 rfl rfl ?_
    obtain ⟨r3, er3, h⟩ := ob h
    refine x_callSr C Z ms_X9_isRow lk_X9_60 (ct_X9_isRow (N := ω.1) (σ := σ) er3) (by decide) rfl rfl (Nat.le_of_ble_eq_true rfl) dX9_judge_11 ?_
    refine x_if_eq C (tgt := 29) dX9_judge_14 (by decide) (fun c4 => ?_) (fun c4 => ?_)
    · have h := ifP h c4
      refine x_ldc C kc_X9_66 dX9_judge_29 ?_
      exact x_iret C E dX9_judge_31 (hE ((-1000001), σ) (Option.some.inj h).symm)
    · have h := ifN h c4
      refine x_iload_n C (i := 3) dX9_judge_17 rfl rfl ?_
      refine x_i2l C dX9_judge_18 ?_
      refine x_lconst C (v := 1) dX9_judge_19 (by decide) ?_
      refine x_ldc2 C kj_X9_243 dX9_judge_20 ?_
      obtain ⟨r5, er5, h⟩ := ob h
      refine x_callSr C Z ms_X9_in lk_X9_56 (ct_X9_in (N := ω.1) (σ := σ) er5) (by decide) rfl rfl (Nat.le_of_ble_eq_true rfl) dX9_judge_23 ?_
      refine x_if_ne C (tgt := 32) dX9_judge_26 (by decide) (fun c6 => ?_) (fun c6 => ?_)
      · have h := ifN h c6
        refine x_aload_n C (i := 0) dX9_judge_32 rfl rfl ?_
        refine x_iload_n C (i := 1) dX9_judge_33 rfl rfl ?_
        refine x_iload_n C (i := 2) dX9_judge_34 rfl rfl ?_
        refine x_iload_n C (i := 3) dX9_judge_35 rfl rfl ?_
        obtain ⟨r7, er7, h⟩ := ob h
        refine x_callVr C Z mv_X9_wrongOf lk_X9_211 (rv_h er7) (ct_X9_wrongOf er7) (by decide) rfl rfl (Nat.le_of_ble_eq_true rfl) dX9_judge_36 ?_
        refine x_istore C (i := 4) (lo' := [some (.ref t0), some (.int p1), some (.int p2), some (.int p3), some (.int r7)]) dX9_judge_39 (by decide) rfl rfl ?_
        refine x_iload C (i := 4) dX9_judge_41 rfl ?_
        refine x_if_eq C (tgt := 53) dX9_judge_43 (by decide) (fun c8 => ?_) (fun c8 => ?_)
        · have h := ifP h c8
          refine x_aload_n C (i := 0) dX9_judge_53 rfl rfl ?_
          obtain ⟨r9, er9, h⟩ := ob h
          refine x_callVn C Z mv_X9_asTold lk_X9_166 (rv_h er9) (ct_X9_asTold er9) (by decide) rfl rfl (Nat.le_of_ble_eq_true rfl) dX9_judge_54 ?_
          refine x_aload_n C (i := 0) dX9_judge_57 rfl rfl ?_
          refine x_aload_n C (i := 0) dX9_judge_58 rfl rfl ?_
          refine x_iload_n C (i := 1) dX9_judge_59 rfl rfl ?_
          refine x_iload_n C (i := 2) dX9_judge_60 rfl rfl ?_
          refine x_iload_n C (i := 3) dX9_judge_61 rfl rfl ?_
          refine x_aload_n C (i := 0) dX9_judge_62 rfl rfl ?_
          obtain ⟨r10, er10, h⟩ := ob h
          refine x_callVr C Z mv_X9_state lk_X9_169 (rv_h er10) (ct_X9_state er10) (by decide) rfl rfl (Nat.le_of_ble_eq_true rfl) dX9_judge_63 ?_
          obtain ⟨r11, er11, h⟩ := ob h
          refine x_callVr C Z mv_X9_judged lk_X9_245 (rv_h er11) (ct_X9_judged er11) (by decide) rfl rfl (Nat.le_of_ble_eq_true rfl) dX9_judge_66 ?_
          obtain ⟨r12, er12, h⟩ := ob h
          refine x_callVr C Z mv_X9_good lk_X9_71 (rv_h er12) (ct_X9_good er12) (by decide) rfl rfl (Nat.le_of_ble_eq_true rfl) dX9_judge_69 ?_
          exact x_iret C E dX9_judge_72 (hE (r12.1, r12.2) (Option.some.inj h).symm)
        · have h := ifN h c8
          refine x_aload_n C (i := 0) dX9_judge_46 rfl rfl ?_
          refine x_iload C (i := 4) dX9_judge_47 rfl ?_
          obtain ⟨r13, er13, h⟩ := ob h
          refine x_callVr C Z mv_X9_finds lk_X9_67 (rv_h er13) (ct_X9_finds er13) (by decide) rfl rfl (Nat.le_of_ble_eq_true rfl) dX9_judge_49 ?_
          exact x_iret C E dX9_judge_52 (hE (r13.1, r13.2) (Option.some.inj h).symm)
      · have h := ifP h c6
        refine x_ldc C kc_X9_66 dX9_judge_29 ?_
        exact x_iret C E dX9_judge_31 (hE ((-1000001), σ) (Option.some.inj h).symm)
  · have h := ifP h c2
    refine x_ldc C kc_X9_176 dX9_judge_7 ?_
    exact x_iret C E dX9_judge_9 (hE ((-1000002), σ) (Option.some.inj h).symm)
