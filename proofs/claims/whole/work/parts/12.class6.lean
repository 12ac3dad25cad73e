theorem dX8_fits_0 : decode cX8_fits 0 = .ok (.aload_n 0, 1) := by decide +kernel
theorem dX8_fits_1 : decode cX8_fits 1 = .ok (.iload_n 2, 1) := by decide +kernel
theorem dX8_fits_2 : decode cX8_fits 2 = .ok (.invokevirtual 51, 3) := by decide +kernel
theorem dX8_fits_5 : decode cX8_fits 5 = .ok (.astore 6, 2) := by decide +kernel
theorem dX8_fits_7 : decode cX8_fits 7 = .ok (.aload_n 0, 1) := by decide +kernel
theorem dX8_fits_8 : decode cX8_fits 8 = .ok (.getfield 25, 3) := by decide +kernel
theorem dX8_fits_11 : decode cX8_fits 11 = .ok (.iload_n 1, 1) := by decide +kernel
theorem dX8_fits_12 : decode cX8_fits 12 = .ok (.invokevirtual 147, 3) := by decide +kernel
theorem dX8_fits_15 : decode cX8_fits 15 = .ok (.ifCond .eq 32, 3) := by decide +kernel
theorem dX8_fits_18 : decode cX8_fits 18 = .ok (.aload 6, 2) := by decide +kernel
theorem dX8_fits_20 : decode cX8_fits 20 = .ok (.ifnull 27, 3) := by decide +kernel
theorem dX8_fits_23 : decode cX8_fits 23 = .ok (.iload 4, 2) := by decide +kernel
theorem dX8_fits_25 : decode cX8_fits 25 = .ok (.iconst 1, 1) := by decide +kernel
theorem dX8_fits_26 : decode cX8_fits 26 = .ok (.if_icmp .lt 21, 3) := by decide +kernel
theorem dX8_fits_29 : decode cX8_fits 29 = .ok (.iload 4, 2) := by decide +kernel
theorem dX8_fits_31 : decode cX8_fits 31 = .ok (.bipush 16, 2) := by decide +kernel
theorem dX8_fits_33 : decode cX8_fits 33 = .ok (.if_icmp .gt 14, 3) := by decide +kernel
theorem dX8_fits_36 : decode cX8_fits 36 = .ok (.iload 5, 2) := by decide +kernel
theorem dX8_fits_38 : decode cX8_fits 38 = .ok (.ifCond .lt 9, 3) := by decide +kernel
theorem dX8_fits_41 : decode cX8_fits 41 = .ok (.iload 5, 2) := by decide +kernel
theorem dX8_fits_43 : decode cX8_fits 43 = .ok (.iconst 2, 1) := by decide +kernel
theorem dX8_fits_44 : decode cX8_fits 44 = .ok (.if_icmp .le 6, 3) := by decide +kernel
theorem dX8_fits_47 : decode cX8_fits 47 = .ok (.ldc 55, 2) := by decide +kernel
theorem dX8_fits_49 : decode cX8_fits 49 = .ok (.ireturn, 1) := by decide +kernel
theorem dX8_fits_50 : decode cX8_fits 50 = .ok (.aload 6, 2) := by decide +kernel
theorem dX8_fits_52 : decode cX8_fits 52 = .ok (.iload_n 3, 1) := by decide +kernel
theorem dX8_fits_53 : decode cX8_fits 53 = .ok (.iload 4, 2) := by decide +kernel
theorem dX8_fits_55 : decode cX8_fits 55 = .ok (.invokevirtual 67, 3) := by decide +kernel
theorem dX8_fits_58 : decode cX8_fits 58 = .ok (.istore 7, 2) := by decide +kernel
theorem dX8_fits_60 : decode cX8_fits 60 = .ok (.iload 7, 2) := by decide +kernel
theorem dX8_fits_62 : decode cX8_fits 62 = .ok (.ifCond .eq 10, 3) := by decide +kernel
theorem dX8_fits_65 : decode cX8_fits 65 = .ok (.aload_n 0, 1) := by decide +kernel
theorem dX8_fits_66 : decode cX8_fits 66 = .ok (.iload 7, 2) := by decide +kernel
theorem dX8_fits_68 : decode cX8_fits 68 = .ok (.invokevirtual 56, 3) := by decide +kernel
theorem dX8_fits_71 : decode cX8_fits 71 = .ok (.ireturn, 1) := by decide +kernel
theorem dX8_fits_72 : decode cX8_fits 72 = .ok (.iconst 0, 1) := by decide +kernel
theorem dX8_fits_73 : decode cX8_fits 73 = .ok (.istore 8, 2) := by decide +kernel
theorem dX8_fits_75 : decode cX8_fits 75 = .ok (.iconst 0, 1) := by decide +kernel
theorem dX8_fits_76 : decode cX8_fits 76 = .ok (.istore 9, 2) := by decide +kernel
theorem dX8_fits_78 : decode cX8_fits 78 = .ok (.iload 9, 2) := by decide +kernel
theorem dX8_fits_80 : decode cX8_fits 80 = .ok (.bipush 6, 2) := by decide +kernel
theorem dX8_fits_82 : decode cX8_fits 82 = .ok (.if_icmp .gt 47, 3) := by decide +kernel
theorem dX8_fits_85 : decode cX8_fits 85 = .ok (.aload_n 0, 1) := by decide +kernel
theorem dX8_fits_86 : decode cX8_fits 86 = .ok (.iload_n 1, 1) := by decide +kernel
theorem dX8_fits_87 : decode cX8_fits 87 = .ok (.iload 9, 2) := by decide +kernel
theorem dX8_fits_89 : decode cX8_fits 89 = .ok (.iload 5, 2) := by decide +kernel
theorem dX8_fits_91 : decode cX8_fits 91 = .ok (.invokevirtual 232, 3) := by decide +kernel
theorem dX8_fits_94 : decode cX8_fits 94 = .ok (.ifCond .eq 29, 3) := by decide +kernel
theorem dX8_fits_97 : decode cX8_fits 97 = .ok (.aload_n 0, 1) := by decide +kernel
theorem dX8_fits_98 : decode cX8_fits 98 = .ok (.getfield 29, 3) := by decide +kernel
theorem dX8_fits_101 : decode cX8_fits 101 = .ok (.aload 6, 2) := by decide +kernel
theorem dX8_fits_103 : decode cX8_fits 103 = .ok (.iload_n 3, 1) := by decide +kernel
theorem dX8_fits_104 : decode cX8_fits 104 = .ok (.iload 4, 2) := by decide +kernel
theorem dX8_fits_106 : decode cX8_fits 106 = .ok (.invokevirtual 228, 3) := by decide +kernel
theorem dX8_fits_109 : decode cX8_fits 109 = .ok (.ldc 179, 2) := by decide +kernel
theorem dX8_fits_111 : decode cX8_fits 111 = .ok (.if_icmp .ne 12, 3) := by decide +kernel
theorem dX8_fits_114 : decode cX8_fits 114 = .ok (.iload 8, 2) := by decide +kernel
theorem dX8_fits_116 : decode cX8_fits 116 = .ok (.iconst 1, 1) := by decide +kernel
theorem dX8_fits_117 : decode cX8_fits 117 = .ok (.iload 9, 2) := by decide +kernel
theorem dX8_fits_119 : decode cX8_fits 119 = .ok (.ishl, 1) := by decide +kernel
theorem dX8_fits_120 : decode cX8_fits 120 = .ok (.ior, 1) := by decide +kernel
theorem dX8_fits_121 : decode cX8_fits 121 = .ok (.istore 8, 2) := by decide +kernel
theorem dX8_fits_123 : decode cX8_fits 123 = .ok (.iinc 9 1, 3) := by decide +kernel
theorem dX8_fits_126 : decode cX8_fits 126 = .ok (.goto (-48), 3) := by decide +kernel
theorem dX8_fits_129 : decode cX8_fits 129 = .ok (.aload_n 0, 1) := by decide +kernel
theorem dX8_fits_130 : decode cX8_fits 130 = .ok (.iload 8, 2) := by decide +kernel
theorem dX8_fits_132 : decode cX8_fits 132 = .ok (.invokevirtual 64, 3) := by decide +kernel
theorem dX8_fits_135 : decode cX8_fits 135 = .ok (.ireturn, 1) := by decide +kernel
def L_X8_fits_78 (N : Nat) (v0 : Nat) (v1 : Int32) (v3 : Int32) (v4 : Int32) (v5 : Int32) (v6 : Nat) : Nat → Hp → Int32 → Int32 → Option (Int32 × Hp)
  | 0, _, _, _ => none
  | n + 1, σ, v8, v9 =>
  if 6 < v9 then
   some (v8, σ)
  else
   (m_X8_suppose N σ v0 v1 v9 v5).bind fun r13 =>
  if r13.1 = 0 then
   L_X8_fits_78 N v0 v1 v3 v4 v5 v6 n r13.2 v8 (v9 + 1)
  else
   (gR N r13.2 v0 8 3).bind fun x15 =>
  (m_X2_firstWrong N r13.2 x15 v6 v3 v4).bind fun r16 =>
  if r16.1 = (-1000000) then
   lt (v8 ||| ((1 : Int32) <<< (v9 &&& 31))) fun y18 =>
  L_X8_fits_78 N v0 v1 v3 v4 v5 v6 n r16.2 y18 (v9 + 1)
  else
   L_X8_fits_78 N v0 v1 v3 v4 v5 v6 n r16.2 v8 (v9 + 1)
def m_X8_fits (N : Nat) (σ : Hp) (t0 : Nat) (p1 : Int32) (p2 : Int32) (p3 : Int32) (p4 : Int32) (p5 : Int32) : Option (Int32 × Hp) :=
  (rv N σ t0 8).bind fun _ =>
  (m_X8_rowAt N σ t0 p2).bind fun r1 =>
  (gR N σ t0 8 2).bind fun x2 =>
  (m_X2_hasDisc N σ x2 p1).bind fun r3 =>
  if r3 = 0 then
   some ((-1000001), σ)
  else
   cQ r1 (
   some ((-1000001), σ)) (fun q5 =>
   if p4 < 1 then
   some ((-1000001), σ)
  else
   if 16 < p4 then
   some ((-1000001), σ)
  else
   if p5 < 0 then
   some ((-1000001), σ)
  else
   if p5 ≤ 2 then
   (m_X5_flaw N σ q5 p3 p4).bind fun r10 =>
  if r10 = 0 then
   (L_X8_fits_78 N t0 p1 p3 p4 p5 q5 fu σ 0 0).bind fun z19 =>
  (m_X8_well N z19.2 t0 z19.1).bind fun r20 =>
  some (r20.1, r20.2)
  else
   (m_X8_found N σ t0 r10).bind fun r21 =>
  some (r21.1, r21.2)
  else
   some ((-1000001), σ))
set_option maxHeartbeats 4000000 in
set_option maxRecDepth 100000 in
theorem lp_X8_fits_78 {κ : Kx} {ω : Om} (C : Cx κ 10 6 cX8_fits RX8 "fits") (Z : Zx κ ω) (v0 : Nat) (v1 : Int32) (v3 : Int32) (v4 : Int32) (v5 : Int32) (v6 : Nat) {r : Int32 × Hp} (hk : X κ 10 ω 129 [some (.ref v0), none, none, none, none, none, none, none, some (.int r.1), none] [] r.2) : ∀ (n : Nat) (σ : Hp) (v8 : Int32) (v9 : Int32), L_X8_fits_78 ω.1 v0 v1 v3 v4 v5 v6 n σ v8 v9 = some r → X κ 10 ω 78 [some (.ref v0), some (.int v1), none, some (.int v3), some (.int v4), some (.int v5), some (.ref v6), none, some (.int v8), some (.int v9)] [] σ := by
  intro n
  induction n with
  | zero => intro σ v8 v9 h; cases h
  | succ n ih =>
    intro σ v8 v9 h
    rw [L_X8_fits_78.eq_2] at h
    refine x_iload C (i := 9) dX8_fits_78 rfl ?_
    refine x_bipush C (v := 6) dX8_fits_80 (by decide) ?_
    refine x_icmp_gt C (tgt := 129) dX8_fits_82 (by decide) (fun c12 => ?_) (fun c12 => ?_)
    · have h := ifP h c12
      refine x_wk [true, false, false, false, false, false, false, false, true, false] (lo' := [some (.ref v0), none, none, none, none, none, none, none, some (.int v8), none]) rfl ?_
      obtain rfl := Option.some.inj h
      exact hk
    · have h := ifN h c12
      refine x_aload_n C (i := 0) dX8_fits_85 rfl rfl ?_
      refine x_iload_n C (i := 1) dX8_fits_86 rfl rfl ?_
      refine x_iload C (i := 9) dX8_fits_87 rfl ?_
      refine x_iload C (i := 5) dX8_fits_89 rfl ?_
      obtain ⟨r13, er13, h⟩ := ob h
      refine x_callVr C Z mv_X8_suppose lk_X8_232 (rv_h er13) (ct_X8_suppose er13) (by decide) rfl rfl (Nat.le_of_ble_eq_true rfl) dX8_fits_91 ?_
      refine x_if_eq C (tgt := 123) dX8_fits_94 (by decide) (fun c14 => ?_) (fun c14 => ?_)
      · have h := ifP h c14
        refine x_iinc C (i := 9) (y := v9 + 1) (lo' := [some (.ref v0), some (.int v1), none, some (.int v3), some (.int v4), some (.int v5), some (.ref v6), none, some (.int v8), some (.int (v9 + 1))]) dX8_fits_123 rfl rfl (by decide) rfl rfl ?_
        refine x_goto C (tgt := 78) dX8_fits_126 (by decide) ?_
        refine x_wk [true, true, false, true, true, true, true, false, true, true] (lo' := [some (.ref v0), some (.int v1), none, some (.int v3), some (.int v4), some (.int v5), some (.ref v6), none, some (.int v8), some (.int (v9 + 1))]) rfl ?_
        exact ih r13.2 v8 (v9 + 1) h
      · have h := ifN h c14
        refine x_aload_n C (i := 0) dX8_fits_97 rfl rfl ?_
        obtain ⟨x15, ex15, h⟩ := ob h
        refine x_getR C fl_X8_29 dX8_fits_98 ex15 ?_
        refine x_aload C (i := 6) dX8_fits_101 rfl ?_
        refine x_iload_n C (i := 3) dX8_fits_103 rfl rfl ?_
        refine x_iload C (i := 4) dX8_fits_104 rfl ?_
        obtain ⟨r16, er16, h⟩ := ob h
        refine x_callVr C Z mv_X2_firstWrong lk_X8_228 (rv_h er16) (ct_X2_firstWrong er16) (by decide) rfl rfl (Nat.le_of_ble_eq_true rfl) dX8_fits_106 ?_
        refine x_ldc C kc_X8_179 dX8_fits_109 ?_
        refine x_icmp_ne C (tgt := 123) dX8_fits_111 (by decide) (fun c17 => ?_) (fun c17 => ?_)
        · have h := ifN h c17
          refine x_iinc C (i := 9) (y := v9 + 1) (lo' := [some (.ref v0), some (.int v1), none, some (.int v3), some (.int v4), some (.int v5), some (.ref v6), none, some (.int v8), some (.int (v9 + 1))]) dX8_fits_123 rfl rfl (by decide) rfl rfl ?_
          refine x_goto C (tgt := 78) dX8_fits_126 (by decide) ?_
          refine x_wk [true, true, false, true, true, true, true, false, true, true] (lo' := [some (.ref v0), some (.int v1), none, some (.int v3), some (.int v4), some (.int v5), some (.ref v6), none, some (.int v8), some (.int (v9 + 1))]) rfl ?_
          exact ih r16.2 v8 (v9 + 1) h
        · have h := ifP h c17
          refine x_iload C (i := 8) dX8_fits_114 rfl ?_
          refine x_iconst C (v := 1) dX8_fits_116 (by decide) ?_
          refine x_iload C (i := 9) dX8_fits_117 rfl ?_
          refine x_ishl C dX8_fits_119 ?_
          refine x_ior C dX8_fits_120 ?_
          refine x_topi (fun y18 ey18 => ?_)
          have h := lt_e h ey18
          refine x_istore C (i := 8) (lo' := [some (.ref v0), some (.int v1), none, some (.int v3), some (.int v4), some (.int v5), some (.ref v6), none, some (.int y18), some (.int v9)]) dX8_fits_121 (by decide) rfl rfl ?_
          refine x_iinc C (i := 9) (y := v9 + 1) (lo' := [some (.ref v0), some (.int v1), none, some (.int v3), some (.int v4), some (.int v5), some (.ref v6), none, some (.int y18), some (.int (v9 + 1))]) dX8_fits_123 rfl rfl (by decide) rfl rfl ?_
          refine x_goto C (tgt := 78) dX8_fits_126 (by decide) ?_
          refine x_wk [true, true, false, true, true, true, true, false, true, true] (lo' := [some (.ref v0), some (.int v1), none, some (.int v3), some (.int v4), some (.int v5), some (.ref v6), none, some (.int y18), some (.int (v9 + 1))]) rfl ?_
          exact ih r16.2 y18 (v9 + 1) h
set_option maxHeartbeats 4000000 in
set_option maxRecDepth 100000 in
theorem ct_X8_fits {l : Launch} {D : va_G} {cy : Nat → Nat} {N : Nat} {σ : Hp} {t0 : Nat} {p1 : Int32} {p2 : Int32} {p3 : Int32} {p4 : Int32} {p5 : Int32} {r : Int32 × Hp} (h : m_X8_fits N σ t0 p1 p2 p3 p4 p5 = some r) : Ct l D cy yX8_fits cX8_fits 10 (some .int) 6 [.ref t0, .int p1, .int p2, .int p3, .int p4, .int p5] N σ (fun v s' => v = (some (.int r.1)) ∧ s' = r.2) := by
  refine Ct.intro [some (.ref t0), some (.int p1), some (.int p2), some (.int p3), some (.int p4), some (.int p5), none, none, none, none] (by decide) rfl (Nat.le_of_ble_eq_true rfl) ?_
  intro κ ω e1 e2 e3 e4 C Z E
  subst e1; subst e2; subst e3; subst e4
  have C : Cx κ 10 6 cX8_fits RX8 "fits" := C
  have hE : ∀ x : Int32 × Hp, r = x → ((some (Value.int x.1)) = (some (Value.int r.1)) ∧ x.2 = r.2) := fun x hx => by subst hx; exact ⟨rfl, rfl⟩
  unfold m_X8_fits at h
  obtain ⟨_, _, h⟩ := ob h
  refine x_aload_n C (i := 0) dX8_fits_0 rfl rfl ?_
  refine x_iload_n C (i := 2) dX8_fits_1 rfl rfl ?_
  obtain ⟨r1, er1, h⟩ := ob h
  refine x_callVr C Z mv_X8_rowAt lk_X8_51 (rv_h er1) (ct_X8_rowAt er1) (by decide) rfl rfl (Nat.le_of_ble_eq_true rfl) dX8_fits_2 ?_
  refine x_astoreQ C (i := 6) (lo' := [some (.ref t0), some (.int p1), some (.int p2), some (.int p3), some (.int p4), some (.int p5), some (va_rf r1), none, none, none]) dX8_fits_5 (by decide) rfl rfl ?_
  refine x_aload_n C (i := 0) dX8_fits_7 rfl rfl ?_
  obtain ⟨x2, ex2, h⟩ := ob h
  refine x_getR C fl_X8_25 dX8_fits_8 ex2 ?_
  refine x_iload_n C (i := 1) dX8_fits_11 rfl rfl ?_
  obtain ⟨r3, er3, h⟩ := ob h
  refine x_callVr C Z mv_X2_hasDisc lk_X8_147 (rv_h er3) (ct_X2_hasDisc er3) (by decide) rfl rfl (Nat.le_of_ble_eq_true rfl) dX8_fits_12 ?_
  refine x_if_eq C (tgt := 47) dX8_fits_15 (by decide) (fun c4 => ?_) (fun c4 => ?_)
  · have h := ifP h c4
    refine x_ldc C kc_X8_55 dX8_fits_47 ?_
    exact x_iret C E dX8_fits_49 (hE ((-1000001), σ) (Option.some.inj h).symm)
  · have h := ifN h c4
    refine x_aloadQ C (i := 6) dX8_fits_18 rfl ?_
    refine x_ifnull C (tgt := 47) dX8_fits_20 (by decide) (fun hq => ?_) (fun q5 hq => ?_)
    · subst hq
      have h := cQ_n h
      refine x_ldc C kc_X8_55 dX8_fits_47 ?_
      exact x_iret C E dX8_fits_49 (hE ((-1000001), σ) (Option.some.inj h).symm)
    · subst hq
      have h := cQ_s h
      refine x_iload C (i := 4) dX8_fits_23 rfl ?_
      refine x_iconst C (v := 1) dX8_fits_25 (by decide) ?_
      refine x_icmp_lt C (tgt := 47) dX8_fits_26 (by decide) (fun c6 => ?_) (fun c6 => ?_)
      · have h := ifP h c6
        refine x_ldc C kc_X8_55 dX8_fits_47 ?_
        exact x_iret C E dX8_fits_49 (hE ((-1000001), σ) (Option.some.inj h).symm)
      · have h := ifN h c6
        refine x_iload C (i := 4) dX8_fits_29 rfl ?_
        refine x_bipush C (v := 16) dX8_fits_31 (by decide) ?_
        refine x_icmp_gt C (tgt := 47) dX8_fits_33 (by decide) (fun c7 => ?_) (fun c7 => ?_)
        · have h := ifP h c7
          refine x_ldc C kc_X8_55 dX8_fits_47 ?_
          exact x_iret C E dX8_fits_49 (hE ((-1000001), σ) (Option.some.inj h).symm)
        · have h := ifN h c7
          refine x_iload C (i := 5) dX8_fits_36 rfl ?_
          refine x_if_lt C (tgt := 47) dX8_fits_38 (by decide) (fun c8 => ?_) (fun c8 => ?_)
          · have h := ifP h c8
            refine x_ldc C kc_X8_55 dX8_fits_47 ?_
            exact x_iret C E dX8_fits_49 (hE ((-1000001), σ) (Option.some.inj h).symm)
          · have h := ifN h c8
            refine x_iload C (i := 5) dX8_fits_41 rfl ?_
            refine x_iconst C (v := 2) dX8_fits_43 (by decide) ?_
            refine x_icmp_le C (tgt := 50) dX8_fits_44 (by decide) (fun c9 => ?_) (fun c9 => ?_)
            · have h := ifP h c9
              refine x_aload C (i := 6) dX8_fits_50 rfl ?_
              refine x_iload_n C (i := 3) dX8_fits_52 rfl rfl ?_
              refine x_iload C (i := 4) dX8_fits_53 rfl ?_
              obtain ⟨r10, er10, h⟩ := ob h
              refine x_callVr C Z mv_X5_flaw lk_X8_67 (rv_h er10) (ct_X5_flaw er10) (by decide) rfl rfl (Nat.le_of_ble_eq_true rfl) dX8_fits_55 ?_
              refine x_istore C (i := 7) (lo' := [some (.ref t0), some (.int p1), some (.int p2), some (.int p3), some (.int p4), some (.int p5), some (.ref q5), some (.int r10), none, none]) dX8_fits_58 (by decide) rfl rfl ?_
              refine x_iload C (i := 7) dX8_fits_60 rfl ?_
              refine x_if_eq C (tgt := 72) dX8_fits_62 (by decide) (fun c11 => ?_) (fun c11 => ?_)
              · have h := ifP h c11
                refine x_iconst C (v := 0) dX8_fits_72 (by decide) ?_
                refine x_istore C (i := 8) (lo' := [some (.ref t0), some (.int p1), some (.int p2), some (.int p3), some (.int p4), some (.int p5), some (.ref q5), some (.int r10), some (.int 0), none]) dX8_fits_73 (by decide) rfl rfl ?_
                refine x_iconst C (v := 0) dX8_fits_75 (by decide) ?_
                refine x_istore C (i := 9) (lo' := [some (.ref t0), some (.int p1), some (.int p2), some (.int p3), some (.int p4), some (.int p5), some (.ref q5), some (.int r10), some (.int 0), some (.int 0)]) dX8_fits_76 (by decide) rfl rfl ?_
                obtain ⟨z19, ez19, h⟩ := ob h
                refine x_wk [true, true, false, true, true, true, true, false, true, true] (lo' := [some (.ref t0), some (.int p1), none, some (.int p3), some (.int p4), some (.int p5), some (.ref q5), none, some (.int 0), some (.int 0)]) rfl ?_
                refine lp_X8_fits_78 C Z t0 p1 p3 p4 p5 q5 ?_ _ σ 0 0 ez19
                refine x_aload_n C (i := 0) dX8_fits_129 rfl rfl ?_
                refine x_iload C (i := 8) dX8_fits_130 rfl ?_
                obtain ⟨r20, er20, h⟩ := ob h
                refine x_callVr C Z mv_X8_well lk_X8_64 (rv_h er20) (ct_X8_well er20) (by decide) rfl rfl (Nat.le_of_ble_eq_true rfl) dX8_fits_132 ?_
                exact x_iret C E dX8_fits_135 (hE (r20.1, r20.2) (Option.some.inj h).symm)
              · have h := ifN h c11
                refine x_aload_n C (i := 0) dX8_fits_65 rfl rfl ?_
                refine x_iload C (i := 7) dX8_fits_66 rfl ?_
                obtain ⟨r21, er21, h⟩ := ob h
                refine x_callVr C Z mv_X8_found lk_X8_56 (rv_h er21) (ct_X8_found er21) (by decide) rfl rfl (Nat.le_of_ble_eq_true rfl) dX8_fits_68 ?_
                exact x_iret C E dX8_fits_71 (hE (r21.1, r21.2) (Option.some.inj h).symm)
            · have h := ifN h c9
              refine x_ldc C kc_X8_55 dX8_fits_47 ?_
              exact x_iret C E dX8_fits_49 (hE ((-1000001), σ) (Option.some.inj h).symm)
theorem dX8_commonOf_0 : decode cX8_commonOf 0 = .ok (.lload_n 0, 1) := by decide +kernel
theorem dX8_commonOf_1 : decode cX8_commonOf 1 = .ok (.lstore 4, 2) := by decide +kernel
theorem dX8_commonOf_3 : decode cX8_commonOf 3 = .ok (.lload_n 2, 1) := by decide +kernel
theorem dX8_commonOf_4 : decode cX8_commonOf 4 = .ok (.lstore 6, 2) := by decide +kernel
theorem dX8_commonOf_6 : decode cX8_commonOf 6 = .ok (.iconst 0, 1) := by decide +kernel
theorem dX8_commonOf_7 : decode cX8_commonOf 7 = .ok (.istore 8, 2) := by decide +kernel
theorem dX8_commonOf_9 : decode cX8_commonOf 9 = .ok (.iload 8, 2) := by decide +kernel
theorem dX8_commonOf_11 : decode cX8_commonOf 11 = .ok (.sipush 200, 3) := by decide +kernel
theorem dX8_commonOf_14 : decode cX8_commonOf 14 = .ok (.if_icmp .ge 31, 3) := by decide +kernel
theorem dX8_commonOf_17 : decode cX8_commonOf 17 = .ok (.lload 6, 2) := by decide +kernel
theorem dX8_commonOf_19 : decode cX8_commonOf 19 = .ok (.lconst 0, 1) := by decide +kernel
theorem dX8_commonOf_20 : decode cX8_commonOf 20 = .ok (.lcmp, 1) := by decide +kernel
theorem dX8_commonOf_21 : decode cX8_commonOf 21 = .ok (.ifCond .eq 24, 3) := by decide +kernel
theorem dX8_commonOf_24 : decode cX8_commonOf 24 = .ok (.lload 4, 2) := by decide +kernel
theorem dX8_commonOf_26 : decode cX8_commonOf 26 = .ok (.lload 6, 2) := by decide +kernel
theorem dX8_commonOf_28 : decode cX8_commonOf 28 = .ok (.lrem, 1) := by decide +kernel
theorem dX8_commonOf_29 : decode cX8_commonOf 29 = .ok (.lstore 9, 2) := by decide +kernel
theorem dX8_commonOf_31 : decode cX8_commonOf 31 = .ok (.lload 6, 2) := by decide +kernel
theorem dX8_commonOf_33 : decode cX8_commonOf 33 = .ok (.lstore 4, 2) := by decide +kernel
theorem dX8_commonOf_35 : decode cX8_commonOf 35 = .ok (.lload 9, 2) := by decide +kernel
theorem dX8_commonOf_37 : decode cX8_commonOf 37 = .ok (.lstore 6, 2) := by decide +kernel
theorem dX8_commonOf_39 : decode cX8_commonOf 39 = .ok (.iinc 8 1, 3) := by decide +kernel
theorem dX8_commonOf_42 : decode cX8_commonOf 42 = .ok (.goto (-33), 3) := by decide +kernel
theorem dX8_commonOf_45 : decode cX8_commonOf 45 = .ok (.lload 4, 2) := by decide +kernel
theorem dX8_commonOf_47 : decode cX8_commonOf 47 = .ok (.lreturn, 1) := by decide +kernel
def L_X8_commonOf_9  : Nat → Int64 → Int64 → Int32 → Option (Int64)
  | 0, _, _, _ => none
  | n + 1, v4, v6, v8 =>
  if 200 ≤ v8 then
   some v4
  else
   if (lg_cmp v6 0) = 0 then
   some v4
  else
   (nzJ v6).bind fun u3 =>
  L_X8_commonOf_9 n v6 (v4 - v4 / v6 * v6) (v8 + 1)
def m_X8_commonOf (p0 : Int64) (p2 : Int64) : Option (Int64) :=
  (L_X8_commonOf_9 fu p0 p2 0).bind fun z4 =>
  some z4
set_option maxHeartbeats 4000000 in
set_option maxRecDepth 100000 in
theorem lp_X8_commonOf_9 {κ : Kx} {ω : Om} (C : Cx κ 11 0 cX8_commonOf RX8 "commonOf") (Z : Zx κ ω) {σ : Hp} {r : Int64} (hk : X κ 11 ω 45 [none, none, none, none, some (.long r), none, none, none, none, none, none] [] σ) : ∀ (n : Nat) (v4 : Int64) (v6 : Int64) (v8 : Int32), L_X8_commonOf_9 n v4 v6 v8 = some r → X κ 11 ω 9 [none, none, none, none, some (.long v4), none, some (.long v6), none, some (.int v8), none, none] [] σ := by
  intro n
  induction n with
  | zero => intro v4 v6 v8 h; cases h
  | succ n ih =>
    intro v4 v6 v8 h
    rw [L_X8_commonOf_9.eq_2] at h
    refine x_iload C (i := 8) dX8_commonOf_9 rfl ?_
    refine x_sipush C (v := 200) dX8_commonOf_11 (by decide) ?_
    refine x_icmp_ge C (tgt := 45) dX8_commonOf_14 (by decide) (fun c1 => ?_) (fun c1 => ?_)
    · have h := ifP h c1
      refine x_wk [false, false, false, false, true, false, false, false, false, false, false] (lo' := [none, none, none, none, some (.long v4), none, none, none, none, none, none]) rfl ?_
      obtain rfl := Option.some.inj h
      exact hk
    · have h := ifN h c1
      refine x_lload C (i := 6) dX8_commonOf_17 rfl ?_
      refine x_lconst C (v := 0) dX8_commonOf_19 (by decide) ?_
      refine x_lcmp C dX8_commonOf_20 ?_
      refine x_if_eq C (tgt := 45) dX8_commonOf_21 (by decide) (fun c2 => ?_) (fun c2 => ?_)
      · have h := ifP h c2
        refine x_wk [false, false, false, false, true, false, false, false, false, false, false] (lo' := [none, none, none, none, some (.long v4), none, none, none, none, none, none]) rfl ?_
        obtain rfl := Option.some.inj h
        exact hk
      · have h := ifN h c2
        refine x_lload C (i := 4) dX8_commonOf_24 rfl ?_
        refine x_lload C (i := 6) dX8_commonOf_26 rfl ?_
        obtain ⟨u3, eu3, h⟩ := ob h
        refine x_lrem C dX8_commonOf_28 (nzJ_ne eu3) ?_
        refine x_lstore C (i := 9) (lo' := [none, none, none, none, some (.long v4), none, some (.long v6), none, some (.int v8), some (.long (v4 - v4 / v6 * v6)), none]) dX8_commonOf_29 (by decide) rfl rfl ?_
        refine x_lload C (i := 6) dX8_commonOf_31 rfl ?_
        refine x_lstore C (i := 4) (lo' := [none, none, none, none, some (.long v6), none, some (.long v6), none, some (.int v8), some (.long (v4 - v4 / v6 * v6)), none]) dX8_commonOf_33 (by decide) rfl rfl ?_
        refine x_lload C (i := 9) dX8_commonOf_35 rfl ?_
        refine x_lstore C (i := 6) (lo' := [none, none, none, none, some (.long v6), none, some (.long (v4 - v4 / v6 * v6)), none, some (.int v8), some (.long (v4 - v4 / v6 * v6)), none]) dX8_commonOf_37 (by decide) rfl rfl ?_
        refine x_iinc C (i := 8) (y := v8 + 1) (lo' := [none, none, none, none, some (.long v6), none, some (.long (v4 - v4 / v6 * v6)), none, some (.int (v8 + 1)), some (.long (v4 - v4 / v6 * v6)), none]) dX8_commonOf_39 rfl rfl (by decide) rfl rfl ?_
        refine x_goto C (tgt := 9) dX8_commonOf_42 (by decide) ?_
        refine x_wk [false, false, false, false, true, false, true, false, true, false, false] (lo' := [none, none, none, none, some (.long v6), none, some (.long (v4 - v4 / v6 * v6)), none, some (.int (v8 + 1)), none, none]) rfl ?_
        exact ih v6 (v4 - v4 / v6 * v6) (v8 + 1) h
set_option maxHeartbeats 4000000 in
set_option maxRecDepth 100000 in
theorem ct_X8_commonOf {l : Launch} {D : va_G} {cy : Nat → Nat} {N : Nat} {σ : Hp} {p0 : Int64} {p2 : Int64} {r : Int64} (h : m_X8_commonOf p0 p2 = some r) : Ct l D cy yX8_commonOf cX8_commonOf 11 (some .long) 0 [.long p0, .long p2] N σ (fun v s' => v = (some (.long r)) ∧ s' = σ) := by
  refine Ct.intro [some (.long p0), none, some (.long p2), none, none, none, none, none, none, none, none] (by decide) rfl (Nat.le_of_ble_eq_true rfl) ?_
  intro κ ω e1 e2 e3 e4 C Z E
  subst e1; subst e2; subst e3; subst e4
  have C : Cx κ 11 0 cX8_commonOf RX8 "commonOf" := C
  have hE : ∀ x : Int64, r = x → ((some (Value.long x)) = (some (Value.long r)) ∧ σ = σ) := fun x hx => by subst hx; exact ⟨rfl, rfl⟩
  unfold m_X8_commonOf at h
  refine x_lload_n C (i := 0) dX8_commonOf_0 rfl rfl ?_
  refine x_lstore C (i := 4) (lo' := [some (.long p0), none, some (.long p2), none, some (.long p0), none, none, none, none, none, none]) dX8_commonOf_1 (by decide) rfl rfl ?_
  refine x_lload_n C (i := 2) dX8_commonOf_3 rfl rfl ?_
  refine x_lstore C (i := 6) (lo' := [some (.long p0), none, some (.long p2), none, some (.long p0), none, some (.long p2), none, none, none, none]) dX8_commonOf_4 (by decide) rfl rfl ?_
  refine x_iconst C (v := 0) dX8_commonOf_6 (by decide) ?_
  refine x_istore C (i := 8) (lo' := [some (.long p0), none, some (.long p2), none, some (.long p0), none, some (.long p2), none, some (.int 0), none, none]) dX8_commonOf_7 (by decide) rfl rfl ?_
  obtain ⟨z4, ez4, h⟩ := ob h
  refine x_wk [false, false, false, false, true, false, true, false, true, false, false] (lo' := [none, none, none, none, some (.long p0), none, some (.long p2), none, some (.int 0), none, none]) rfl ?_
  refine lp_X8_commonOf_9 C Z  ?_ _ p0 p2 0 ez4
  refine x_lload C (i := 4) dX8_commonOf_45 rfl ?_
  exact x_lret C E dX8_commonOf_47 (hE z4 (Option.some.inj h).symm)
theorem dX8_chance_0 : decode cX8_chance 0 = .ok (.aload_n 0, 1) := by decide +kernel
theorem dX8_chance_1 : decode cX8_chance 1 = .ok (.getfield 25, 3) := by decide +kernel
theorem dX8_chance_4 : decode cX8_chance 4 = .ok (.iload_n 1, 1) := by decide +kernel
theorem dX8_chance_5 : decode cX8_chance 5 = .ok (.invokevirtual 147, 3) := by decide +kernel
theorem dX8_chance_8 : decode cX8_chance 8 = .ok (.ifCond .eq 35, 3) := by decide +kernel
theorem dX8_chance_11 : decode cX8_chance 11 = .ok (.aload_n 0, 1) := by decide +kernel
theorem dX8_chance_12 : decode cX8_chance 12 = .ok (.getfield 25, 3) := by decide +kernel
theorem dX8_chance_15 : decode cX8_chance 15 = .ok (.iload_n 2, 1) := by decide +kernel
theorem dX8_chance_16 : decode cX8_chance 16 = .ok (.invokevirtual 127, 3) := by decide +kernel
theorem dX8_chance_19 : decode cX8_chance 19 = .ok (.ifCond .eq 24, 3) := by decide +kernel
theorem dX8_chance_22 : decode cX8_chance 22 = .ok (.iload_n 3, 1) := by decide +kernel
theorem dX8_chance_23 : decode cX8_chance 23 = .ok (.ifCond .lt 20, 3) := by decide +kernel
theorem dX8_chance_26 : decode cX8_chance 26 = .ok (.iload_n 3, 1) := by decide +kernel
theorem dX8_chance_27 : decode cX8_chance 27 = .ok (.bipush 7, 2) := by decide +kernel
theorem dX8_chance_29 : decode cX8_chance 29 = .ok (.if_icmp .gt 14, 3) := by decide +kernel
theorem dX8_chance_32 : decode cX8_chance 32 = .ok (.iload 4, 2) := by decide +kernel
theorem dX8_chance_34 : decode cX8_chance 34 = .ok (.ifCond .lt 9, 3) := by decide +kernel
theorem dX8_chance_37 : decode cX8_chance 37 = .ok (.iload 4, 2) := by decide +kernel
theorem dX8_chance_39 : decode cX8_chance 39 = .ok (.iconst 1, 1) := by decide +kernel
theorem dX8_chance_40 : decode cX8_chance 40 = .ok (.if_icmp .le 7, 3) := by decide +kernel
theorem dX8_chance_43 : decode cX8_chance 43 = .ok (.ldc2_w 216, 3) := by decide +kernel
theorem dX8_chance_46 : decode cX8_chance 46 = .ok (.lreturn, 1) := by decide +kernel
theorem dX8_chance_47 : decode cX8_chance 47 = .ok (.aload_n 0, 1) := by decide +kernel
theorem dX8_chance_48 : decode cX8_chance 48 = .ok (.invokevirtual 218, 3) := by decide +kernel
theorem dX8_chance_51 : decode cX8_chance 51 = .ok (.astore 5, 2) := by decide +kernel
theorem dX8_chance_53 : decode cX8_chance 53 = .ok (.aload 5, 2) := by decide +kernel
theorem dX8_chance_55 : decode cX8_chance 55 = .ok (.iload_n 1, 1) := by decide +kernel
theorem dX8_chance_56 : decode cX8_chance 56 = .ok (.iload_n 2, 1) := by decide +kernel
theorem dX8_chance_57 : decode cX8_chance 57 = .ok (.iload_n 3, 1) := by decide +kernel
theorem dX8_chance_58 : decode cX8_chance 58 = .ok (.invokevirtual 236, 3) := by decide +kernel
theorem dX8_chance_61 : decode cX8_chance 61 = .ok (.lstore 6, 2) := by decide +kernel
theorem dX8_chance_63 : decode cX8_chance 63 = .ok (.aload 5, 2) := by decide +kernel
theorem dX8_chance_65 : decode cX8_chance 65 = .ok (.iload_n 3, 1) := by decide +kernel
theorem dX8_chance_66 : decode cX8_chance 66 = .ok (.invokevirtual 240, 3) := by decide +kernel
theorem dX8_chance_69 : decode cX8_chance 69 = .ok (.lstore 8, 2) := by decide +kernel
theorem dX8_chance_71 : decode cX8_chance 71 = .ok (.lload 6, 2) := by decide +kernel
theorem dX8_chance_73 : decode cX8_chance 73 = .ok (.lload 8, 2) := by decide +kernel
theorem dX8_chance_75 : decode cX8_chance 75 = .ok (.invokestatic 244, 3) := by decide +kernel
theorem dX8_chance_78 : decode cX8_chance 78 = .ok (.lstore 10, 2) := by decide +kernel
theorem dX8_chance_80 : decode cX8_chance 80 = .ok (.lload 10, 2) := by decide +kernel
theorem dX8_chance_82 : decode cX8_chance 82 = .ok (.lconst 0, 1) := by decide +kernel
theorem dX8_chance_83 : decode cX8_chance 83 = .ok (.lcmp, 1) := by decide +kernel
theorem dX8_chance_84 : decode cX8_chance 84 = .ok (.ifCond .ne 5, 3) := by decide +kernel
theorem dX8_chance_87 : decode cX8_chance 87 = .ok (.lconst 0, 1) := by decide +kernel
theorem dX8_chance_88 : decode cX8_chance 88 = .ok (.lreturn, 1) := by decide +kernel
theorem dX8_chance_89 : decode cX8_chance 89 = .ok (.iload 4, 2) := by decide +kernel
theorem dX8_chance_91 : decode cX8_chance 91 = .ok (.ifCond .ne 8, 3) := by decide +kernel
theorem dX8_chance_94 : decode cX8_chance 94 = .ok (.lload 6, 2) := by decide +kernel
theorem dX8_chance_96 : decode cX8_chance 96 = .ok (.goto 5, 3) := by decide +kernel
theorem dX8_chance_99 : decode cX8_chance 99 = .ok (.lload 8, 2) := by decide +kernel
theorem dX8_chance_101 : decode cX8_chance 101 = .ok (.lload 10, 2) := by decide +kernel
theorem dX8_chance_103 : decode cX8_chance 103 = .ok (.ldiv, 1) := by decide +kernel
theorem dX8_chance_104 : decode cX8_chance 104 = .ok (.lreturn, 1) := by decide +kernel
noncomputable def m_X8_chance (N : Nat) (σ : Hp) (t0 : Nat) (p1 : Int32) (p2 : Int32) (p3 : Int32) (p4 : Int32) : Option (Int64 × Nat × Hp) :=
  (rv N σ t0 8).bind fun _ =>
  (gR N σ t0 8 2).bind fun x1 =>
  (m_X2_hasDisc N σ x1 p1).bind fun r2 =>
  if r2 = 0 then
   some ((-1000001), N, σ)
  else
   (gR N σ t0 8 2).bind fun x4 =>
  (m_X2_hasPeg N σ x4 p2).bind fun r5 =>
  if r5 = 0 then
   some ((-1000001), N, σ)
  else
   if p3 < 0 then
   some ((-1000001), N, σ)
  else
   if 7 < p3 then
   some ((-1000001), N, σ)
  else
   if p4 < 0 then
   some ((-1000001), N, σ)
  else
   if p4 ≤ 1 then
   (al N σ [t0] (0 + 6) (0 + 16397) 6 16397).bind fun u12 =>
  (m_X8_layered N σ t0).bind fun r11 =>
  (nb r11.2.1).bind fun u13 =>
  (m_X3_partsOn r11.2.1 r11.2.2 r11.1 p1 p2 p3).bind fun r14 =>
  (m_X3_partsOfAll r11.2.1 r14.2 r11.1 p3).bind fun r15 =>
  (m_X8_commonOf r14.1 r15).bind fun r16 =>
  if (lg_cmp r16 0) = 0 then
   some (0, r11.2.1, r14.2)
  else
   if p4 = 0 then
   (nzJ r16).bind fun u20 =>
  some (r14.1 / r16, r11.2.1, r14.2)
  else
   (nzJ r16).bind fun u19 =>
  some (r15 / r16, r11.2.1, r14.2)
  else
   some ((-1000001), N, σ)
set_option maxHeartbeats 4000000 in
set_option maxRecDepth 100000 in
theorem ct_X8_chance {l : Launch} {D : va_G} {cy : Nat → Nat} {N : Nat} {σ : Hp} {t0 : Nat} {p1 : Int32} {p2 : Int32} {p3 : Int32} {p4 : Int32} {r : Int64 × Nat × Hp} (h : m_X8_chance N σ t0 p1 p2 p3 p4 = some r) : CtA l D cy yX8_chance cX8_chance 12 (some .long) 6 6 16397 [.ref t0, .int p1, .int p2, .int p3, .int p4] N σ (fun v n' s' => v = (some (.long r.1)) ∧ n' = r.2.1 ∧ s' = r.2.2) := by
  refine CtA.intro [some (.ref t0), some (.int p1), some (.int p2), some (.int p3), some (.int p4), none, none, none, none, none, none, none] (by decide) rfl (Nat.le_of_ble_eq_true rfl) ?_
  intro κ ad0 e1 e2 e3 hRc hRs C Z E
  subst e1; subst e2; subst e3
  have C : Cx κ 12 6 cX8_chance RX8 "chance" := C
  have G := Ag.rf N ad0 0 0
  have hE : ∀ x : Int64 × Nat × Hp, r = x → ((some (Value.long x.1)) = (some (Value.long r.1)) ∧ x.2.1 = r.2.1 ∧ x.2.2 = r.2.2) := fun x hx => by subst hx; exact ⟨rfl, rfl, rfl⟩
  unfold m_X8_chance at h
  obtain ⟨_, _, h⟩ := ob h
  refine x_aload_n C (i := 0) dX8_chance_0 rfl rfl ?_
  obtain ⟨x1, ex1, h⟩ := ob h
  refine x_getR C fl_X8_25 dX8_chance_1 ex1 ?_
  refine x_iload_n C (i := 1) dX8_chance_4 rfl rfl ?_
  obtain ⟨r2, er2, h⟩ := ob h
  refine x_callVr C Z mv_X2_hasDisc lk_X8_147 (rv_h er2) (ct_X2_hasDisc er2) (by decide) rfl rfl (Nat.le_of_ble_eq_true rfl) dX8_chance_5 ?_
  refine x_if_eq C (tgt := 43) dX8_chance_8 (by decide) (fun c3 => ?_) (fun c3 => ?_)
  · have h := ifP h c3
    refine x_ldc2 C kj_X8_216 dX8_chance_43 ?_
    exact x_lretA C E G ⟨hRc ▸ Z.1.1, hRs ▸ Z.1.2⟩ dX8_chance_46 (hE ((-1000001), N, σ) (Option.some.inj h).symm)
  · have h := ifN h c3
    refine x_aload_n C (i := 0) dX8_chance_11 rfl rfl ?_
    obtain ⟨x4, ex4, h⟩ := ob h
    refine x_getR C fl_X8_25 dX8_chance_12 ex4 ?_
    refine x_iload_n C (i := 2) dX8_chance_15 rfl rfl ?_
    obtain ⟨r5, er5, h⟩ := ob h
    refine x_callVr C Z mv_X2_hasPeg lk_X8_127 (rv_h er5) (ct_X2_hasPeg er5) (by decide) rfl rfl (Nat.le_of_ble_eq_true rfl) dX8_chance_16 ?_
    refine x_if_eq C (tgt := 43) dX8_chance_19 (by decide) (fun c6 => ?_) (fun c6 => ?_)
    · have h := ifP h c6
      refine x_ldc2 C kj_X8_216 dX8_chance_43 ?_
      exact x_lretA C E G ⟨hRc ▸ Z.1.1, hRs ▸ Z.1.2⟩ dX8_chance_46 (hE ((-1000001), N, σ) (Option.some.inj h).symm)
    · have h := ifN h c6
      refine x_iload_n C (i := 3) dX8_chance_22 rfl rfl ?_
      refine x_if_lt C (tgt := 43) dX8_chance_23 (by decide) (fun c7 => ?_) (fun c7 => ?_)
      · have h := ifP h c7
        refine x_ldc2 C kj_X8_216 dX8_chance_43 ?_
        exact x_lretA C E G ⟨hRc ▸ Z.1.1, hRs ▸ Z.1.2⟩ dX8_chance_46 (hE ((-1000001), N, σ) (Option.some.inj h).symm)
      · have h := ifN h c7
        refine x_iload_n C (i := 3) dX8_chance_26 rfl rfl ?_
        refine x_bipush C (v := 7) dX8_chance_27 (by decide) ?_
        refine x_icmp_gt C (tgt := 43) dX8_chance_29 (by decide) (fun c8 => ?_) (fun c8 => ?_)
        · have h := ifP h c8
          refine x_ldc2 C kj_X8_216 dX8_chance_43 ?_
          exact x_lretA C E G ⟨hRc ▸ Z.1.1, hRs ▸ Z.1.2⟩ dX8_chance_46 (hE ((-1000001), N, σ) (Option.some.inj h).symm)
        · have h := ifN h c8
          refine x_iload C (i := 4) dX8_chance_32 rfl ?_
          refine x_if_lt C (tgt := 43) dX8_chance_34 (by decide) (fun c9 => ?_) (fun c9 => ?_)
          · have h := ifP h c9
            refine x_ldc2 C kj_X8_216 dX8_chance_43 ?_
            exact x_lretA C E G ⟨hRc ▸ Z.1.1, hRs ▸ Z.1.2⟩ dX8_chance_46 (hE ((-1000001), N, σ) (Option.some.inj h).symm)
          · have h := ifN h c9
            refine x_iload C (i := 4) dX8_chance_37 rfl ?_
            refine x_iconst C (v := 1) dX8_chance_39 (by decide) ?_
            refine x_icmp_le C (tgt := 47) dX8_chance_40 (by decide) (fun c10 => ?_) (fun c10 => ?_)
            · have h := ifP h c10
              refine x_aload_n C (i := 0) dX8_chance_47 rfl rfl ?_
              obtain ⟨u12, eu12, h⟩ := ob h
              obtain ⟨r11, er11, h⟩ := ob h
              obtain ⟨u13, eu13, h⟩ := ob h
              refine g_callVr C Z G hRc hRs mv_X8_layered lk_X8_218 (rv_h er11) (ct_X8_layered er11) (by decide) rfl rfl (Nat.le_of_ble_eq_true rfl) eu12 rfl eu13 dX8_chance_48 (fun ad Z G => ?_)
              refine x_astore C (i := 5) (lo' := [some (.ref t0), some (.int p1), some (.int p2), some (.int p3), some (.int p4), some (.ref r11.1), none, none, none, none, none, none]) dX8_chance_51 (by decide) rfl rfl ?_
              refine x_aload C (i := 5) dX8_chance_53 rfl ?_
              refine x_iload_n C (i := 1) dX8_chance_55 rfl rfl ?_
              refine x_iload_n C (i := 2) dX8_chance_56 rfl rfl ?_
              refine x_iload_n C (i := 3) dX8_chance_57 rfl rfl ?_
              obtain ⟨r14, er14, h⟩ := ob h
              refine x_callVr C Z mv_X3_partsOn lk_X8_236 (rv_h er14) (ct_X3_partsOn er14) (by decide) rfl rfl (Nat.le_of_ble_eq_true rfl) dX8_chance_58 ?_
              refine x_lstore C (i := 6) (lo' := [some (.ref t0), some (.int p1), some (.int p2), some (.int p3), some (.int p4), some (.ref r11.1), some (.long r14.1), none, none, none, none, none]) dX8_chance_61 (by decide) rfl rfl ?_
              refine x_aload C (i := 5) dX8_chance_63 rfl ?_
              refine x_iload_n C (i := 3) dX8_chance_65 rfl rfl ?_
              obtain ⟨r15, er15, h⟩ := ob h
              refine x_callVr C Z mv_X3_partsOfAll lk_X8_240 (rv_h er15) (ct_X3_partsOfAll er15) (by decide) rfl rfl (Nat.le_of_ble_eq_true rfl) dX8_chance_66 ?_
              refine x_lstore C (i := 8) (lo' := [some (.ref t0), some (.int p1), some (.int p2), some (.int p3), some (.int p4), some (.ref r11.1), some (.long r14.1), none, some (.long r15), none, none, none]) dX8_chance_69 (by decide) rfl rfl ?_
              refine x_lload C (i := 6) dX8_chance_71 rfl ?_
              refine x_lload C (i := 8) dX8_chance_73 rfl ?_
              obtain ⟨r16, er16, h⟩ := ob h
              refine x_callSr C Z ms_X8_commonOf lk_X8_244 (ct_X8_commonOf (N := r11.2.1) (σ := r14.2) er16) (by decide) rfl rfl (Nat.le_of_ble_eq_true rfl) dX8_chance_75 ?_
              refine x_lstore C (i := 10) (lo' := [some (.ref t0), some (.int p1), some (.int p2), some (.int p3), some (.int p4), some (.ref r11.1), some (.long r14.1), none, some (.long r15), none, some (.long r16), none]) dX8_chance_78 (by decide) rfl rfl ?_
              refine x_lload C (i := 10) dX8_chance_80 rfl ?_
              refine x_lconst C (v := 0) dX8_chance_82 (by decide) ?_
              refine x_lcmp C dX8_chance_83 ?_
              refine x_if_ne C (tgt := 89) dX8_chance_84 (by decide) (fun c17 => ?_) (fun c17 => ?_)
              · have h := ifN h c17
                refine x_iload C (i := 4) dX8_chance_89 rfl ?_
                refine x_if_ne C (tgt := 99) dX8_chance_91 (by decide) (fun c18 => ?_) (fun c18 => ?_)
                · have h := ifN h c18
                  refine x_lload C (i := 8) dX8_chance_99 rfl ?_
                  refine x_lload C (i := 10) dX8_chance_101 rfl ?_
                  obtain ⟨u19, eu19, h⟩ := ob h
                  refine x_ldiv C dX8_chance_103 (nzJ_ne eu19) ?_
                  exact x_lretA C E G ⟨hRc ▸ Z.1.1, hRs ▸ Z.1.2⟩ dX8_chance_104 (hE (r15 / r16, r11.2.1, r14.2) (Option.some.inj h).symm)
                · have h := ifP h c18
                  refine x_lload C (i := 6) dX8_chance_94 rfl ?_
                  refine x_goto C (tgt := 101) dX8_chance_96 (by decide) ?_
                  refine x_lload C (i := 10) dX8_chance_101 rfl ?_
                  obtain ⟨u20, eu20, h⟩ := ob h
                  refine x_ldiv C dX8_chance_103 (nzJ_ne eu20) ?_
                  exact x_lretA C E G ⟨hRc ▸ Z.1.1, hRs ▸ Z.1.2⟩ dX8_chance_104 (hE (r14.1 / r16, r11.2.1, r14.2) (Option.some.inj h).symm)
              · have h := ifP h c17
                refine x_lconst C (v := 0) dX8_chance_87 (by decide) ?_
                exact x_lretA C E G ⟨hRc ▸ Z.1.1, hRs ▸ Z.1.2⟩ dX8_chance_88 (hE (0, r11.2.1, r14.2) (Option.some.inj h).symm)
            · have h := ifN h c10
              refine x_ldc2 C kj_X8_216 dX8_chance_43 ?_
              exact x_lretA C E G ⟨hRc ▸ Z.1.1, hRs ▸ Z.1.2⟩ dX8_chance_46 (hE ((-1000001), N, σ) (Option.some.inj h).symm)
theorem dX8_drawn_0 : decode cX8_drawn 0 = .ok (.aload_n 0, 1) := by decide +kernel
theorem dX8_drawn_1 : decode cX8_drawn 1 = .ok (.getfield 25, 3) := by decide +kernel
theorem dX8_drawn_4 : decode cX8_drawn 4 = .ok (.invokevirtual 156, 3) := by decide +kernel
theorem dX8_drawn_7 : decode cX8_drawn 7 = .ok (.ifCond .eq 6, 3) := by decide +kernel
theorem dX8_drawn_10 : decode cX8_drawn 10 = .ok (.ldc 133, 2) := by decide +kernel
theorem dX8_drawn_12 : decode cX8_drawn 12 = .ok (.ireturn, 1) := by decide +kernel
theorem dX8_drawn_13 : decode cX8_drawn 13 = .ok (.iload_n 1, 1) := by decide +kernel
theorem dX8_drawn_14 : decode cX8_drawn 14 = .ok (.ifCond .lt 29, 3) := by decide +kernel
theorem dX8_drawn_17 : decode cX8_drawn 17 = .ok (.iload_n 1, 1) := by decide +kernel
theorem dX8_drawn_18 : decode cX8_drawn 18 = .ok (.bipush 60, 2) := by decide +kernel
theorem dX8_drawn_20 : decode cX8_drawn 20 = .ok (.if_icmp .gt 23, 3) := by decide +kernel
theorem dX8_drawn_23 : decode cX8_drawn 23 = .ok (.iload_n 2, 1) := by decide +kernel
theorem dX8_drawn_24 : decode cX8_drawn 24 = .ok (.iconst 1, 1) := by decide +kernel
theorem dX8_drawn_25 : decode cX8_drawn 25 = .ok (.if_icmp .lt 18, 3) := by decide +kernel
theorem dX8_drawn_28 : decode cX8_drawn 28 = .ok (.iload_n 2, 1) := by decide +kernel
theorem dX8_drawn_29 : decode cX8_drawn 29 = .ok (.ldc 248, 2) := by decide +kernel
theorem dX8_drawn_31 : decode cX8_drawn 31 = .ok (.if_icmp .gt 12, 3) := by decide +kernel
theorem dX8_drawn_34 : decode cX8_drawn 34 = .ok (.iload_n 3, 1) := by decide +kernel
theorem dX8_drawn_35 : decode cX8_drawn 35 = .ok (.ifCond .lt 8, 3) := by decide +kernel
theorem dX8_drawn_38 : decode cX8_drawn 38 = .ok (.iload_n 3, 1) := by decide +kernel
theorem dX8_drawn_39 : decode cX8_drawn 39 = .ok (.iconst 1, 1) := by decide +kernel
theorem dX8_drawn_40 : decode cX8_drawn 40 = .ok (.if_icmp .le 6, 3) := by decide +kernel
theorem dX8_drawn_43 : decode cX8_drawn 43 = .ok (.ldc 55, 2) := by decide +kernel
theorem dX8_drawn_45 : decode cX8_drawn 45 = .ok (.ireturn, 1) := by decide +kernel
theorem dX8_drawn_46 : decode cX8_drawn 46 = .ok (.aload_n 0, 1) := by decide +kernel
theorem dX8_drawn_47 : decode cX8_drawn 47 = .ok (.getfield 29, 3) := by decide +kernel
theorem dX8_drawn_50 : decode cX8_drawn 50 = .ok (.aload_n 0, 1) := by decide +kernel
theorem dX8_drawn_51 : decode cX8_drawn 51 = .ok (.getfield 25, 3) := by decide +kernel
theorem dX8_drawn_54 : decode cX8_drawn 54 = .ok (.invokevirtual 118, 3) := by decide +kernel
theorem dX8_drawn_57 : decode cX8_drawn 57 = .ok (.aload_n 0, 1) := by decide +kernel
theorem dX8_drawn_58 : decode cX8_drawn 58 = .ok (.getfield 29, 3) := by decide +kernel
theorem dX8_drawn_61 : decode cX8_drawn 61 = .ok (.iload_n 1, 1) := by decide +kernel
theorem dX8_drawn_62 : decode cX8_drawn 62 = .ok (.iload_n 2, 1) := by decide +kernel
theorem dX8_drawn_63 : decode cX8_drawn 63 = .ok (.invokevirtual 249, 3) := by decide +kernel
theorem dX8_drawn_66 : decode cX8_drawn 66 = .ok (.istore 4, 2) := by decide +kernel
theorem dX8_drawn_68 : decode cX8_drawn 68 = .ok (.iload_n 3, 1) := by decide +kernel
theorem dX8_drawn_69 : decode cX8_drawn 69 = .ok (.ifCond .ne 20, 3) := by decide +kernel
theorem dX8_drawn_72 : decode cX8_drawn 72 = .ok (.aload_n 0, 1) := by decide +kernel
theorem dX8_drawn_73 : decode cX8_drawn 73 = .ok (.getfield 29, 3) := by decide +kernel
theorem dX8_drawn_76 : decode cX8_drawn 76 = .ok (.aload_n 0, 1) := by decide +kernel
theorem dX8_drawn_77 : decode cX8_drawn 77 = .ok (.getfield 29, 3) := by decide +kernel
theorem dX8_drawn_80 : decode cX8_drawn 80 = .ok (.getfield 252, 3) := by decide +kernel
theorem dX8_drawn_83 : decode cX8_drawn 83 = .ok (.invokevirtual 205, 3) := by decide +kernel
theorem dX8_drawn_86 : decode cX8_drawn 86 = .ok (.goto 5, 3) := by decide +kernel
theorem dX8_drawn_89 : decode cX8_drawn 89 = .ok (.iload 4, 2) := by decide +kernel
theorem dX8_drawn_91 : decode cX8_drawn 91 = .ok (.ireturn, 1) := by decide +kernel
def m_X8_drawn (N : Nat) (σ : Hp) (t0 : Nat) (p1 : Int32) (p2 : Int32) (p3 : Int32) : Option (Int32 × Hp) :=
  (rv N σ t0 8).bind fun _ =>
  (gR N σ t0 8 2).bind fun x1 =>
  (m_X2_isNone N σ x1).bind fun r2 =>
  if r2 = 0 then
   if p1 < 0 then
   some ((-1000001), σ)
  else
   if 60 < p1 then
   some ((-1000001), σ)
  else
   if p2 < 1 then
   some ((-1000001), σ)
  else
   if 999999 < p2 then
   some ((-1000001), σ)
  else
   if p3 < 0 then
   some ((-1000001), σ)
  else
   if p3 ≤ 1 then
   (gR N σ t0 8 3).bind fun x10 =>
  (gR N σ t0 8 2).bind fun x11 =>
  (m_X2_take N σ x10 x11).bind fun r12 =>
  (gR N r12 t0 8 3).bind fun x13 =>
  (m_X2_spendEvening N r12 x13 p1 p2).bind fun r14 =>
  if p3 = 0 then
   (gR N r14.2 t0 8 3).bind fun x16 =>
  (gR N r14.2 t0 8 3).bind fun x17 =>
  (gI N r14.2 x17 2 5).bind fun x18 =>
  (m_X2_codeOf N r14.2 x16 x18).bind fun r19 =>
  some (r19, r14.2)
  else
   some (r14.1, r14.2)
  else
   some ((-1000001), σ)
  else
   some ((-1000002), σ)
set_option maxHeartbeats 4000000 in
set_option maxRecDepth 100000 in
theorem ct_X8_drawn {l : Launch} {D : va_G} {cy : Nat → Nat} {N : Nat} {σ : Hp} {t0 : Nat} {p1 : Int32} {p2 : Int32} {p3 : Int32} {r : Int32 × Hp} (h : m_X8_drawn N σ t0 p1 p2 p3 = some r) : Ct l D cy yX8_drawn cX8_drawn 5 (some .int) 5 [.ref t0, .int p1, .int p2, .int p3] N σ (fun v s' => v = (some (.int r.1)) ∧ s' = r.2) := by
  refine Ct.intro [some (.ref t0), some (.int p1), some (.int p2), some (.int p3), none] (by decide) rfl (Nat.le_of_ble_eq_true rfl) ?_
  intro κ ω e1 e2 e3 e4 C Z E
  subst e1; subst e2; subst e3; subst e4
  have C : Cx κ 5 5 cX8_drawn RX8 "drawn" := C
  have hE : ∀ x : Int32 × Hp, r = x → ((some (Value.int x.1)) = (some (Value.int r.1)) ∧ x.2 = r.2) := fun x hx => by subst hx; exact ⟨rfl, rfl⟩
  unfold m_X8_drawn at h
  obtain ⟨_, _, h⟩ := ob h
  refine x_aload_n C (i := 0) dX8_drawn_0 rfl rfl ?_
  obtain ⟨x1, ex1, h⟩ := ob h
  refine x_getR C fl_X8_25 dX8_drawn_1 ex1 ?_
  obtain ⟨r2, er2, h⟩ := ob h
  refine x_callVr C Z mv_X2_isNone lk_X8_156 (rv_h er2) (ct_X2_isNone er2) (by decide) rfl rfl (Nat.le_of_ble_eq_true rfl) dX8_drawn_4 ?_
  refine x_if_eq C (tgt := 13) dX8_drawn_7 (by decide) (fun c3 => ?_) (fun c3 => ?_)
  · have h := ifP h c3
    refine x_iload_n C (i := 1) dX8_drawn_13 rfl rfl ?_
    refine x_if_lt C (tgt := 43) dX8_drawn_14 (by decide) (fun c4 => ?_) (fun c4 => ?_)
    · have h := ifP h c4
      refine x_ldc C kc_X8_55 dX8_drawn_43 ?_
      exact x_iret C E dX8_drawn_45 (hE ((-1000001), σ) (Option.some.inj h).symm)
    · have h := ifN h c4
      refine x_iload_n C (i := 1) dX8_drawn_17 rfl rfl ?_
      refine x_bipush C (v := 60) dX8_drawn_18 (by decide) ?_
      refine x_icmp_gt C (tgt := 43) dX8_drawn_20 (by decide) (fun c5 => ?_) (fun c5 => ?_)
      · have h := ifP h c5
        refine x_ldc C kc_X8_55 dX8_drawn_43 ?_
        exact x_iret C E dX8_drawn_45 (hE ((-1000001), σ) (Option.some.inj h).symm)
      · have h := ifN h c5
        refine x_iload_n C (i := 2) dX8_drawn_23 rfl rfl ?_
        refine x_iconst C (v := 1) dX8_drawn_24 (by decide) ?_
        refine x_icmp_lt C (tgt := 43) dX8_drawn_25 (by decide) (fun c6 => ?_) (fun c6 => ?_)
        · have h := ifP h c6
          refine x_ldc C kc_X8_55 dX8_drawn_43 ?_
          exact x_iret C E dX8_drawn_45 (hE ((-1000001), σ) (Option.some.inj h).symm)
        · have h := ifN h c6
          refine x_iload_n C (i := 2) dX8_drawn_28 rfl rfl ?_
          refine x_ldc C kc_X8_248 dX8_drawn_29 ?_
          refine x_icmp_gt C (tgt := 43) dX8_drawn_31 (by decide) (fun c7 => ?_) (fun c7 => ?_)
          · have h := ifP h c7
            refine x_ldc C kc_X8_55 dX8_drawn_43 ?_
            exact x_iret C E dX8_drawn_45 (hE ((-1000001), σ) (Option.some.inj h).symm)
          · have h := ifN h c7
            refine x_iload_n C (i := 3) dX8_drawn_34 rfl rfl ?_
            refine x_if_lt C (tgt := 43) dX8_drawn_35 (by decide) (fun c8 => ?_) (fun c8 => ?_)
            · have h := ifP h c8
              refine x_ldc C kc_X8_55 dX8_drawn_43 ?_
              exact x_iret C E dX8_drawn_45 (hE ((-1000001), σ) (Option.some.inj h).symm)
            · have h := ifN h c8
              refine x_iload_n C (i := 3) dX8_drawn_38 rfl rfl ?_
              refine x_iconst C (v := 1) dX8_drawn_39 (by decide) ?_
              refine x_icmp_le C (tgt := 46) dX8_drawn_40 (by decide) (fun c9 => ?_) (fun c9 => ?_)
              · have h := ifP h c9
                refine x_aload_n C (i := 0) dX8_drawn_46 rfl rfl ?_
                obtain ⟨x10, ex10, h⟩ := ob h
                refine x_getR C fl_X8_29 dX8_drawn_47 ex10 ?_
                refine x_aload_n C (i := 0) dX8_drawn_50 rfl rfl ?_
                obtain ⟨x11, ex11, h⟩ := ob h
                refine x_getR C fl_X8_25 dX8_drawn_51 ex11 ?_
                obtain ⟨r12, er12, h⟩ := ob h
                refine x_callVn C Z mv_X2_take lk_X8_118 (rv_h er12) (ct_X2_take er12) (by decide) rfl rfl (Nat.le_of_ble_eq_true rfl) dX8_drawn_54 ?_
                refine x_aload_n C (i := 0) dX8_drawn_57 rfl rfl ?_
                obtain ⟨x13, ex13, h⟩ := ob h
                refine x_getR C fl_X8_29 dX8_drawn_58 ex13 ?_
                refine x_iload_n C (i := 1) dX8_drawn_61 rfl rfl ?_
                refine x_iload_n C (i := 2) dX8_drawn_62 rfl rfl ?_
                obtain ⟨r14, er14, h⟩ := ob h
                refine x_callVr C Z mv_X2_spendEvening lk_X8_249 (rv_h er14) (ct_X2_spendEvening er14) (by decide) rfl rfl (Nat.le_of_ble_eq_true rfl) dX8_drawn_63 ?_
                refine x_istore C (i := 4) (lo' := [some (.ref t0), some (.int p1), some (.int p2), some (.int p3), some (.int r14.1)]) dX8_drawn_66 (by decide) rfl rfl ?_
                refine x_iload_n C (i := 3) dX8_drawn_68 rfl rfl ?_
                refine x_if_ne C (tgt := 89) dX8_drawn_69 (by decide) (fun c15 => ?_) (fun c15 => ?_)
                · have h := ifN h c15
                  refine x_iload C (i := 4) dX8_drawn_89 rfl ?_
                  exact x_iret C E dX8_drawn_91 (hE (r14.1, r14.2) (Option.some.inj h).symm)
                · have h := ifP h c15
                  refine x_aload_n C (i := 0) dX8_drawn_72 rfl rfl ?_
                  obtain ⟨x16, ex16, h⟩ := ob h
                  refine x_getR C fl_X8_29 dX8_drawn_73 ex16 ?_
                  refine x_aload_n C (i := 0) dX8_drawn_76 rfl rfl ?_
                  obtain ⟨x17, ex17, h⟩ := ob h
                  refine x_getR C fl_X8_29 dX8_drawn_77 ex17 ?_
                  obtain ⟨x18, ex18, h⟩ := ob h
                  refine x_getI C fl_X8_252 dX8_drawn_80 ex18 ?_
                  obtain ⟨r19, er19, h⟩ := ob h
                  refine x_callVr C Z mv_X2_codeOf lk_X8_205 (rv_h er19) (ct_X2_codeOf er19) (by decide) rfl rfl (Nat.le_of_ble_eq_true rfl) dX8_drawn_83 ?_
                  refine x_goto C (tgt := 91) dX8_drawn_86 (by decide) ?_
                  exact x_iret C E dX8_drawn_91 (hE (r19, r14.2) (Option.some.inj h).symm)
              · have h := ifN h c9
                refine x_ldc C kc_X8_55 dX8_drawn_43 ?_
                exact x_iret C E dX8_drawn_45 (hE ((-1000001), σ) (Option.some.inj h).symm)
  · have h := ifN h c3
    refine x_ldc C kc_X8_133 dX8_drawn_10 ?_
    exact x_iret C E dX8_drawn_12 (hE ((-1000002), σ) (Option.some.inj h).symm)
theorem dX8_image_0 : decode cX8_image 0 = .ok (.iload_n 1, 1) := by decide +kernel
theorem dX8_image_1 : decode cX8_image 1 = .ok (.ifCond .lt 8, 3) := by decide +kernel
theorem dX8_image_4 : decode cX8_image 4 = .ok (.iload_n 1, 1) := by decide +kernel
theorem dX8_image_5 : decode cX8_image 5 = .ok (.iconst 2, 1) := by decide +kernel
theorem dX8_image_6 : decode cX8_image 6 = .ok (.if_icmp .lt 6, 3) := by decide +kernel
theorem dX8_image_9 : decode cX8_image 9 = .ok (.ldc 55, 2) := by decide +kernel
theorem dX8_image_11 : decode cX8_image 11 = .ok (.ireturn, 1) := by decide +kernel
theorem dX8_image_12 : decode cX8_image 12 = .ok (.aload_n 0, 1) := by decide +kernel
theorem dX8_image_13 : decode cX8_image 13 = .ok (.getfield 25, 3) := by decide +kernel
theorem dX8_image_16 : decode cX8_image 16 = .ok (.invokevirtual 156, 3) := by decide +kernel
theorem dX8_image_19 : decode cX8_image 19 = .ok (.ifCond .eq 6, 3) := by decide +kernel
theorem dX8_image_22 : decode cX8_image 22 = .ok (.ldc 133, 2) := by decide +kernel
theorem dX8_image_24 : decode cX8_image 24 = .ok (.ireturn, 1) := by decide +kernel
theorem dX8_image_25 : decode cX8_image 25 = .ok (.aload_n 0, 1) := by decide +kernel
theorem dX8_image_26 : decode cX8_image 26 = .ok (.getfield 39, 3) := by decide +kernel
theorem dX8_image_29 : decode cX8_image 29 = .ok (.iload_n 1, 1) := by decide +kernel
theorem dX8_image_30 : decode cX8_image 30 = .ok (.aaload, 1) := by decide +kernel
theorem dX8_image_31 : decode cX8_image 31 = .ok (.aload_n 0, 1) := by decide +kernel
theorem dX8_image_32 : decode cX8_image 32 = .ok (.getfield 25, 3) := by decide +kernel
theorem dX8_image_35 : decode cX8_image 35 = .ok (.invokevirtual 118, 3) := by decide +kernel
theorem dX8_image_38 : decode cX8_image 38 = .ok (.iconst 1, 1) := by decide +kernel
theorem dX8_image_39 : decode cX8_image 39 = .ok (.ireturn, 1) := by decide +kernel
def m_X8_image (N : Nat) (σ : Hp) (t0 : Nat) (p1 : Int32) : Option (Int32 × Hp) :=
  (rv N σ t0 8).bind fun _ =>
  if p1 < 0 then
   some ((-1000001), σ)
  else
   if p1 < 2 then
   (gR N σ t0 8 2).bind fun x3 =>
  (m_X2_isNone N σ x3).bind fun r4 =>
  if r4 = 0 then
   (gR N σ t0 8 5).bind fun x6 =>
  (aR 4 N σ x6 p1).bind fun x7 =>
  (gR N σ t0 8 2).bind fun x8 =>
  (m_X2_take N σ x7 x8).bind fun r9 =>
  some (1, r9)
  else
   some ((-1000002), σ)
  else
   some ((-1000001), σ)
set_option maxHeartbeats 4000000 in
set_option maxRecDepth 100000 in
theorem ct_X8_image {l : Launch} {D : va_G} {cy : Nat → Nat} {N : Nat} {σ : Hp} {t0 : Nat} {p1 : Int32} {r : Int32 × Hp} (h : m_X8_image N σ t0 p1 = some r) : Ct l D cy yX8_image cX8_image 2 (some .int) 1 [.ref t0, .int p1] N σ (fun v s' => v = (some (.int r.1)) ∧ s' = r.2) := by
  refine Ct.intro [some (.ref t0), some (.int p1)] (by decide) rfl (Nat.le_of_ble_eq_true rfl) ?_
  intro κ ω e1 e2 e3 e4 C Z E
  subst e1; subst e2; subst e3; subst e4
  have C : Cx κ 2 1 cX8_image RX8 "image" := C
  have hE : ∀ x : Int32 × Hp, r = x → ((some (Value.int x.1)) = (some (Value.int r.1)) ∧ x.2 = r.2) := fun x hx => by subst hx; exact ⟨rfl, rfl⟩
  unfold m_X8_image at h
  obtain ⟨_, _, h⟩ := ob h
  refine x_iload_n C (i := 1) dX8_image_0 rfl rfl ?_
  refine x_if_lt C (tgt := 9) dX8_image_1 (by decide) (fun c1 => ?_) (fun c1 => ?_)
  · have h := ifP h c1
    refine x_ldc C kc_X8_55 dX8_image_9 ?_
    exact x_iret C E dX8_image_11 (hE ((-1000001), σ) (Option.some.inj h).symm)
  · have h := ifN h c1
    refine x_iload_n C (i := 1) dX8_image_4 rfl rfl ?_
    refine x_iconst C (v := 2) dX8_image_5 (by decide) ?_
    refine x_icmp_lt C (tgt := 12) dX8_image_6 (by decide) (fun c2 => ?_) (fun c2 => ?_)
    · have h := ifP h c2
      refine x_aload_n C (i := 0) dX8_image_12 rfl rfl ?_
      obtain ⟨x3, ex3, h⟩ := ob h
      refine x_getR C fl_X8_25 dX8_image_13 ex3 ?_
      obtain ⟨r4, er4, h⟩ := ob h
      refine x_callVr C Z mv_X2_isNone lk_X8_156 (rv_h er4) (ct_X2_isNone er4) (by decide) rfl rfl (Nat.le_of_ble_eq_true rfl) dX8_image_16 ?_
      refine x_if_eq C (tgt := 25) dX8_image_19 (by decide) (fun c5 => ?_) (fun c5 => ?_)
      · have h := ifP h c5
        refine x_aload_n C (i := 0) dX8_image_25 rfl rfl ?_
        obtain ⟨x6, ex6, h⟩ := ob h
        refine x_getR C fl_X8_39 dX8_image_26 ex6 ?_
        refine x_iload_n C (i := 1) dX8_image_29 rfl rfl ?_
        obtain ⟨x7, ex7, h⟩ := ob h
        refine x_aald4 C dX8_image_30 ex7 ?_
        refine x_aload_n C (i := 0) dX8_image_31 rfl rfl ?_
        obtain ⟨x8, ex8, h⟩ := ob h
        refine x_getR C fl_X8_25 dX8_image_32 ex8 ?_
        obtain ⟨r9, er9, h⟩ := ob h
        refine x_callVn C Z mv_X2_take lk_X8_118 (rv_h er9) (ct_X2_take er9) (by decide) rfl rfl (Nat.le_of_ble_eq_true rfl) dX8_image_35 ?_
        refine x_iconst C (v := 1) dX8_image_38 (by decide) ?_
        exact x_iret C E dX8_image_39 (hE (1, r9) (Option.some.inj h).symm)
      · have h := ifN h c5
        refine x_ldc C kc_X8_133 dX8_image_22 ?_
        exact x_iret C E dX8_image_24 (hE ((-1000002), σ) (Option.some.inj h).symm)
    · have h := ifN h c2
      refine x_ldc C kc_X8_55 dX8_image_9 ?_
      exact x_iret C E dX8_image_11 (hE ((-1000001), σ) (Option.some.inj h).symm)
theorem dX8_restore_0 : decode cX8_restore 0 = .ok (.iload_n 1, 1) := by decide +kernel
theorem dX8_restore_1 : decode cX8_restore 1 = .ok (.ifCond .lt 8, 3) := by decide +kernel
theorem dX8_restore_4 : decode cX8_restore 4 = .ok (.iload_n 1, 1) := by decide +kernel
theorem dX8_restore_5 : decode cX8_restore 5 = .ok (.iconst 2, 1) := by decide +kernel
theorem dX8_restore_6 : decode cX8_restore 6 = .ok (.if_icmp .lt 6, 3) := by decide +kernel
theorem dX8_restore_9 : decode cX8_restore 9 = .ok (.ldc 55, 2) := by decide +kernel
theorem dX8_restore_11 : decode cX8_restore 11 = .ok (.ireturn, 1) := by decide +kernel
theorem dX8_restore_12 : decode cX8_restore 12 = .ok (.aload_n 0, 1) := by decide +kernel
theorem dX8_restore_13 : decode cX8_restore 13 = .ok (.getfield 39, 3) := by decide +kernel
theorem dX8_restore_16 : decode cX8_restore 16 = .ok (.iload_n 1, 1) := by decide +kernel
theorem dX8_restore_17 : decode cX8_restore 17 = .ok (.aaload, 1) := by decide +kernel
theorem dX8_restore_18 : decode cX8_restore 18 = .ok (.invokevirtual 156, 3) := by decide +kernel
theorem dX8_restore_21 : decode cX8_restore 21 = .ok (.ifCond .eq 6, 3) := by decide +kernel
theorem dX8_restore_24 : decode cX8_restore 24 = .ok (.ldc 133, 2) := by decide +kernel
theorem dX8_restore_26 : decode cX8_restore 26 = .ok (.ireturn, 1) := by decide +kernel
theorem dX8_restore_27 : decode cX8_restore 27 = .ok (.aload_n 0, 1) := by decide +kernel
theorem dX8_restore_28 : decode cX8_restore 28 = .ok (.getfield 25, 3) := by decide +kernel
theorem dX8_restore_31 : decode cX8_restore 31 = .ok (.aload_n 0, 1) := by decide +kernel
theorem dX8_restore_32 : decode cX8_restore 32 = .ok (.getfield 39, 3) := by decide +kernel
theorem dX8_restore_35 : decode cX8_restore 35 = .ok (.iload_n 1, 1) := by decide +kernel
theorem dX8_restore_36 : decode cX8_restore 36 = .ok (.aaload, 1) := by decide +kernel
theorem dX8_restore_37 : decode cX8_restore 37 = .ok (.invokevirtual 118, 3) := by decide +kernel
theorem dX8_restore_40 : decode cX8_restore 40 = .ok (.aload_n 0, 1) := by decide +kernel
theorem dX8_restore_41 : decode cX8_restore 41 = .ok (.getfield 35, 3) := by decide +kernel
theorem dX8_restore_44 : decode cX8_restore 44 = .ok (.invokevirtual 121, 3) := by decide +kernel
theorem dX8_restore_47 : decode cX8_restore 47 = .ok (.iconst 1, 1) := by decide +kernel
theorem dX8_restore_48 : decode cX8_restore 48 = .ok (.ireturn, 1) := by decide +kernel
def m_X8_restore (N : Nat) (σ : Hp) (t0 : Nat) (p1 : Int32) : Option (Int32 × Hp) :=
  (rv N σ t0 8).bind fun _ =>
  if p1 < 0 then
   some ((-1000001), σ)
  else
   if p1 < 2 then
   (gR N σ t0 8 5).bind fun x3 =>
  (aR 4 N σ x3 p1).bind fun x4 =>
  (m_X2_isNone N σ x4).bind fun r5 =>
  if r5 = 0 then
   (gR N σ t0 8 2).bind fun x7 =>
  (gR N σ t0 8 5).bind fun x8 =>
  (aR 4 N σ x8 p1).bind fun x9 =>
  (m_X2_take N σ x7 x9).bind fun r10 =>
  (gR N r10 t0 8 4).bind fun x11 =>
  (m_X0_forget N r10 x11).bind fun r12 =>
  some (1, r12)
  else
   some ((-1000002), σ)
  else
   some ((-1000001), σ)
set_option maxHeartbeats 4000000 in
set_option maxRecDepth 100000 in
theorem ct_X8_restore {l : Launch} {D : va_G} {cy : Nat → Nat} {N : Nat} {σ : Hp} {t0 : Nat} {p1 : Int32} {r : Int32 × Hp} (h : m_X8_restore N σ t0 p1 = some r) : Ct l D cy yX8_restore cX8_restore 2 (some .int) 1 [.ref t0, .int p1] N σ (fun v s' => v = (some (.int r.1)) ∧ s' = r.2) := by
  refine Ct.intro [some (.ref t0), some (.int p1)] (by decide) rfl (Nat.le_of_ble_eq_true rfl) ?_
  intro κ ω e1 e2 e3 e4 C Z E
  subst e1; subst e2; subst e3; subst e4
  have C : Cx κ 2 1 cX8_restore RX8 "restore" := C
  have hE : ∀ x : Int32 × Hp, r = x → ((some (Value.int x.1)) = (some (Value.int r.1)) ∧ x.2 = r.2) := fun x hx => by subst hx; exact ⟨rfl, rfl⟩
  unfold m_X8_restore at h
  obtain ⟨_, _, h⟩ := ob h
  refine x_iload_n C (i := 1) dX8_restore_0 rfl rfl ?_
  refine x_if_lt C (tgt := 9) dX8_restore_1 (by decide) (fun c1 => ?_) (fun c1 => ?_)
  · have h := ifP h c1
    refine x_ldc C kc_X8_55 dX8_restore_9 ?_
    exact x_iret C E dX8_restore_11 (hE ((-1000001), σ) (Option.some.inj h).symm)
  · have h := ifN h c1
    refine x_iload_n C (i := 1) dX8_restore_4 rfl rfl ?_
    refine x_iconst C (v := 2) dX8_restore_5 (by decide) ?_
    refine x_icmp_lt C (tgt := 12) dX8_restore_6 (by decide) (fun c2 => ?_) (fun c2 => ?_)
    · have h := ifP h c2
      refine x_aload_n C (i := 0) dX8_restore_12 rfl rfl ?_
      obtain ⟨x3, ex3, h⟩ := ob h
      refine x_getR C fl_X8_39 dX8_restore_13 ex3 ?_
      refine x_iload_n C (i := 1) dX8_restore_16 rfl rfl ?_
      obtain ⟨x4, ex4, h⟩ := ob h
      refine x_aald4 C dX8_restore_17 ex4 ?_
      obtain ⟨r5, er5, h⟩ := ob h
      refine x_callVr C Z mv_X2_isNone lk_X8_156 (rv_h er5) (ct_X2_isNone er5) (by decide) rfl rfl (Nat.le_of_ble_eq_true rfl) dX8_restore_18 ?_
      refine x_if_eq C (tgt := 27) dX8_restore_21 (by decide) (fun c6 => ?_) (fun c6 => ?_)
      · have h := ifP h c6
        refine x_aload_n C (i := 0) dX8_restore_27 rfl rfl ?_
        obtain ⟨x7, ex7, h⟩ := ob h
        refine x_getR C fl_X8_25 dX8_restore_28 ex7 ?_
        refine x_aload_n C (i := 0) dX8_restore_31 rfl rfl ?_
        obtain ⟨x8, ex8, h⟩ := ob h
        refine x_getR C fl_X8_39 dX8_restore_32 ex8 ?_
        refine x_iload_n C (i := 1) dX8_restore_35 rfl rfl ?_
        obtain ⟨x9, ex9, h⟩ := ob h
        refine x_aald4 C dX8_restore_36 ex9 ?_
        obtain ⟨r10, er10, h⟩ := ob h
        refine x_callVn C Z mv_X2_take lk_X8_118 (rv_h er10) (ct_X2_take er10) (by decide) rfl rfl (Nat.le_of_ble_eq_true rfl) dX8_restore_37 ?_
        refine x_aload_n C (i := 0) dX8_restore_40 rfl rfl ?_
        obtain ⟨x11, ex11, h⟩ := ob h
        refine x_getR C fl_X8_35 dX8_restore_41 ex11 ?_
        obtain ⟨r12, er12, h⟩ := ob h
        refine x_callVn C Z mv_X0_forget lk_X8_121 (rv_h er12) (ct_X0_forget er12) (by decide) rfl rfl (Nat.le_of_ble_eq_true rfl) dX8_restore_44 ?_
        refine x_iconst C (v := 1) dX8_restore_47 (by decide) ?_
        exact x_iret C E dX8_restore_48 (hE (1, r12) (Option.some.inj h).symm)
      · have h := ifN h c6
        refine x_ldc C kc_X8_133 dX8_restore_24 ?_
        exact x_iret C E dX8_restore_26 (hE ((-1000002), σ) (Option.some.inj h).symm)
    · have h := ifN h c2
      refine x_ldc C kc_X8_55 dX8_restore_9 ?_
      exact x_iret C E dX8_restore_11 (hE ((-1000001), σ) (Option.some.inj h).symm)
theorem dX8_kind_0 : decode cX8_kind 0 = .ok (.aload_n 0, 1) := by decide +kernel
theorem dX8_kind_1 : decode cX8_kind 1 = .ok (.getfield 25, 3) := by decide +kernel
theorem dX8_kind_4 : decode cX8_kind 4 = .ok (.iload_n 1, 1) := by decide +kernel
theorem dX8_kind_5 : decode cX8_kind 5 = .ok (.invokevirtual 147, 3) := by decide +kernel
theorem dX8_kind_8 : decode cX8_kind 8 = .ok (.ifCond .eq 14, 3) := by decide +kernel
theorem dX8_kind_11 : decode cX8_kind 11 = .ok (.aload_n 0, 1) := by decide +kernel
theorem dX8_kind_12 : decode cX8_kind 12 = .ok (.getfield 25, 3) := by decide +kernel
theorem dX8_kind_15 : decode cX8_kind 15 = .ok (.iload_n 1, 1) := by decide +kernel
theorem dX8_kind_16 : decode cX8_kind 16 = .ok (.invokevirtual 255, 3) := by decide +kernel
theorem dX8_kind_19 : decode cX8_kind 19 = .ok (.goto 5, 3) := by decide +kernel
theorem dX8_kind_22 : decode cX8_kind 22 = .ok (.ldc 55, 2) := by decide +kernel
theorem dX8_kind_24 : decode cX8_kind 24 = .ok (.ireturn, 1) := by decide +kernel
def m_X8_kind (N : Nat) (σ : Hp) (t0 : Nat) (p1 : Int32) : Option (Int32) :=
  (rv N σ t0 8).bind fun _ =>
  (gR N σ t0 8 2).bind fun x1 =>
  (m_X2_hasDisc N σ x1 p1).bind fun r2 =>
  if r2 = 0 then
   some (-1000001)
  else
   (gR N σ t0 8 2).bind fun x4 =>
  (m_X2_kindOf N σ x4 p1).bind fun r5 =>
  some r5
set_option maxHeartbeats 4000000 in
set_option maxRecDepth 100000 in
theorem ct_X8_kind {l : Launch} {D : va_G} {cy : Nat → Nat} {N : Nat} {σ : Hp} {t0 : Nat} {p1 : Int32} {r : Int32} (h : m_X8_kind N σ t0 p1 = some r) : Ct l D cy yX8_kind cX8_kind 2 (some .int) 1 [.ref t0, .int p1] N σ (fun v s' => v = (some (.int r)) ∧ s' = σ) := by
  refine Ct.intro [some (.ref t0), some (.int p1)] (by decide) rfl (Nat.le_of_ble_eq_true rfl) ?_
  intro κ ω e1 e2 e3 e4 C Z E
  subst e1; subst e2; subst e3; subst e4
  have C : Cx κ 2 1 cX8_kind RX8 "kind" := C
  have hE : ∀ x : Int32, r = x → ((some (Value.int x)) = (some (Value.int r)) ∧ σ = σ) := fun x hx => by subst hx; exact ⟨rfl, rfl⟩
  unfold m_X8_kind at h
  obtain ⟨_, _, h⟩ := ob h
  refine x_aload_n C (i := 0) dX8_kind_0 rfl rfl ?_
  obtain ⟨x1, ex1, h⟩ := ob h
  refine x_getR C fl_X8_25 dX8_kind_1 ex1 ?_
  refine x_iload_n C (i := 1) dX8_kind_4 rfl rfl ?_
  obtain ⟨r2, er2, h⟩ := ob h
  refine x_callVr C Z mv_X2_hasDisc lk_X8_147 (rv_h er2) (ct_X2_hasDisc er2) (by decide) rfl rfl (Nat.le_of_ble_eq_true rfl) dX8_kind_5 ?_
  refine x_if_eq C (tgt := 22) dX8_kind_8 (by decide) (fun c3 => ?_) (fun c3 => ?_)
  · have h := ifP h c3
    refine x_ldc C kc_X8_55 dX8_kind_22 ?_
    exact x_iret C E dX8_kind_24 (hE (-1000001) (Option.some.inj h).symm)
  · have h := ifN h c3
    refine x_aload_n C (i := 0) dX8_kind_11 rfl rfl ?_
    obtain ⟨x4, ex4, h⟩ := ob h
    refine x_getR C fl_X8_25 dX8_kind_12 ex4 ?_
    refine x_iload_n C (i := 1) dX8_kind_15 rfl rfl ?_
    obtain ⟨r5, er5, h⟩ := ob h
    refine x_callVr C Z mv_X2_kindOf lk_X8_255 (rv_h er5) (ct_X2_kindOf er5) (by decide) rfl rfl (Nat.le_of_ble_eq_true rfl) dX8_kind_16 ?_
    refine x_goto C (tgt := 24) dX8_kind_19 (by decide) ?_
    exact x_iret C E dX8_kind_24 (hE r5 (Option.some.inj h).symm)
theorem dX8_as_0 : decode cX8_as 0 = .ok (.aload_n 0, 1) := by decide +kernel
theorem dX8_as_1 : decode cX8_as 1 = .ok (.getfield 25, 3) := by decide +kernel
theorem dX8_as_4 : decode cX8_as 4 = .ok (.iload_n 1, 1) := by decide +kernel
theorem dX8_as_5 : decode cX8_as 5 = .ok (.invokevirtual 147, 3) := by decide +kernel
theorem dX8_as_8 : decode cX8_as 8 = .ok (.ifCond .eq 12, 3) := by decide +kernel
theorem dX8_as_11 : decode cX8_as 11 = .ok (.iload_n 2, 1) := by decide +kernel
theorem dX8_as_12 : decode cX8_as 12 = .ok (.ifCond .lt 8, 3) := by decide +kernel
theorem dX8_as_15 : decode cX8_as 15 = .ok (.iload_n 2, 1) := by decide +kernel
theorem dX8_as_16 : decode cX8_as 16 = .ok (.iconst 5, 1) := by decide +kernel
theorem dX8_as_17 : decode cX8_as 17 = .ok (.if_icmp .le 6, 3) := by decide +kernel
theorem dX8_as_20 : decode cX8_as 20 = .ok (.ldc 55, 2) := by decide +kernel
theorem dX8_as_22 : decode cX8_as 22 = .ok (.ireturn, 1) := by decide +kernel
theorem dX8_as_23 : decode cX8_as 23 = .ok (.getstatic 258, 3) := by decide +kernel
theorem dX8_as_26 : decode cX8_as 26 = .ok (.aload_n 0, 1) := by decide +kernel
theorem dX8_as_27 : decode cX8_as 27 = .ok (.getfield 25, 3) := by decide +kernel
theorem dX8_as_30 : decode cX8_as 30 = .ok (.iload_n 1, 1) := by decide +kernel
theorem dX8_as_31 : decode cX8_as 31 = .ok (.invokevirtual 255, 3) := by decide +kernel
theorem dX8_as_34 : decode cX8_as 34 = .ok (.iaload, 1) := by decide +kernel
theorem dX8_as_35 : decode cX8_as 35 = .ok (.iload_n 2, 1) := by decide +kernel
theorem dX8_as_36 : decode cX8_as 36 = .ok (.ishr, 1) := by decide +kernel
theorem dX8_as_37 : decode cX8_as 37 = .ok (.iconst 1, 1) := by decide +kernel
theorem dX8_as_38 : decode cX8_as 38 = .ok (.iand, 1) := by decide +kernel
theorem dX8_as_39 : decode cX8_as 39 = .ok (.ifCond .ne 11, 3) := by decide +kernel
theorem dX8_as_42 : decode cX8_as 42 = .ok (.aload_n 0, 1) := by decide +kernel
theorem dX8_as_43 : decode cX8_as 43 = .ok (.iconst 3, 1) := by decide +kernel
theorem dX8_as_44 : decode cX8_as 44 = .ok (.invokevirtual 56, 3) := by decide +kernel
theorem dX8_as_47 : decode cX8_as 47 = .ok (.goto 8, 3) := by decide +kernel
theorem dX8_as_50 : decode cX8_as 50 = .ok (.aload_n 0, 1) := by decide +kernel
theorem dX8_as_51 : decode cX8_as 51 = .ok (.iload_n 1, 1) := by decide +kernel
theorem dX8_as_52 : decode cX8_as 52 = .ok (.invokevirtual 64, 3) := by decide +kernel
theorem dX8_as_55 : decode cX8_as 55 = .ok (.ireturn, 1) := by decide +kernel
def m_X8_as (N : Nat) (σ : Hp) (t0 : Nat) (p1 : Int32) (p2 : Int32) : Option (Int32 × Hp) :=
  (rv N σ t0 8).bind fun _ =>
  (gR N σ t0 8 2).bind fun x1 =>
  (m_X2_hasDisc N σ x1 p1).bind fun r2 =>
  if r2 = 0 then
   some ((-1000001), σ)
  else
   if p2 < 0 then
   some ((-1000001), σ)
  else
   if p2 ≤ 5 then
   (gR N σ t0 8 2).bind fun x6 =>
  (m_X2_kindOf N σ x6 p1).bind fun r7 =>
  (sA 0 r7).bind fun x8 =>
  if ((x8 >>> (p2 &&& 31)) &&& 1) = 0 then
   (m_X8_found N σ t0 3).bind fun r11 =>
  some (r11.1, r11.2)
  else
   (m_X8_well N σ t0 p1).bind fun r10 =>
  some (r10.1, r10.2)
  else
   some ((-1000001), σ)
set_option maxHeartbeats 4000000 in
set_option maxRecDepth 100000 in
theorem ct_X8_as {l : Launch} {D : va_G} {cy : Nat → Nat} {N : Nat} {σ : Hp} {t0 : Nat} {p1 : Int32} {p2 : Int32} {r : Int32 × Hp} (h : m_X8_as N σ t0 p1 p2 = some r) : Ct l D cy yX8_as cX8_as 3 (some .int) 1 [.ref t0, .int p1, .int p2] N σ (fun v s' => v = (some (.int r.1)) ∧ s' = r.2) := by
  refine Ct.intro [some (.ref t0), some (.int p1), some (.int p2)] (by decide) rfl (Nat.le_of_ble_eq_true rfl) ?_
  intro κ ω e1 e2 e3 e4 C Z E
  subst e1; subst e2; subst e3; subst e4
  have C : Cx κ 3 1 cX8_as RX8 "as" := C
  have hE : ∀ x : Int32 × Hp, r = x → ((some (Value.int x.1)) = (some (Value.int r.1)) ∧ x.2 = r.2) := fun x hx => by subst hx; exact ⟨rfl, rfl⟩
  unfold m_X8_as at h
  obtain ⟨_, _, h⟩ := ob h
  refine x_aload_n C (i := 0) dX8_as_0 rfl rfl ?_
  obtain ⟨x1, ex1, h⟩ := ob h
  refine x_getR C fl_X8_25 dX8_as_1 ex1 ?_
  refine x_iload_n C (i := 1) dX8_as_4 rfl rfl ?_
  obtain ⟨r2, er2, h⟩ := ob h
  refine x_callVr C Z mv_X2_hasDisc lk_X8_147 (rv_h er2) (ct_X2_hasDisc er2) (by decide) rfl rfl (Nat.le_of_ble_eq_true rfl) dX8_as_5 ?_
  refine x_if_eq C (tgt := 20) dX8_as_8 (by decide) (fun c3 => ?_) (fun c3 => ?_)
  · have h := ifP h c3
    refine x_ldc C kc_X8_55 dX8_as_20 ?_
    exact x_iret C E dX8_as_22 (hE ((-1000001), σ) (Option.some.inj h).symm)
  · have h := ifN h c3
    refine x_iload_n C (i := 2) dX8_as_11 rfl rfl ?_
    refine x_if_lt C (tgt := 20) dX8_as_12 (by decide) (fun c4 => ?_) (fun c4 => ?_)
    · have h := ifP h c4
      refine x_ldc C kc_X8_55 dX8_as_20 ?_
      exact x_iret C E dX8_as_22 (hE ((-1000001), σ) (Option.some.inj h).symm)
    · have h := ifN h c4
      refine x_iload_n C (i := 2) dX8_as_15 rfl rfl ?_
      refine x_iconst C (v := 5) dX8_as_16 (by decide) ?_
      refine x_icmp_le C (tgt := 23) dX8_as_17 (by decide) (fun c5 => ?_) (fun c5 => ?_)
      · have h := ifP h c5
        refine x_gets C Z (k := 0) (by decide) gs_X8_258 dX8_as_23 ?_
        refine x_aload_n C (i := 0) dX8_as_26 rfl rfl ?_
        obtain ⟨x6, ex6, h⟩ := ob h
        refine x_getR C fl_X8_25 dX8_as_27 ex6 ?_
        refine x_iload_n C (i := 1) dX8_as_30 rfl rfl ?_
        obtain ⟨r7, er7, h⟩ := ob h
        refine x_callVr C Z mv_X2_kindOf lk_X8_255 (rv_h er7) (ct_X2_kindOf er7) (by decide) rfl rfl (Nat.le_of_ble_eq_true rfl) dX8_as_31 ?_
        obtain ⟨x8, ex8, h⟩ := ob h
        refine x_sald C Z (k := 0) (by decide) dX8_as_34 ex8 ?_
        refine x_iload_n C (i := 2) dX8_as_35 rfl rfl ?_
        refine x_ishr C dX8_as_36 ?_
        refine x_iconst C (v := 1) dX8_as_37 (by decide) ?_
        refine x_iand C dX8_as_38 ?_
        refine x_if_ne C (tgt := 50) dX8_as_39 (by decide) (fun c9 => ?_) (fun c9 => ?_)
        · have h := ifN h c9
          refine x_aload_n C (i := 0) dX8_as_50 rfl rfl ?_
          refine x_iload_n C (i := 1) dX8_as_51 rfl rfl ?_
          obtain ⟨r10, er10, h⟩ := ob h
          refine x_callVr C Z mv_X8_well lk_X8_64 (rv_h er10) (ct_X8_well er10) (by decide) rfl rfl (Nat.le_of_ble_eq_true rfl) dX8_as_52 ?_
          exact x_iret C E dX8_as_55 (hE (r10.1, r10.2) (Option.some.inj h).symm)
        · have h := ifP h c9
          refine x_aload_n C (i := 0) dX8_as_42 rfl rfl ?_
          refine x_iconst C (v := 3) dX8_as_43 (by decide) ?_
          obtain ⟨r11, er11, h⟩ := ob h
          refine x_callVr C Z mv_X8_found lk_X8_56 (rv_h er11) (ct_X8_found er11) (by decide) rfl rfl (Nat.le_of_ble_eq_true rfl) dX8_as_44 ?_
          refine x_goto C (tgt := 55) dX8_as_47 (by decide) ?_
          exact x_iret C E dX8_as_55 (hE (r11.1, r11.2) (Option.some.inj h).symm)
      · have h := ifN h c5
        refine x_ldc C kc_X8_55 dX8_as_20 ?_
        exact x_iret C E dX8_as_22 (hE ((-1000001), σ) (Option.some.inj h).symm)
theorem dX8_ask_0 : decode cX8_ask 0 = .ok (.aload_n 0, 1) := by decide +kernel
theorem dX8_ask_1 : decode cX8_ask 1 = .ok (.getfield 25, 3) := by decide +kernel
theorem dX8_ask_4 : decode cX8_ask 4 = .ok (.iload_n 1, 1) := by decide +kernel
theorem dX8_ask_5 : decode cX8_ask 5 = .ok (.invokevirtual 147, 3) := by decide +kernel
theorem dX8_ask_8 : decode cX8_ask 8 = .ok (.ifCond .eq 12, 3) := by decide +kernel
theorem dX8_ask_11 : decode cX8_ask 11 = .ok (.iload_n 2, 1) := by decide +kernel
theorem dX8_ask_12 : decode cX8_ask 12 = .ok (.ifCond .lt 8, 3) := by decide +kernel
theorem dX8_ask_15 : decode cX8_ask 15 = .ok (.iload_n 2, 1) := by decide +kernel
theorem dX8_ask_16 : decode cX8_ask 16 = .ok (.iconst 1, 1) := by decide +kernel
theorem dX8_ask_17 : decode cX8_ask 17 = .ok (.if_icmp .le 6, 3) := by decide +kernel
theorem dX8_ask_20 : decode cX8_ask 20 = .ok (.ldc 55, 2) := by decide +kernel
theorem dX8_ask_22 : decode cX8_ask 22 = .ok (.ireturn, 1) := by decide +kernel
theorem dX8_ask_23 : decode cX8_ask 23 = .ok (.aload_n 0, 1) := by decide +kernel
theorem dX8_ask_24 : decode cX8_ask 24 = .ok (.getfield 46, 3) := by decide +kernel
theorem dX8_ask_27 : decode cX8_ask 27 = .ok (.aload_n 0, 1) := by decide +kernel
theorem dX8_ask_28 : decode cX8_ask 28 = .ok (.getfield 25, 3) := by decide +kernel
theorem dX8_ask_31 : decode cX8_ask 31 = .ok (.iload_n 1, 1) := by decide +kernel
theorem dX8_ask_32 : decode cX8_ask 32 = .ok (.iload_n 2, 1) := by decide +kernel
theorem dX8_ask_33 : decode cX8_ask 33 = .ok (.invokevirtual 261, 3) := by decide +kernel
theorem dX8_ask_36 : decode cX8_ask 36 = .ok (.ireturn, 1) := by decide +kernel
def m_X8_ask (N : Nat) (σ : Hp) (t0 : Nat) (p1 : Int32) (p2 : Int32) : Option (Int32 × Hp) :=
  (rv N σ t0 8).bind fun _ =>
  (gR N σ t0 8 2).bind fun x1 =>
  (m_X2_hasDisc N σ x1 p1).bind fun r2 =>
  if r2 = 0 then
   some ((-1000001), σ)
  else
   if p2 < 0 then
   some ((-1000001), σ)
  else
   if p2 ≤ 1 then
   (gR N σ t0 8 6).bind fun x6 =>
  (gR N σ t0 8 2).bind fun x7 =>
  (m_X1_answer N σ x6 x7 p1 p2).bind fun r8 =>
  some (r8.1, r8.2)
  else
   some ((-1000001), σ)
set_option maxHeartbeats 4000000 in
set_option maxRecDepth 100000 in
theorem ct_X8_ask {l : Launch} {D : va_G} {cy : Nat → Nat} {N : Nat} {σ : Hp} {t0 : Nat} {p1 : Int32} {p2 : Int32} {r : Int32 × Hp} (h : m_X8_ask N σ t0 p1 p2 = some r) : Ct l D cy yX8_ask cX8_ask 3 (some .int) 15 [.ref t0, .int p1, .int p2] N σ (fun v s' => v = (some (.int r.1)) ∧ s' = r.2) := by
  refine Ct.intro [some (.ref t0), some (.int p1), some (.int p2)] (by decide) rfl (Nat.le_of_ble_eq_true rfl) ?_
  intro κ ω e1 e2 e3 e4 C Z E
  subst e1; subst e2; subst e3; subst e4
  have C : Cx κ 3 15 cX8_ask RX8 "ask" := C
  have hE : ∀ x : Int32 × Hp, r = x → ((some (Value.int x.1)) = (some (Value.int r.1)) ∧ x.2 = r.2) := fun x hx => by subst hx; exact ⟨rfl, rfl⟩
  unfold m_X8_ask at h
  obtain ⟨_, _, h⟩ := ob h
  refine x_aload_n C (i := 0) dX8_ask_0 rfl rfl ?_
  obtain ⟨x1, ex1, h⟩ := ob h
  refine x_getR C fl_X8_25 dX8_ask_1 ex1 ?_
  refine x_iload_n C (i := 1) dX8_ask_4 rfl rfl ?_
  obtain ⟨r2, er2, h⟩ := ob h
  refine x_callVr C Z mv_X2_hasDisc lk_X8_147 (rv_h er2) (ct_X2_hasDisc er2) (by decide) rfl rfl (Nat.le_of_ble_eq_true rfl) dX8_ask_5 ?_
  refine x_if_eq C (tgt := 20) dX8_ask_8 (by decide) (fun c3 => ?_) (fun c3 => ?_)
  · have h := ifP h c3
    refine x_ldc C kc_X8_55 dX8_ask_20 ?_
    exact x_iret C E dX8_ask_22 (hE ((-1000001), σ) (Option.some.inj h).symm)
  · have h := ifN h c3
    refine x_iload_n C (i := 2) dX8_ask_11 rfl rfl ?_
    refine x_if_lt C (tgt := 20) dX8_ask_12 (by decide) (fun c4 => ?_) (fun c4 => ?_)
    · have h := ifP h c4
      refine x_ldc C kc_X8_55 dX8_ask_20 ?_
      exact x_iret C E dX8_ask_22 (hE ((-1000001), σ) (Option.some.inj h).symm)
    · have h := ifN h c4
      refine x_iload_n C (i := 2) dX8_ask_15 rfl rfl ?_
      refine x_iconst C (v := 1) dX8_ask_16 (by decide) ?_
      refine x_icmp_le C (tgt := 23) dX8_ask_17 (by decide) (fun c5 => ?_) (fun c5 => ?_)
      · have h := ifP h c5
        refine x_aload_n C (i := 0) dX8_ask_23 rfl rfl ?_
        obtain ⟨x6, ex6, h⟩ := ob h
        refine x_getR C fl_X8_46 dX8_ask_24 ex6 ?_
        refine x_aload_n C (i := 0) dX8_ask_27 rfl rfl ?_
        obtain ⟨x7, ex7, h⟩ := ob h
        refine x_getR C fl_X8_25 dX8_ask_28 ex7 ?_
        refine x_iload_n C (i := 1) dX8_ask_31 rfl rfl ?_
        refine x_iload_n C (i := 2) dX8_ask_32 rfl rfl ?_
        obtain ⟨r8, er8, h⟩ := ob h
        refine x_callVr C Z mv_X1_answer lk_X8_261 (rv_h er8) (ct_X1_answer er8) (by decide) rfl rfl (Nat.le_of_ble_eq_true rfl) dX8_ask_33 ?_
        exact x_iret C E dX8_ask_36 (hE (r8.1, r8.2) (Option.some.inj h).symm)
      · have h := ifN h c5
        refine x_ldc C kc_X8_55 dX8_ask_20 ?_
        exact x_iret C E dX8_ask_22 (hE ((-1000001), σ) (Option.some.inj h).symm)
theorem dX8_trace_0 : decode cX8_trace 0 = .ok (.aload_n 0, 1) := by decide +kernel
theorem dX8_trace_1 : decode cX8_trace 1 = .ok (.getfield 46, 3) := by decide +kernel
theorem dX8_trace_4 : decode cX8_trace 4 = .ok (.iload_n 1, 1) := by decide +kernel
theorem dX8_trace_5 : decode cX8_trace 5 = .ok (.invokevirtual 265, 3) := by decide +kernel
theorem dX8_trace_8 : decode cX8_trace 8 = .ok (.ireturn, 1) := by decide +kernel
def m_X8_trace (N : Nat) (σ : Hp) (t0 : Nat) (p1 : Int32) : Option (Int32) :=
  (rv N σ t0 8).bind fun _ =>
  (gR N σ t0 8 6).bind fun x1 =>
  (m_X1_tracedAt N σ x1 p1).bind fun r2 =>
  some r2
set_option maxHeartbeats 4000000 in
set_option maxRecDepth 100000 in
theorem ct_X8_trace {l : Launch} {D : va_G} {cy : Nat → Nat} {N : Nat} {σ : Hp} {t0 : Nat} {p1 : Int32} {r : Int32} (h : m_X8_trace N σ t0 p1 = some r) : Ct l D cy yX8_trace cX8_trace 2 (some .int) 1 [.ref t0, .int p1] N σ (fun v s' => v = (some (.int r)) ∧ s' = σ) := by
  refine Ct.intro [some (.ref t0), some (.int p1)] (by decide) rfl (Nat.le_of_ble_eq_true rfl) ?_
  intro κ ω e1 e2 e3 e4 C Z E
  subst e1; subst e2; subst e3; subst e4
  have C : Cx κ 2 1 cX8_trace RX8 "trace" := C
  have hE : ∀ x : Int32, r = x → ((some (Value.int x)) = (some (Value.int r)) ∧ σ = σ) := fun x hx => by subst hx; exact ⟨rfl, rfl⟩
  unfold m_X8_trace at h
  obtain ⟨_, _, h⟩ := ob h
  refine x_aload_n C (i := 0) dX8_trace_0 rfl rfl ?_
  obtain ⟨x1, ex1, h⟩ := ob h
  refine x_getR C fl_X8_46 dX8_trace_1 ex1 ?_
  refine x_iload_n C (i := 1) dX8_trace_4 rfl rfl ?_
  obtain ⟨r2, er2, h⟩ := ob h
  refine x_callVr C Z mv_X1_tracedAt lk_X8_265 (rv_h er2) (ct_X1_tracedAt er2) (by decide) rfl rfl (Nat.le_of_ble_eq_true rfl) dX8_trace_5 ?_
  exact x_iret C E dX8_trace_8 (hE r2 (Option.some.inj h).symm)
theorem dX8_rowsThere_0 : decode cX8_rowsThere 0 = .ok (.iconst 0, 1) := by decide +kernel
theorem dX8_rowsThere_1 : decode cX8_rowsThere 1 = .ok (.istore_n 1, 1) := by decide +kernel
theorem dX8_rowsThere_2 : decode cX8_rowsThere 2 = .ok (.iconst 0, 1) := by decide +kernel
theorem dX8_rowsThere_3 : decode cX8_rowsThere 3 = .ok (.istore_n 2, 1) := by decide +kernel
theorem dX8_rowsThere_4 : decode cX8_rowsThere 4 = .ok (.iload_n 2, 1) := by decide +kernel
theorem dX8_rowsThere_5 : decode cX8_rowsThere 5 = .ok (.bipush 8, 2) := by decide +kernel
theorem dX8_rowsThere_7 : decode cX8_rowsThere 7 = .ok (.if_icmp .ge 24, 3) := by decide +kernel
theorem dX8_rowsThere_10 : decode cX8_rowsThere 10 = .ok (.aload_n 0, 1) := by decide +kernel
theorem dX8_rowsThere_11 : decode cX8_rowsThere 11 = .ok (.getfield 11, 3) := by decide +kernel
theorem dX8_rowsThere_14 : decode cX8_rowsThere 14 = .ok (.iload_n 2, 1) := by decide +kernel
theorem dX8_rowsThere_15 : decode cX8_rowsThere 15 = .ok (.aaload, 1) := by decide +kernel
theorem dX8_rowsThere_16 : decode cX8_rowsThere 16 = .ok (.invokevirtual 74, 3) := by decide +kernel
theorem dX8_rowsThere_19 : decode cX8_rowsThere 19 = .ok (.ifCond .ne 6, 3) := by decide +kernel
theorem dX8_rowsThere_22 : decode cX8_rowsThere 22 = .ok (.iinc 1 1, 3) := by decide +kernel
theorem dX8_rowsThere_25 : decode cX8_rowsThere 25 = .ok (.iinc 2 1, 3) := by decide +kernel
theorem dX8_rowsThere_28 : decode cX8_rowsThere 28 = .ok (.goto (-24), 3) := by decide +kernel
theorem dX8_rowsThere_31 : decode cX8_rowsThere 31 = .ok (.iload_n 1, 1) := by decide +kernel
theorem dX8_rowsThere_32 : decode cX8_rowsThere 32 = .ok (.ireturn, 1) := by decide +kernel
def L_X8_rowsThere_4 (N : Nat) (σ : Hp) (v0 : Nat) : Nat → Int32 → Int32 → Option (Int32)
  | 0, _, _ => none
  | n + 1, v1, v2 =>
  if 8 ≤ v2 then
   some v1
  else
   (gR N σ v0 8 0).bind fun x2 =>
  (aR 5 N σ x2 v2).bind fun x3 =>
  (m_X5_isMissing N σ x3).bind fun r4 =>
  if r4 = 0 then
   L_X8_rowsThere_4 N σ v0 n (v1 + 1) (v2 + 1)
  else
   L_X8_rowsThere_4 N σ v0 n v1 (v2 + 1)
def m_X8_rowsThere (N : Nat) (σ : Hp) (t0 : Nat) : Option (Int32) :=
  (rv N σ t0 8).bind fun _ =>
  (L_X8_rowsThere_4 N σ t0 fu 0 0).bind fun z6 =>
  some z6
set_option maxHeartbeats 4000000 in
set_option maxRecDepth 100000 in
theorem lp_X8_rowsThere_4 {κ : Kx} {ω : Om} (C : Cx κ 3 1 cX8_rowsThere RX8 "rowsThere") (Z : Zx κ ω) (σ : Hp) (v0 : Nat) {r : Int32} (hk : X κ 3 ω 31 [none, some (.int r), none] [] σ) : ∀ (n : Nat) (v1 : Int32) (v2 : Int32), L_X8_rowsThere_4 ω.1 σ v0 n v1 v2 = some r → X κ 3 ω 4 [some (.ref v0), some (.int v1), some (.int v2)] [] σ := by
  intro n
  induction n with
  | zero => intro v1 v2 h; cases h
  | succ n ih =>
    intro v1 v2 h
    rw [L_X8_rowsThere_4.eq_2] at h
    refine x_iload_n C (i := 2) dX8_rowsThere_4 rfl rfl ?_
    refine x_bipush C (v := 8) dX8_rowsThere_5 (by decide) ?_
    refine x_icmp_ge C (tgt := 31) dX8_rowsThere_7 (by decide) (fun c1 => ?_) (fun c1 => ?_)
    · have h := ifP h c1
      refine x_wk [false, true, false] (lo' := [none, some (.int v1), none]) rfl ?_
      obtain rfl := Option.some.inj h
      exact hk
    · have h := ifN h c1
      refine x_aload_n C (i := 0) dX8_rowsThere_10 rfl rfl ?_
      obtain ⟨x2, ex2, h⟩ := ob h
      refine x_getR C fl_X8_11 dX8_rowsThere_11 ex2 ?_
      refine x_iload_n C (i := 2) dX8_rowsThere_14 rfl rfl ?_
      obtain ⟨x3, ex3, h⟩ := ob h
      refine x_aald5 C dX8_rowsThere_15 ex3 ?_
      obtain ⟨r4, er4, h⟩ := ob h
      refine x_callVr C Z mv_X5_isMissing lk_X8_74 (rv_h er4) (ct_X5_isMissing er4) (by decide) rfl rfl (Nat.le_of_ble_eq_true rfl) dX8_rowsThere_16 ?_
      refine x_if_ne C (tgt := 25) dX8_rowsThere_19 (by decide) (fun c5 => ?_) (fun c5 => ?_)
      · have h := ifN h c5
        refine x_iinc C (i := 2) (y := v2 + 1) (lo' := [some (.ref v0), some (.int v1), some (.int (v2 + 1))]) dX8_rowsThere_25 rfl rfl (by decide) rfl rfl ?_
        refine x_goto C (tgt := 4) dX8_rowsThere_28 (by decide) ?_
        refine x_wk [true, true, true] (lo' := [some (.ref v0), some (.int v1), some (.int (v2 + 1))]) rfl ?_
        exact ih v1 (v2 + 1) h
      · have h := ifP h c5
        refine x_iinc C (i := 1) (y := v1 + 1) (lo' := [some (.ref v0), some (.int (v1 + 1)), some (.int v2)]) dX8_rowsThere_22 rfl rfl (by decide) rfl rfl ?_
        refine x_iinc C (i := 2) (y := v2 + 1) (lo' := [some (.ref v0), some (.int (v1 + 1)), some (.int (v2 + 1))]) dX8_rowsThere_25 rfl rfl (by decide) rfl rfl ?_
        refine x_goto C (tgt := 4) dX8_rowsThere_28 (by decide) ?_
        refine x_wk [true, true, true] (lo' := [some (.ref v0), some (.int (v1 + 1)), some (.int (v2 + 1))]) rfl ?_
        exact ih (v1 + 1) (v2 + 1) h
set_option maxHeartbeats 4000000 in
set_option maxRecDepth 100000 in
theorem ct_X8_rowsThere {l : Launch} {D : va_G} {cy : Nat → Nat} {N : Nat} {σ : Hp} {t0 : Nat} {r : Int32} (h : m_X8_rowsThere N σ t0 = some r) : Ct l D cy yX8_rowsThere cX8_rowsThere 3 (some .int) 1 [.ref t0] N σ (fun v s' => v = (some (.int r)) ∧ s' = σ) := by
  refine Ct.intro [some (.ref t0), none, none] (by decide) rfl (Nat.le_of_ble_eq_true rfl) ?_
  intro κ ω e1 e2 e3 e4 C Z E
  subst e1; subst e2; subst e3; subst e4
  have C : Cx κ 3 1 cX8_rowsThere RX8 "rowsThere" := C
  have hE : ∀ x : Int32, r = x → ((some (Value.int x)) = (some (Value.int r)) ∧ σ = σ) := fun x hx => by subst hx; exact ⟨rfl, rfl⟩
  unfold m_X8_rowsThere at h
  obtain ⟨_, _, h⟩ := ob h
  refine x_iconst C (v := 0) dX8_rowsThere_0 (by decide) ?_
  refine x_istore_n C (i := 1) (lo' := [some (.ref t0), some (.int 0), none]) dX8_rowsThere_1 rfl (by decide) rfl rfl ?_
  refine x_iconst C (v := 0) dX8_rowsThere_2 (by decide) ?_
  refine x_istore_n C (i := 2) (lo' := [some (.ref t0), some (.int 0), some (.int 0)]) dX8_rowsThere_3 rfl (by decide) rfl rfl ?_
  obtain ⟨z6, ez6, h⟩ := ob h
  refine x_wk [true, true, true] (lo' := [some (.ref t0), some (.int 0), some (.int 0)]) rfl ?_
  refine lp_X8_rowsThere_4 C Z σ t0 ?_ _ 0 0 ez6
  refine x_iload_n C (i := 1) dX8_rowsThere_31 rfl rfl ?_
  exact x_iret C E dX8_rowsThere_32 (hE z6 (Option.some.inj h).symm)
theorem dX8_count_0 : decode cX8_count 0 = .ok (.iload_n 1, 1) := by decide +kernel
theorem dX8_count_1 : decode cX8_count 1 = .ok (.tableswitch 115 0 7 #[47, 52, 60, 68, 76, 84, 92, 100], 47) := by decide +kernel
theorem dX8_count_48 : decode cX8_count 48 = .ok (.aload_n 0, 1) := by decide +kernel
theorem dX8_count_49 : decode cX8_count 49 = .ok (.invokevirtual 268, 3) := by decide +kernel
theorem dX8_count_52 : decode cX8_count 52 = .ok (.ireturn, 1) := by decide +kernel
theorem dX8_count_53 : decode cX8_count 53 = .ok (.aload_n 0, 1) := by decide +kernel
theorem dX8_count_54 : decode cX8_count 54 = .ok (.getfield 25, 3) := by decide +kernel
theorem dX8_count_57 : decode cX8_count 57 = .ok (.getfield 271, 3) := by decide +kernel
theorem dX8_count_60 : decode cX8_count 60 = .ok (.ireturn, 1) := by decide +kernel
theorem dX8_count_61 : decode cX8_count 61 = .ok (.aload_n 0, 1) := by decide +kernel
theorem dX8_count_62 : decode cX8_count 62 = .ok (.getfield 25, 3) := by decide +kernel
theorem dX8_count_65 : decode cX8_count 65 = .ok (.getfield 124, 3) := by decide +kernel
theorem dX8_count_68 : decode cX8_count 68 = .ok (.ireturn, 1) := by decide +kernel
theorem dX8_count_69 : decode cX8_count 69 = .ok (.aload_n 0, 1) := by decide +kernel
theorem dX8_count_70 : decode cX8_count 70 = .ok (.getfield 25, 3) := by decide +kernel
theorem dX8_count_73 : decode cX8_count 73 = .ok (.getfield 134, 3) := by decide +kernel
theorem dX8_count_76 : decode cX8_count 76 = .ok (.ireturn, 1) := by decide +kernel
theorem dX8_count_77 : decode cX8_count 77 = .ok (.aload_n 0, 1) := by decide +kernel
theorem dX8_count_78 : decode cX8_count 78 = .ok (.getfield 25, 3) := by decide +kernel
theorem dX8_count_81 : decode cX8_count 81 = .ok (.getfield 159, 3) := by decide +kernel
theorem dX8_count_84 : decode cX8_count 84 = .ok (.ireturn, 1) := by decide +kernel
theorem dX8_count_85 : decode cX8_count 85 = .ok (.aload_n 0, 1) := by decide +kernel
theorem dX8_count_86 : decode cX8_count 86 = .ok (.getfield 35, 3) := by decide +kernel
theorem dX8_count_89 : decode cX8_count 89 = .ok (.getfield 165, 3) := by decide +kernel
theorem dX8_count_92 : decode cX8_count 92 = .ok (.ireturn, 1) := by decide +kernel
theorem dX8_count_93 : decode cX8_count 93 = .ok (.aload_n 0, 1) := by decide +kernel
theorem dX8_count_94 : decode cX8_count 94 = .ok (.getfield 18, 3) := by decide +kernel
theorem dX8_count_97 : decode cX8_count 97 = .ok (.getfield 100, 3) := by decide +kernel
theorem dX8_count_100 : decode cX8_count 100 = .ok (.ireturn, 1) := by decide +kernel
theorem dX8_count_101 : decode cX8_count 101 = .ok (.aload_n 0, 1) := by decide +kernel
theorem dX8_count_102 : decode cX8_count 102 = .ok (.getfield 25, 3) := by decide +kernel
theorem dX8_count_105 : decode cX8_count 105 = .ok (.aload_n 0, 1) := by decide +kernel
theorem dX8_count_106 : decode cX8_count 106 = .ok (.getfield 25, 3) := by decide +kernel
theorem dX8_count_109 : decode cX8_count 109 = .ok (.getfield 252, 3) := by decide +kernel
theorem dX8_count_112 : decode cX8_count 112 = .ok (.invokevirtual 205, 3) := by decide +kernel
theorem dX8_count_115 : decode cX8_count 115 = .ok (.ireturn, 1) := by decide +kernel
theorem dX8_count_116 : decode cX8_count 116 = .ok (.ldc 55, 2) := by decide +kernel
theorem dX8_count_118 : decode cX8_count 118 = .ok (.ireturn, 1) := by decide +kernel
def m_X8_count (N : Nat) (σ : Hp) (t0 : Nat) (p1 : Int32) : Option (Int32) :=
  (rv N σ t0 8).bind fun _ =>
  if p1 = 0 then
   (m_X8_rowsThere N σ t0).bind fun r2 =>
  some r2
  else if p1 = 1 then
   (gR N σ t0 8 2).bind fun x4 =>
  (gI N σ x4 2 0).bind fun x5 =>
  some x5
  else if p1 = 2 then
   (gR N σ t0 8 2).bind fun x7 =>
  (gI N σ x7 2 1).bind fun x8 =>
  some x8
  else if p1 = 3 then
   (gR N σ t0 8 2).bind fun x10 =>
  (gI N σ x10 2 3).bind fun x11 =>
  some x11
  else if p1 = 4 then
   (gR N σ t0 8 2).bind fun x13 =>
  (gI N σ x13 2 2).bind fun x14 =>
  some x14
  else if p1 = 5 then
   (gR N σ t0 8 4).bind fun x16 =>
  (gI N σ x16 0 2).bind fun x17 =>
  some x17
  else if p1 = 6 then
   (gR N σ t0 8 1).bind fun x19 =>
  (gI N σ x19 7 1).bind fun x20 =>
  some x20
  else if p1 = 7 then
   (gR N σ t0 8 2).bind fun x22 =>
  (gR N σ t0 8 2).bind fun x23 =>
  (gI N σ x23 2 5).bind fun x24 =>
  (m_X2_codeOf N σ x22 x24).bind fun r25 =>
  some r25
  else 
   some (-1000001)
set_option maxHeartbeats 4000000 in
set_option maxRecDepth 100000 in
theorem ct_X8_count {l : Launch} {D : va_G} {cy : Nat → Nat} {N : Nat} {σ : Hp} {t0 : Nat} {p1 : Int32} {r : Int32} (h : m_X8_count N σ t0 p1 = some r) : Ct l D cy yX8_count cX8_count 2 (some .int) 2 [.ref t0, .int p1] N σ (fun v s' => v = (some (.int r)) ∧ s' = σ) := by
  refine Ct.intro [some (.ref t0), some (.int p1)] (by decide) rfl (Nat.le_of_ble_eq_true rfl) ?_
  intro κ ω e1 e2 e3 e4 C Z E
  subst e1; subst e2; subst e3; subst e4
  have C : Cx κ 2 2 cX8_count RX8 "count" := C
  have hE : ∀ x : Int32, r = x → ((some (Value.int x)) = (some (Value.int r)) ∧ σ = σ) := fun x hx => by subst hx; exact ⟨rfl, rfl⟩
  unfold m_X8_count at h
  obtain ⟨_, _, h⟩ := ob h
  refine x_iload_n C (i := 1) dX8_count_0 rfl rfl ?_
  by_cases c1 : p1 = 0
  · have h := ifP h c1
    refine x_tableIn C (off := 47) (tgt := 48) dX8_count_1 (by rw [c1]; decide) (by rw [c1]; decide) (by rw [c1]; rfl) (by decide) ?_
    refine x_aload_n C (i := 0) dX8_count_48 rfl rfl ?_
    obtain ⟨r2, er2, h⟩ := ob h
    refine x_callVr C Z mv_X8_rowsThere lk_X8_268 (rv_h er2) (ct_X8_rowsThere er2) (by decide) rfl rfl (Nat.le_of_ble_eq_true rfl) dX8_count_49 ?_
    exact x_iret C E dX8_count_52 (hE r2 (Option.some.inj h).symm)
  · have h := ifN h c1
    by_cases c3 : p1 = 1
    · have h := ifP h c3
      refine x_tableIn C (off := 52) (tgt := 53) dX8_count_1 (by rw [c3]; decide) (by rw [c3]; decide) (by rw [c3]; rfl) (by decide) ?_
      refine x_aload_n C (i := 0) dX8_count_53 rfl rfl ?_
      obtain ⟨x4, ex4, h⟩ := ob h
      refine x_getR C fl_X8_25 dX8_count_54 ex4 ?_
      obtain ⟨x5, ex5, h⟩ := ob h
      refine x_getI C fl_X8_271 dX8_count_57 ex5 ?_
      exact x_iret C E dX8_count_60 (hE x5 (Option.some.inj h).symm)
    · have h := ifN h c3
      by_cases c6 : p1 = 2
      · have h := ifP h c6
        refine x_tableIn C (off := 60) (tgt := 61) dX8_count_1 (by rw [c6]; decide) (by rw [c6]; decide) (by rw [c6]; rfl) (by decide) ?_
        refine x_aload_n C (i := 0) dX8_count_61 rfl rfl ?_
        obtain ⟨x7, ex7, h⟩ := ob h
        refine x_getR C fl_X8_25 dX8_count_62 ex7 ?_
        obtain ⟨x8, ex8, h⟩ := ob h
        refine x_getI C fl_X8_124 dX8_count_65 ex8 ?_
        exact x_iret C E dX8_count_68 (hE x8 (Option.some.inj h).symm)
      · have h := ifN h c6
        by_cases c9 : p1 = 3
        · have h := ifP h c9
          refine x_tableIn C (off := 68) (tgt := 69) dX8_count_1 (by rw [c9]; decide) (by rw [c9]; decide) (by rw [c9]; rfl) (by decide) ?_
          refine x_aload_n C (i := 0) dX8_count_69 rfl rfl ?_
          obtain ⟨x10, ex10, h⟩ := ob h
          refine x_getR C fl_X8_25 dX8_count_70 ex10 ?_
          obtain ⟨x11, ex11, h⟩ := ob h
          refine x_getI C fl_X8_134 dX8_count_73 ex11 ?_
          exact x_iret C E dX8_count_76 (hE x11 (Option.some.inj h).symm)
        · have h := ifN h c9
          by_cases c12 : p1 = 4
          · have h := ifP h c12
            refine x_tableIn C (off := 76) (tgt := 77) dX8_count_1 (by rw [c12]; decide) (by rw [c12]; decide) (by rw [c12]; rfl) (by decide) ?_
            refine x_aload_n C (i := 0) dX8_count_77 rfl rfl ?_
            obtain ⟨x13, ex13, h⟩ := ob h
            refine x_getR C fl_X8_25 dX8_count_78 ex13 ?_
            obtain ⟨x14, ex14, h⟩ := ob h
            refine x_getI C fl_X8_159 dX8_count_81 ex14 ?_
            exact x_iret C E dX8_count_84 (hE x14 (Option.some.inj h).symm)
          · have h := ifN h c12
            by_cases c15 : p1 = 5
            · have h := ifP h c15
              refine x_tableIn C (off := 84) (tgt := 85) dX8_count_1 (by rw [c15]; decide) (by rw [c15]; decide) (by rw [c15]; rfl) (by decide) ?_
              refine x_aload_n C (i := 0) dX8_count_85 rfl rfl ?_
              obtain ⟨x16, ex16, h⟩ := ob h
              refine x_getR C fl_X8_35 dX8_count_86 ex16 ?_
              obtain ⟨x17, ex17, h⟩ := ob h
              refine x_getI C fl_X8_165 dX8_count_89 ex17 ?_
              exact x_iret C E dX8_count_92 (hE x17 (Option.some.inj h).symm)
            · have h := ifN h c15
              by_cases c18 : p1 = 6
              · have h := ifP h c18
                refine x_tableIn C (off := 92) (tgt := 93) dX8_count_1 (by rw [c18]; decide) (by rw [c18]; decide) (by rw [c18]; rfl) (by decide) ?_
                refine x_aload_n C (i := 0) dX8_count_93 rfl rfl ?_
                obtain ⟨x19, ex19, h⟩ := ob h
                refine x_getR C fl_X8_18 dX8_count_94 ex19 ?_
                obtain ⟨x20, ex20, h⟩ := ob h
                refine x_getI C fl_X8_100 dX8_count_97 ex20 ?_
                exact x_iret C E dX8_count_100 (hE x20 (Option.some.inj h).symm)
              · have h := ifN h c18
                by_cases c21 : p1 = 7
                · have h := ifP h c21
                  refine x_tableIn C (off := 100) (tgt := 101) dX8_count_1 (by rw [c21]; decide) (by rw [c21]; decide) (by rw [c21]; rfl) (by decide) ?_
                  refine x_aload_n C (i := 0) dX8_count_101 rfl rfl ?_
                  obtain ⟨x22, ex22, h⟩ := ob h
                  refine x_getR C fl_X8_25 dX8_count_102 ex22 ?_
                  refine x_aload_n C (i := 0) dX8_count_105 rfl rfl ?_
                  obtain ⟨x23, ex23, h⟩ := ob h
                  refine x_getR C fl_X8_25 dX8_count_106 ex23 ?_
                  obtain ⟨x24, ex24, h⟩ := ob h
                  refine x_getI C fl_X8_252 dX8_count_109 ex24 ?_
                  obtain ⟨r25, er25, h⟩ := ob h
                  refine x_callVr C Z mv_X2_codeOf lk_X8_205 (rv_h er25) (ct_X2_codeOf er25) (by decide) rfl rfl (Nat.le_of_ble_eq_true rfl) dX8_count_112 ?_
                  exact x_iret C E dX8_count_115 (hE r25 (Option.some.inj h).symm)
                · have h := ifN h c21
                  refine x_tableOut C (tgt := 116) dX8_count_1 (by have q0 := lv_neT (a := 0) c1 (by decide); have q1 := lv_neT (a := 1) c3 (by decide); have q2 := lv_neT (a := 2) c6 (by decide); have q3 := lv_neT (a := 3) c9 (by decide); have q4 := lv_neT (a := 4) c12 (by decide); have q5 := lv_neT (a := 5) c15 (by decide); have q6 := lv_neT (a := 6) c18 (by decide); have q7 := lv_neT (a := 7) c21 (by decide); omega) (by decide) ?_
                  refine x_ldc C kc_X8_55 dX8_count_116 ?_
                  exact x_iret C E dX8_count_118 (hE (-1000001) (Option.some.inj h).symm)
theorem dX8_status_0 : decode cX8_status 0 = .ok (.aload_n 0, 1) := by decide +kernel
theorem dX8_status_1 : decode cX8_status 1 = .ok (.getfield 274, 3) := by decide +kernel
theorem dX8_status_4 : decode cX8_status 4 = .ok (.ireturn, 1) := by decide +kernel
def m_X8_status (N : Nat) (σ : Hp) (t0 : Nat) : Option (Int32) :=
  (rv N σ t0 8).bind fun _ =>
  (gI N σ t0 8 11).bind fun x1 =>
  some x1
set_option maxHeartbeats 4000000 in
set_option maxRecDepth 100000 in
theorem ct_X8_status {l : Launch} {D : va_G} {cy : Nat → Nat} {N : Nat} {σ : Hp} {t0 : Nat} {r : Int32} (h : m_X8_status N σ t0 = some r) : Ct l D cy yX8_status cX8_status 1 (some .int) 0 [.ref t0] N σ (fun v s' => v = (some (.int r)) ∧ s' = σ) := by
  refine Ct.intro [some (.ref t0)] (by decide) rfl (Nat.le_of_ble_eq_true rfl) ?_
  intro κ ω e1 e2 e3 e4 C Z E
  subst e1; subst e2; subst e3; subst e4
  have C : Cx κ 1 0 cX8_status RX8 "status" := C
  have hE : ∀ x : Int32, r = x → ((some (Value.int x)) = (some (Value.int r)) ∧ σ = σ) := fun x hx => by subst hx; exact ⟨rfl, rfl⟩
  unfold m_X8_status at h
  obtain ⟨_, _, h⟩ := ob h
  refine x_aload_n C (i := 0) dX8_status_0 rfl rfl ?_
  obtain ⟨x1, ex1, h⟩ := ob h
  refine x_getI C fl_X8_274 dX8_status_1 ex1 ?_
  exact x_iret C E dX8_status_4 (hE x1 (Option.some.inj h).symm)
