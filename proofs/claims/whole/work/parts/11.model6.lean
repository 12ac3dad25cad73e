theorem dX9_body11_0 : decode cX9_body11 0 = .ok (.aload_n 0, 1) := by decide +kernel
theorem dX9_body11_1 : decode cX9_body11 1 = .ok (.bipush 11, 2) := by decide +kernel
theorem dX9_body11_3 : decode cX9_body11 3 = .ok (.invokevirtual 263, 3) := by decide +kernel
theorem dX9_body11_6 : decode cX9_body11 6 = .ok (.aload_n 0, 1) := by decide +kernel
theorem dX9_body11_7 : decode cX9_body11 7 = .ok (.iload_n 1, 1) := by decide +kernel
theorem dX9_body11_8 : decode cX9_body11 8 = .ok (.invokevirtual 278, 3) := by decide +kernel
theorem dX9_body11_11 : decode cX9_body11 11 = .ok (.istore_n 2, 1) := by decide +kernel
theorem dX9_body11_12 : decode cX9_body11 12 = .ok (.iload_n 2, 1) := by decide +kernel
theorem dX9_body11_13 : decode cX9_body11 13 = .ok (.aload_n 0, 1) := by decide +kernel
theorem dX9_body11_14 : decode cX9_body11 14 = .ok (.iload_n 1, 1) := by decide +kernel
theorem dX9_body11_15 : decode cX9_body11 15 = .ok (.invokevirtual 293, 3) := by decide +kernel
theorem dX9_body11_18 : decode cX9_body11 18 = .ok (.iadd, 1) := by decide +kernel
theorem dX9_body11_19 : decode cX9_body11 19 = .ok (.ireturn, 1) := by decide +kernel
def m_X9_body11 (N : Nat) (σ : Hp) (t0 : Nat) (p1 : Int32) : Option (Int32 × Hp) :=
  (rv N σ t0 9).bind fun _ =>
  (m_X9_leaves N σ t0 11).bind fun r1 =>
  (m_X9_body10 N r1 t0 p1).bind fun r2 =>
  (m_X9_plainMark N r2.2 t0 p1).bind fun r3 =>
  some (r2.1 + r3.1, r3.2)
set_option maxHeartbeats 4000000 in
set_option maxRecDepth 100000 in
theorem ct_X9_body11 {l : Launch} {D : va_G} {cy : Nat → Nat} {N : Nat} {σ : Hp} {t0 : Nat} {p1 : Int32} {r : Int32 × Hp} (h : m_X9_body11 N σ t0 p1 = some r) : Ct l D cy yX9_body11 cX9_body11 3 (some .int) 6 [.ref t0, .int p1] N σ (fun v s' => v = (some (.int r.1)) ∧ s' = r.2) := by
  refine Ct.intro [some (.ref t0), some (.int p1), none] (by decide) rfl (Nat.le_of_ble_eq_true rfl) ?_
  intro κ ω e1 e2 e3 e4 C Z E
  subst e1; subst e2; subst e3; subst e4
  have C : Cx κ 3 6 cX9_body11 RX9 "body11" := C
  have hE : ∀ x : Int32 × Hp, r = x → ((some (Value.int x.1)) = (some (Value.int r.1)) ∧ x.2 = r.2) := fun x hx => by subst hx; exact ⟨rfl, rfl⟩
  unfold m_X9_body11 at h
  obtain ⟨_, _, h⟩ := ob h
  refine x_aload_n C (i := 0) dX9_body11_0 rfl rfl ?_
  refine x_bipush C (v := 11) dX9_body11_1 (by decide) ?_
  obtain ⟨r1, er1, h⟩ := ob h
  refine x_callVn C Z mv_X9_leaves lk_X9_263 (rv_h er1) (ct_X9_leaves er1) (by decide) rfl rfl (Nat.le_of_ble_eq_true rfl) dX9_body11_3 ?_
  refine x_aload_n C (i := 0) dX9_body11_6 rfl rfl ?_
  refine x_iload_n C (i := 1) dX9_body11_7 rfl rfl ?_
  obtain ⟨r2, er2, h⟩ := ob h
  refine x_callVr C Z mv_X9_body10 lk_X9_278 (rv_h er2) (ct_X9_body10 er2) (by decide) rfl rfl (Nat.le_of_ble_eq_true rfl) dX9_body11_8 ?_
  refine x_istore_n C (i := 2) (lo' := [some (.ref t0), some (.int p1), some (.int r2.1)]) dX9_body11_11 rfl (by decide) rfl rfl ?_
  refine x_iload_n C (i := 2) dX9_body11_12 rfl rfl ?_
  refine x_aload_n C (i := 0) dX9_body11_13 rfl rfl ?_
  refine x_iload_n C (i := 1) dX9_body11_14 rfl rfl ?_
  obtain ⟨r3, er3, h⟩ := ob h
  refine x_callVr C Z mv_X9_plainMark lk_X9_293 (rv_h er3) (ct_X9_plainMark er3) (by decide) rfl rfl (Nat.le_of_ble_eq_true rfl) dX9_body11_15 ?_
  refine x_iadd C dX9_body11_18 ?_
  exact x_iret C E dX9_body11_19 (hE (r2.1 + r3.1, r3.2) (Option.some.inj h).symm)
theorem dX9_body12_0 : decode cX9_body12 0 = .ok (.aload_n 0, 1) := by decide +kernel
theorem dX9_body12_1 : decode cX9_body12 1 = .ok (.bipush 12, 2) := by decide +kernel
theorem dX9_body12_3 : decode cX9_body12 3 = .ok (.invokevirtual 263, 3) := by decide +kernel
theorem dX9_body12_6 : decode cX9_body12 6 = .ok (.aload_n 0, 1) := by decide +kernel
theorem dX9_body12_7 : decode cX9_body12 7 = .ok (.iload_n 1, 1) := by decide +kernel
theorem dX9_body12_8 : decode cX9_body12 8 = .ok (.invokevirtual 296, 3) := by decide +kernel
theorem dX9_body12_11 : decode cX9_body12 11 = .ok (.ineg, 1) := by decide +kernel
theorem dX9_body12_12 : decode cX9_body12 12 = .ok (.ireturn, 1) := by decide +kernel
def m_X9_body12 (N : Nat) (σ : Hp) (t0 : Nat) (p1 : Int32) : Option (Int32 × Hp) :=
  (rv N σ t0 9).bind fun _ =>
  (m_X9_leaves N σ t0 12).bind fun r1 =>
  (m_X9_body11 N r1 t0 p1).bind fun r2 =>
  some (-r2.1, r2.2)
set_option maxHeartbeats 4000000 in
set_option maxRecDepth 100000 in
theorem ct_X9_body12 {l : Launch} {D : va_G} {cy : Nat → Nat} {N : Nat} {σ : Hp} {t0 : Nat} {p1 : Int32} {r : Int32 × Hp} (h : m_X9_body12 N σ t0 p1 = some r) : Ct l D cy yX9_body12 cX9_body12 2 (some .int) 7 [.ref t0, .int p1] N σ (fun v s' => v = (some (.int r.1)) ∧ s' = r.2) := by
  refine Ct.intro [some (.ref t0), some (.int p1)] (by decide) rfl (Nat.le_of_ble_eq_true rfl) ?_
  intro κ ω e1 e2 e3 e4 C Z E
  subst e1; subst e2; subst e3; subst e4
  have C : Cx κ 2 7 cX9_body12 RX9 "body12" := C
  have hE : ∀ x : Int32 × Hp, r = x → ((some (Value.int x.1)) = (some (Value.int r.1)) ∧ x.2 = r.2) := fun x hx => by subst hx; exact ⟨rfl, rfl⟩
  unfold m_X9_body12 at h
  obtain ⟨_, _, h⟩ := ob h
  refine x_aload_n C (i := 0) dX9_body12_0 rfl rfl ?_
  refine x_bipush C (v := 12) dX9_body12_1 (by decide) ?_
  obtain ⟨r1, er1, h⟩ := ob h
  refine x_callVn C Z mv_X9_leaves lk_X9_263 (rv_h er1) (ct_X9_leaves er1) (by decide) rfl rfl (Nat.le_of_ble_eq_true rfl) dX9_body12_3 ?_
  refine x_aload_n C (i := 0) dX9_body12_6 rfl rfl ?_
  refine x_iload_n C (i := 1) dX9_body12_7 rfl rfl ?_
  obtain ⟨r2, er2, h⟩ := ob h
  refine x_callVr C Z mv_X9_body11 lk_X9_296 (rv_h er2) (ct_X9_body11 er2) (by decide) rfl rfl (Nat.le_of_ble_eq_true rfl) dX9_body12_8 ?_
  refine x_ineg C dX9_body12_11 ?_
  exact x_iret C E dX9_body12_12 (hE (-r2.1, r2.2) (Option.some.inj h).symm)
theorem dX9_ask_0 : decode cX9_ask 0 = .ok (.aload_n 0, 1) := by decide +kernel
theorem dX9_ask_1 : decode cX9_ask 1 = .ok (.iload_n 1, 1) := by decide +kernel
theorem dX9_ask_2 : decode cX9_ask 2 = .ok (.invokevirtual 180, 3) := by decide +kernel
theorem dX9_ask_5 : decode cX9_ask 5 = .ok (.ifCond .eq 13, 3) := by decide +kernel
theorem dX9_ask_8 : decode cX9_ask 8 = .ok (.iload_n 2, 1) := by decide +kernel
theorem dX9_ask_9 : decode cX9_ask 9 = .ok (.i2l, 1) := by decide +kernel
theorem dX9_ask_10 : decode cX9_ask 10 = .ok (.lconst 0, 1) := by decide +kernel
theorem dX9_ask_11 : decode cX9_ask 11 = .ok (.lconst 1, 1) := by decide +kernel
theorem dX9_ask_12 : decode cX9_ask 12 = .ok (.invokestatic 56, 3) := by decide +kernel
theorem dX9_ask_15 : decode cX9_ask 15 = .ok (.ifCond .ne 6, 3) := by decide +kernel
theorem dX9_ask_18 : decode cX9_ask 18 = .ok (.ldc 66, 2) := by decide +kernel
theorem dX9_ask_20 : decode cX9_ask 20 = .ok (.ireturn, 1) := by decide +kernel
theorem dX9_ask_21 : decode cX9_ask 21 = .ok (.aload_n 0, 1) := by decide +kernel
theorem dX9_ask_22 : decode cX9_ask 22 = .ok (.iconst 0, 1) := by decide +kernel
theorem dX9_ask_23 : decode cX9_ask 23 = .ok (.putfield 260, 3) := by decide +kernel
theorem dX9_ask_26 : decode cX9_ask 26 = .ok (.aload_n 0, 1) := by decide +kernel
theorem dX9_ask_27 : decode cX9_ask 27 = .ok (.getfield 23, 3) := by decide +kernel
theorem dX9_ask_30 : decode cX9_ask 30 = .ok (.iconst 4, 1) := by decide +kernel
theorem dX9_ask_31 : decode cX9_ask 31 = .ok (.iload_n 1, 1) := by decide +kernel
theorem dX9_ask_32 : decode cX9_ask 32 = .ok (.iadd, 1) := by decide +kernel
theorem dX9_ask_33 : decode cX9_ask 33 = .ok (.iaload, 1) := by decide +kernel
theorem dX9_ask_34 : decode cX9_ask 34 = .ok (.i2l, 1) := by decide +kernel
theorem dX9_ask_35 : decode cX9_ask 35 = .ok (.lconst 1, 1) := by decide +kernel
theorem dX9_ask_36 : decode cX9_ask 36 = .ok (.ldc2_w 220, 3) := by decide +kernel
theorem dX9_ask_39 : decode cX9_ask 39 = .ok (.invokestatic 56, 3) := by decide +kernel
theorem dX9_ask_42 : decode cX9_ask 42 = .ok (.istore_n 3, 1) := by decide +kernel
theorem dX9_ask_43 : decode cX9_ask 43 = .ok (.iload_n 2, 1) := by decide +kernel
theorem dX9_ask_44 : decode cX9_ask 44 = .ok (.iconst 1, 1) := by decide +kernel
theorem dX9_ask_45 : decode cX9_ask 45 = .ok (.if_icmp .ne 21, 3) := by decide +kernel
theorem dX9_ask_48 : decode cX9_ask 48 = .ok (.iload_n 3, 1) := by decide +kernel
theorem dX9_ask_49 : decode cX9_ask 49 = .ok (.ifCond .eq 11, 3) := by decide +kernel
theorem dX9_ask_52 : decode cX9_ask 52 = .ok (.aload_n 0, 1) := by decide +kernel
theorem dX9_ask_53 : decode cX9_ask 53 = .ok (.iload_n 1, 1) := by decide +kernel
theorem dX9_ask_54 : decode cX9_ask 54 = .ok (.invokevirtual 293, 3) := by decide +kernel
theorem dX9_ask_57 : decode cX9_ask 57 = .ok (.goto 8, 3) := by decide +kernel
theorem dX9_ask_60 : decode cX9_ask 60 = .ok (.aload_n 0, 1) := by decide +kernel
theorem dX9_ask_61 : decode cX9_ask 61 = .ok (.iload_n 1, 1) := by decide +kernel
theorem dX9_ask_62 : decode cX9_ask 62 = .ok (.invokevirtual 299, 3) := by decide +kernel
theorem dX9_ask_65 : decode cX9_ask 65 = .ok (.ireturn, 1) := by decide +kernel
theorem dX9_ask_66 : decode cX9_ask 66 = .ok (.iload_n 3, 1) := by decide +kernel
theorem dX9_ask_67 : decode cX9_ask 67 = .ok (.ifCond .ne 11, 3) := by decide +kernel
theorem dX9_ask_70 : decode cX9_ask 70 = .ok (.aload_n 0, 1) := by decide +kernel
theorem dX9_ask_71 : decode cX9_ask 71 = .ok (.iload_n 1, 1) := by decide +kernel
theorem dX9_ask_72 : decode cX9_ask 72 = .ok (.invokevirtual 275, 3) := by decide +kernel
theorem dX9_ask_75 : decode cX9_ask 75 = .ok (.goto 28, 3) := by decide +kernel
theorem dX9_ask_78 : decode cX9_ask 78 = .ok (.aload_n 0, 1) := by decide +kernel
theorem dX9_ask_79 : decode cX9_ask 79 = .ok (.getfield 23, 3) := by decide +kernel
theorem dX9_ask_82 : decode cX9_ask 82 = .ok (.iconst 4, 1) := by decide +kernel
theorem dX9_ask_83 : decode cX9_ask 83 = .ok (.iload_n 1, 1) := by decide +kernel
theorem dX9_ask_84 : decode cX9_ask 84 = .ok (.iadd, 1) := by decide +kernel
theorem dX9_ask_85 : decode cX9_ask 85 = .ok (.iaload, 1) := by decide +kernel
theorem dX9_ask_86 : decode cX9_ask 86 = .ok (.iconst 2, 1) := by decide +kernel
theorem dX9_ask_87 : decode cX9_ask 87 = .ok (.if_icmp .ne 11, 3) := by decide +kernel
theorem dX9_ask_90 : decode cX9_ask 90 = .ok (.aload_n 0, 1) := by decide +kernel
theorem dX9_ask_91 : decode cX9_ask 91 = .ok (.iload_n 1, 1) := by decide +kernel
theorem dX9_ask_92 : decode cX9_ask 92 = .ok (.invokevirtual 302, 3) := by decide +kernel
theorem dX9_ask_95 : decode cX9_ask 95 = .ok (.goto 8, 3) := by decide +kernel
theorem dX9_ask_98 : decode cX9_ask 98 = .ok (.aload_n 0, 1) := by decide +kernel
theorem dX9_ask_99 : decode cX9_ask 99 = .ok (.iload_n 1, 1) := by decide +kernel
theorem dX9_ask_100 : decode cX9_ask 100 = .ok (.invokevirtual 296, 3) := by decide +kernel
theorem dX9_ask_103 : decode cX9_ask 103 = .ok (.ireturn, 1) := by decide +kernel
def m_X9_ask (N : Nat) (σ : Hp) (t0 : Nat) (p1 : Int32) (p2 : Int32) : Option (Int32 × Hp) :=
  (rv N σ t0 9).bind fun _ =>
  (m_X9_isDisc N σ t0 p1).bind fun r1 =>
  if r1 = 0 then
   some ((-1000001), σ)
  else
   (m_X9_in p2.toInt64 0 1).bind fun r3 =>
  if r3 = 0 then
   some ((-1000001), σ)
  else
   (pV N σ t0 9 23 (.int 0)).bind fun σ5 =>
  (gR N σ5 t0 9 10).bind fun x6 =>
  (aI 0 N σ5 x6 ((4 : Int32) + p1)).bind fun x7 =>
  (m_X9_in x7.toInt64 1 3).bind fun r8 =>
  if p2 = 1 then
   if r8 = 0 then
   (m_X9_body23 N σ5 t0 p1).bind fun r18 =>
  some (r18.1, r18.2)
  else
   (m_X9_plainMark N σ5 t0 p1).bind fun r19 =>
  some (r19.1, r19.2)
  else
   if r8 = 0 then
   (m_X9_glassSize N σ5 t0 p1).bind fun r16 =>
  some (r16.1, r16.2)
  else
   (gR N σ5 t0 9 10).bind fun x11 =>
  (aI 0 N σ5 x11 ((4 : Int32) + p1)).bind fun x12 =>
  if x12 = 2 then
   (m_X9_body12 N σ5 t0 p1).bind fun r15 =>
  some (r15.1, r15.2)
  else
   (m_X9_body11 N σ5 t0 p1).bind fun r14 =>
  some (r14.1, r14.2)
set_option maxHeartbeats 4000000 in
set_option maxRecDepth 100000 in
theorem ct_X9_ask {l : Launch} {D : va_G} {cy : Nat → Nat} {N : Nat} {σ : Hp} {t0 : Nat} {p1 : Int32} {p2 : Int32} {r : Int32 × Hp} (h : m_X9_ask N σ t0 p1 p2 = some r) : Ct l D cy yX9_ask cX9_ask 4 (some .int) 8 [.ref t0, .int p1, .int p2] N σ (fun v s' => v = (some (.int r.1)) ∧ s' = r.2) := by
  refine Ct.intro [some (.ref t0), some (.int p1), some (.int p2), none] (by decide) rfl (Nat.le_of_ble_eq_true rfl) ?_
  intro κ ω e1 e2 e3 e4 C Z E
  subst e1; subst e2; subst e3; subst e4
  have C : Cx κ 4 8 cX9_ask RX9 "ask" := C
  have hE : ∀ x : Int32 × Hp, r = x → ((some (Value.int x.1)) = (some (Value.int r.1)) ∧ x.2 = r.2) := fun x hx => by subst hx; exact ⟨rfl, rfl⟩
  unfold m_X9_ask at h
  obtain ⟨_, _, h⟩ := ob h
  refine x_aload_n C (i := 0) dX9_ask_0 rfl rfl ?_
  refine x_iload_n C (i := 1) dX9_ask_1 rfl rfl ?_
  obtain ⟨r1, er1, h⟩ := ob h
  refine x_callVr C Z mv_X9_isDisc lk_X9_180 (rv_h er1) (ct_X9_isDisc er1) (by decide) rfl rfl (Nat.le_of_ble_eq_true rfl) dX9_ask_2 ?_
  refine x_if_eq C (tgt := 18) dX9_ask_5 (by decide) (fun c2 => ?_) (fun c2 => ?_)
  · have h := ifP h c2
    refine x_ldc C kc_X9_66 dX9_ask_18 ?_
    exact x_iret C E dX9_ask_20 (hE ((-1000001), σ) (Option.some.inj h).symm)
  · have h := ifN h c2
    refine x_iload_n C (i := 2) dX9_ask_8 rfl rfl ?_
    refine x_i2l C dX9_ask_9 ?_
    refine x_lconst C (v := 0) dX9_ask_10 (by decide) ?_
    refine x_lconst C (v := 1) dX9_ask_11 (by decide) ?_
    obtain ⟨r3, er3, h⟩ := ob h
    refine x_callSr C Z ms_X9_in lk_X9_56 (ct_X9_in (N := ω.1) (σ := σ) er3) (by decide) rfl rfl (Nat.le_of_ble_eq_true rfl) dX9_ask_12 ?_
    refine x_if_ne C (tgt := 21) dX9_ask_15 (by decide) (fun c4 => ?_) (fun c4 => ?_)
    · have h := ifN h c4
      refine x_aload_n C (i := 0) dX9_ask_21 rfl rfl ?_
      refine x_iconst C (v := 0) dX9_ask_22 (by decide) ?_
      obtain ⟨σ5, eσ5, h⟩ := ob h
      refine x_put C pl_X9_260 dX9_ask_23 (fun _ => ⟨rfl, rfl⟩) eσ5 ?_
      refine x_aload_n C (i := 0) dX9_ask_26 rfl rfl ?_
      obtain ⟨x6, ex6, h⟩ := ob h
      refine x_getR C fl_X9_23 dX9_ask_27 ex6 ?_
      refine x_iconst C (v := 4) dX9_ask_30 (by decide) ?_
      refine x_iload_n C (i := 1) dX9_ask_31 rfl rfl ?_
      refine x_iadd C dX9_ask_32 ?_
      obtain ⟨x7, ex7, h⟩ := ob h
      refine x_iald C dX9_ask_33 ex7 ?_
      refine x_i2l C dX9_ask_34 ?_
      refine x_lconst C (v := 1) dX9_ask_35 (by decide) ?_
      refine x_ldc2 C kj_X9_220 dX9_ask_36 ?_
      obtain ⟨r8, er8, h⟩ := ob h
      refine x_callSr C Z ms_X9_in lk_X9_56 (ct_X9_in (N := ω.1) (σ := σ5) er8) (by decide) rfl rfl (Nat.le_of_ble_eq_true rfl) dX9_ask_39 ?_
      refine x_istore_n C (i := 3) (lo' := [some (.ref t0), some (.int p1), some (.int p2), some (.int r8)]) dX9_ask_42 rfl (by decide) rfl rfl ?_
      refine x_iload_n C (i := 2) dX9_ask_43 rfl rfl ?_
      refine x_iconst C (v := 1) dX9_ask_44 (by decide) ?_
      refine x_icmp_ne C (tgt := 66) dX9_ask_45 (by decide) (fun c9 => ?_) (fun c9 => ?_)
      · have h := ifN h c9
        refine x_iload_n C (i := 3) dX9_ask_66 rfl rfl ?_
        refine x_if_ne C (tgt := 78) dX9_ask_67 (by decide) (fun c10 => ?_) (fun c10 => ?_)
        · have h := ifN h c10
          refine x_aload_n C (i := 0) dX9_ask_78 rfl rfl ?_
          obtain ⟨x11, ex11, h⟩ := ob h
          refine x_getR C fl_X9_23 dX9_ask_79 ex11 ?_
          refine x_iconst C (v := 4) dX9_ask_82 (by decide) ?_
          refine x_iload_n C (i := 1) dX9_ask_83 rfl rfl ?_
          refine x_iadd C dX9_ask_84 ?_
          obtain ⟨x12, ex12, h⟩ := ob h
          refine x_iald C dX9_ask_85 ex12 ?_
          refine x_iconst C (v := 2) dX9_ask_86 (by decide) ?_
          refine x_icmp_ne C (tgt := 98) dX9_ask_87 (by decide) (fun c13 => ?_) (fun c13 => ?_)
          · have h := ifN h c13
            refine x_aload_n C (i := 0) dX9_ask_98 rfl rfl ?_
            refine x_iload_n C (i := 1) dX9_ask_99 rfl rfl ?_
            obtain ⟨r14, er14, h⟩ := ob h
            refine x_callVr C Z mv_X9_body11 lk_X9_296 (rv_h er14) (ct_X9_body11 er14) (by decide) rfl rfl (Nat.le_of_ble_eq_true rfl) dX9_ask_100 ?_
            exact x_iret C E dX9_ask_103 (hE (r14.1, r14.2) (Option.some.inj h).symm)
          · have h := ifP h c13
            refine x_aload_n C (i := 0) dX9_ask_90 rfl rfl ?_
            refine x_iload_n C (i := 1) dX9_ask_91 rfl rfl ?_
            obtain ⟨r15, er15, h⟩ := ob h
            refine x_callVr C Z mv_X9_body12 lk_X9_302 (rv_h er15) (ct_X9_body12 er15) (by decide) rfl rfl (Nat.le_of_ble_eq_true rfl) dX9_ask_92 ?_
            refine x_goto C (tgt := 103) dX9_ask_95 (by decide) ?_
            exact x_iret C E dX9_ask_103 (hE (r15.1, r15.2) (Option.some.inj h).symm)
        · have h := ifP h c10
          refine x_aload_n C (i := 0) dX9_ask_70 rfl rfl ?_
          refine x_iload_n C (i := 1) dX9_ask_71 rfl rfl ?_
          obtain ⟨r16, er16, h⟩ := ob h
          refine x_callVr C Z mv_X9_glassSize lk_X9_275 (rv_h er16) (ct_X9_glassSize er16) (by decide) rfl rfl (Nat.le_of_ble_eq_true rfl) dX9_ask_72 ?_
          refine x_goto C (tgt := 103) dX9_ask_75 (by decide) ?_
          exact x_iret C E dX9_ask_103 (hE (r16.1, r16.2) (Option.some.inj h).symm)
      · have h := ifP h c9
        refine x_iload_n C (i := 3) dX9_ask_48 rfl rfl ?_
        refine x_if_eq C (tgt := 60) dX9_ask_49 (by decide) (fun c17 => ?_) (fun c17 => ?_)
        · have h := ifP h c17
          refine x_aload_n C (i := 0) dX9_ask_60 rfl rfl ?_
          refine x_iload_n C (i := 1) dX9_ask_61 rfl rfl ?_
          obtain ⟨r18, er18, h⟩ := ob h
          refine x_callVr C Z mv_X9_body23 lk_X9_299 (rv_h er18) (ct_X9_body23 er18) (by decide) rfl rfl (Nat.le_of_ble_eq_true rfl) dX9_ask_62 ?_
          exact x_iret C E dX9_ask_65 (hE (r18.1, r18.2) (Option.some.inj h).symm)
        · have h := ifN h c17
          refine x_aload_n C (i := 0) dX9_ask_52 rfl rfl ?_
          refine x_iload_n C (i := 1) dX9_ask_53 rfl rfl ?_
          obtain ⟨r19, er19, h⟩ := ob h
          refine x_callVr C Z mv_X9_plainMark lk_X9_293 (rv_h er19) (ct_X9_plainMark er19) (by decide) rfl rfl (Nat.le_of_ble_eq_true rfl) dX9_ask_54 ?_
          refine x_goto C (tgt := 65) dX9_ask_57 (by decide) ?_
          exact x_iret C E dX9_ask_65 (hE (r19.1, r19.2) (Option.some.inj h).symm)
    · have h := ifP h c4
      refine x_ldc C kc_X9_66 dX9_ask_18 ?_
      exact x_iret C E dX9_ask_20 (hE ((-1000001), σ) (Option.some.inj h).symm)
theorem dX9_trace_0 : decode cX9_trace 0 = .ok (.iload_n 1, 1) := by decide +kernel
theorem dX9_trace_1 : decode cX9_trace 1 = .ok (.i2l, 1) := by decide +kernel
theorem dX9_trace_2 : decode cX9_trace 2 = .ok (.lconst 0, 1) := by decide +kernel
theorem dX9_trace_3 : decode cX9_trace 3 = .ok (.aload_n 0, 1) := by decide +kernel
theorem dX9_trace_4 : decode cX9_trace 4 = .ok (.getfield 260, 3) := by decide +kernel
theorem dX9_trace_7 : decode cX9_trace 7 = .ok (.iconst 1, 1) := by decide +kernel
theorem dX9_trace_8 : decode cX9_trace 8 = .ok (.isub, 1) := by decide +kernel
theorem dX9_trace_9 : decode cX9_trace 9 = .ok (.i2l, 1) := by decide +kernel
theorem dX9_trace_10 : decode cX9_trace 10 = .ok (.invokestatic 56, 3) := by decide +kernel
theorem dX9_trace_13 : decode cX9_trace 13 = .ok (.ifCond .eq 12, 3) := by decide +kernel
theorem dX9_trace_16 : decode cX9_trace 16 = .ok (.aload_n 0, 1) := by decide +kernel
theorem dX9_trace_17 : decode cX9_trace 17 = .ok (.getfield 46, 3) := by decide +kernel
theorem dX9_trace_20 : decode cX9_trace 20 = .ok (.iload_n 1, 1) := by decide +kernel
theorem dX9_trace_21 : decode cX9_trace 21 = .ok (.iaload, 1) := by decide +kernel
theorem dX9_trace_22 : decode cX9_trace 22 = .ok (.goto 5, 3) := by decide +kernel
theorem dX9_trace_25 : decode cX9_trace 25 = .ok (.ldc 189, 2) := by decide +kernel
theorem dX9_trace_27 : decode cX9_trace 27 = .ok (.ireturn, 1) := by decide +kernel
def m_X9_trace (N : Nat) (σ : Hp) (t0 : Nat) (p1 : Int32) : Option (Int32) :=
  (rv N σ t0 9).bind fun _ =>
  (gI N σ t0 9 23).bind fun x1 =>
  (m_X9_in p1.toInt64 0 ((x1 - 1).toInt64)).bind fun r2 =>
  if r2 = 0 then
   some (-1000000)
  else
   (gR N σ t0 9 22).bind fun x4 =>
  (aI 0 N σ x4 p1).bind fun x5 =>
  some x5
set_option maxHeartbeats 4000000 in
set_option maxRecDepth 100000 in
theorem ct_X9_trace {l : Launch} {D : va_G} {cy : Nat → Nat} {N : Nat} {σ : Hp} {t0 : Nat} {p1 : Int32} {r : Int32} (h : m_X9_trace N σ t0 p1 = some r) : Ct l D cy yX9_trace cX9_trace 2 (some .int) 1 [.ref t0, .int p1] N σ (fun v s' => v = (some (.int r)) ∧ s' = σ) := by
  refine Ct.intro [some (.ref t0), some (.int p1)] (by decide) rfl (Nat.le_of_ble_eq_true rfl) ?_
  intro κ ω e1 e2 e3 e4 C Z E
  subst e1; subst e2; subst e3; subst e4
  have C : Cx κ 2 1 cX9_trace RX9 "trace" := C
  have hE : ∀ x : Int32, r = x → ((some (Value.int x)) = (some (Value.int r)) ∧ σ = σ) := fun x hx => by subst hx; exact ⟨rfl, rfl⟩
  unfold m_X9_trace at h
  obtain ⟨_, _, h⟩ := ob h
  refine x_iload_n C (i := 1) dX9_trace_0 rfl rfl ?_
  refine x_i2l C dX9_trace_1 ?_
  refine x_lconst C (v := 0) dX9_trace_2 (by decide) ?_
  refine x_aload_n C (i := 0) dX9_trace_3 rfl rfl ?_
  obtain ⟨x1, ex1, h⟩ := ob h
  refine x_getI C fl_X9_260 dX9_trace_4 ex1 ?_
  refine x_iconst C (v := 1) dX9_trace_7 (by decide) ?_
  refine x_isub C dX9_trace_8 ?_
  refine x_i2l C dX9_trace_9 ?_
  obtain ⟨r2, er2, h⟩ := ob h
  refine x_callSr C Z ms_X9_in lk_X9_56 (ct_X9_in (N := ω.1) (σ := σ) er2) (by decide) rfl rfl (Nat.le_of_ble_eq_true rfl) dX9_trace_10 ?_
  refine x_if_eq C (tgt := 25) dX9_trace_13 (by decide) (fun c3 => ?_) (fun c3 => ?_)
  · have h := ifP h c3
    refine x_ldc C kc_X9_189 dX9_trace_25 ?_
    exact x_iret C E dX9_trace_27 (hE (-1000000) (Option.some.inj h).symm)
  · have h := ifN h c3
    refine x_aload_n C (i := 0) dX9_trace_16 rfl rfl ?_
    obtain ⟨x4, ex4, h⟩ := ob h
    refine x_getR C fl_X9_46 dX9_trace_17 ex4 ?_
    refine x_iload_n C (i := 1) dX9_trace_20 rfl rfl ?_
    obtain ⟨x5, ex5, h⟩ := ob h
    refine x_iald C dX9_trace_21 ex5 ?_
    refine x_goto C (tgt := 27) dX9_trace_22 (by decide) ?_
    exact x_iret C E dX9_trace_27 (hE x5 (Option.some.inj h).symm)
theorem dX9_count_0 : decode cX9_count 0 = .ok (.iconst 0, 1) := by decide +kernel
theorem dX9_count_1 : decode cX9_count 1 = .ok (.istore_n 2, 1) := by decide +kernel
theorem dX9_count_2 : decode cX9_count 2 = .ok (.iconst 0, 1) := by decide +kernel
theorem dX9_count_3 : decode cX9_count 3 = .ok (.istore_n 3, 1) := by decide +kernel
theorem dX9_count_4 : decode cX9_count 4 = .ok (.iload_n 3, 1) := by decide +kernel
theorem dX9_count_5 : decode cX9_count 5 = .ok (.bipush 8, 2) := by decide +kernel
theorem dX9_count_7 : decode cX9_count 7 = .ok (.if_icmp .ge 26, 3) := by decide +kernel
theorem dX9_count_10 : decode cX9_count 10 = .ok (.iload_n 2, 1) := by decide +kernel
theorem dX9_count_11 : decode cX9_count 11 = .ok (.aload_n 0, 1) := by decide +kernel
theorem dX9_count_12 : decode cX9_count 12 = .ok (.getfield 13, 3) := by decide +kernel
theorem dX9_count_15 : decode cX9_count 15 = .ok (.iload_n 3, 1) := by decide +kernel
theorem dX9_count_16 : decode cX9_count 16 = .ok (.iaload, 1) := by decide +kernel
theorem dX9_count_17 : decode cX9_count 17 = .ok (.ifCond .lt 7, 3) := by decide +kernel
theorem dX9_count_20 : decode cX9_count 20 = .ok (.iconst 1, 1) := by decide +kernel
theorem dX9_count_21 : decode cX9_count 21 = .ok (.goto 4, 3) := by decide +kernel
theorem dX9_count_24 : decode cX9_count 24 = .ok (.iconst 0, 1) := by decide +kernel
theorem dX9_count_25 : decode cX9_count 25 = .ok (.iadd, 1) := by decide +kernel
theorem dX9_count_26 : decode cX9_count 26 = .ok (.istore_n 2, 1) := by decide +kernel
theorem dX9_count_27 : decode cX9_count 27 = .ok (.iinc 3 1, 3) := by decide +kernel
theorem dX9_count_30 : decode cX9_count 30 = .ok (.goto (-26), 3) := by decide +kernel
theorem dX9_count_33 : decode cX9_count 33 = .ok (.iload_n 1, 1) := by decide +kernel
theorem dX9_count_34 : decode cX9_count 34 = .ok (.ifCond .ne 7, 3) := by decide +kernel
theorem dX9_count_37 : decode cX9_count 37 = .ok (.iload_n 2, 1) := by decide +kernel
theorem dX9_count_38 : decode cX9_count 38 = .ok (.goto 103, 3) := by decide +kernel
theorem dX9_count_41 : decode cX9_count 41 = .ok (.iload_n 1, 1) := by decide +kernel
theorem dX9_count_42 : decode cX9_count 42 = .ok (.iconst 1, 1) := by decide +kernel
theorem dX9_count_43 : decode cX9_count 43 = .ok (.if_icmp .ne 12, 3) := by decide +kernel
theorem dX9_count_46 : decode cX9_count 46 = .ok (.aload_n 0, 1) := by decide +kernel
theorem dX9_count_47 : decode cX9_count 47 = .ok (.getfield 23, 3) := by decide +kernel
theorem dX9_count_50 : decode cX9_count 50 = .ok (.iconst 0, 1) := by decide +kernel
theorem dX9_count_51 : decode cX9_count 51 = .ok (.iaload, 1) := by decide +kernel
theorem dX9_count_52 : decode cX9_count 52 = .ok (.goto 89, 3) := by decide +kernel
theorem dX9_count_55 : decode cX9_count 55 = .ok (.iload_n 1, 1) := by decide +kernel
theorem dX9_count_56 : decode cX9_count 56 = .ok (.iconst 2, 1) := by decide +kernel
theorem dX9_count_57 : decode cX9_count 57 = .ok (.if_icmp .ne 12, 3) := by decide +kernel
theorem dX9_count_60 : decode cX9_count 60 = .ok (.aload_n 0, 1) := by decide +kernel
theorem dX9_count_61 : decode cX9_count 61 = .ok (.getfield 23, 3) := by decide +kernel
theorem dX9_count_64 : decode cX9_count 64 = .ok (.iconst 2, 1) := by decide +kernel
theorem dX9_count_65 : decode cX9_count 65 = .ok (.iaload, 1) := by decide +kernel
theorem dX9_count_66 : decode cX9_count 66 = .ok (.goto 75, 3) := by decide +kernel
theorem dX9_count_69 : decode cX9_count 69 = .ok (.iload_n 1, 1) := by decide +kernel
theorem dX9_count_70 : decode cX9_count 70 = .ok (.iconst 3, 1) := by decide +kernel
theorem dX9_count_71 : decode cX9_count 71 = .ok (.if_icmp .ne 12, 3) := by decide +kernel
theorem dX9_count_74 : decode cX9_count 74 = .ok (.aload_n 0, 1) := by decide +kernel
theorem dX9_count_75 : decode cX9_count 75 = .ok (.getfield 23, 3) := by decide +kernel
theorem dX9_count_78 : decode cX9_count 78 = .ok (.iconst 3, 1) := by decide +kernel
theorem dX9_count_79 : decode cX9_count 79 = .ok (.iaload, 1) := by decide +kernel
theorem dX9_count_80 : decode cX9_count 80 = .ok (.goto 61, 3) := by decide +kernel
theorem dX9_count_83 : decode cX9_count 83 = .ok (.iload_n 1, 1) := by decide +kernel
theorem dX9_count_84 : decode cX9_count 84 = .ok (.iconst 4, 1) := by decide +kernel
theorem dX9_count_85 : decode cX9_count 85 = .ok (.if_icmp .ne 12, 3) := by decide +kernel
theorem dX9_count_88 : decode cX9_count 88 = .ok (.aload_n 0, 1) := by decide +kernel
theorem dX9_count_89 : decode cX9_count 89 = .ok (.getfield 23, 3) := by decide +kernel
theorem dX9_count_92 : decode cX9_count 92 = .ok (.iconst 1, 1) := by decide +kernel
theorem dX9_count_93 : decode cX9_count 93 = .ok (.iaload, 1) := by decide +kernel
theorem dX9_count_94 : decode cX9_count 94 = .ok (.goto 47, 3) := by decide +kernel
theorem dX9_count_97 : decode cX9_count 97 = .ok (.iload_n 1, 1) := by decide +kernel
theorem dX9_count_98 : decode cX9_count 98 = .ok (.iconst 5, 1) := by decide +kernel
theorem dX9_count_99 : decode cX9_count 99 = .ok (.if_icmp .ne 10, 3) := by decide +kernel
theorem dX9_count_102 : decode cX9_count 102 = .ok (.aload_n 0, 1) := by decide +kernel
theorem dX9_count_103 : decode cX9_count 103 = .ok (.getfield 132, 3) := by decide +kernel
theorem dX9_count_106 : decode cX9_count 106 = .ok (.goto 35, 3) := by decide +kernel
theorem dX9_count_109 : decode cX9_count 109 = .ok (.iload_n 1, 1) := by decide +kernel
theorem dX9_count_110 : decode cX9_count 110 = .ok (.bipush 6, 2) := by decide +kernel
theorem dX9_count_112 : decode cX9_count 112 = .ok (.if_icmp .ne 10, 3) := by decide +kernel
theorem dX9_count_115 : decode cX9_count 115 = .ok (.aload_n 0, 1) := by decide +kernel
theorem dX9_count_116 : decode cX9_count 116 = .ok (.getfield 84, 3) := by decide +kernel
theorem dX9_count_119 : decode cX9_count 119 = .ok (.goto 22, 3) := by decide +kernel
theorem dX9_count_122 : decode cX9_count 122 = .ok (.iload_n 1, 1) := by decide +kernel
theorem dX9_count_123 : decode cX9_count 123 = .ok (.bipush 7, 2) := by decide +kernel
theorem dX9_count_125 : decode cX9_count 125 = .ok (.if_icmp .ne 14, 3) := by decide +kernel
theorem dX9_count_128 : decode cX9_count 128 = .ok (.aload_n 0, 1) := by decide +kernel
theorem dX9_count_129 : decode cX9_count 129 = .ok (.aload_n 0, 1) := by decide +kernel
theorem dX9_count_130 : decode cX9_count 130 = .ok (.invokevirtual 169, 3) := by decide +kernel
theorem dX9_count_133 : decode cX9_count 133 = .ok (.invokevirtual 222, 3) := by decide +kernel
theorem dX9_count_136 : decode cX9_count 136 = .ok (.goto 5, 3) := by decide +kernel
theorem dX9_count_139 : decode cX9_count 139 = .ok (.ldc 66, 2) := by decide +kernel
theorem dX9_count_141 : decode cX9_count 141 = .ok (.ireturn, 1) := by decide +kernel
def L_X9_count_4 (N : Nat) (σ : Hp) (v0 : Nat) (v1 : Int32) : Nat → Int32 → Int32 → Option (Int32)
  | 0, _, _ => none
  | n + 1, v2, v3 =>
  if 8 ≤ v3 then
   some v2
  else
   (gR N σ v0 9 1).bind fun x2 =>
  (aI 0 N σ x2 v3).bind fun x3 =>
  if x3 < 0 then
   L_X9_count_4 N σ v0 v1 n (v2 + 0) (v3 + 1)
  else
   L_X9_count_4 N σ v0 v1 n (v2 + 1) (v3 + 1)
def m_X9_count (N : Nat) (σ : Hp) (t0 : Nat) (p1 : Int32) : Option (Int32) :=
  (rv N σ t0 9).bind fun _ =>
  (L_X9_count_4 N σ t0 p1 fu 0 0).bind fun z5 =>
  if p1 = 0 then
   some z5
  else
   if p1 = 1 then
   (gR N σ t0 9 10).bind fun x24 =>
  (aI 0 N σ x24 0).bind fun x25 =>
  some x25
  else
   if p1 = 2 then
   (gR N σ t0 9 10).bind fun x22 =>
  (aI 0 N σ x22 2).bind fun x23 =>
  some x23
  else
   if p1 = 3 then
   (gR N σ t0 9 10).bind fun x20 =>
  (aI 0 N σ x20 3).bind fun x21 =>
  some x21
  else
   if p1 = 4 then
   (gR N σ t0 9 10).bind fun x18 =>
  (aI 0 N σ x18 1).bind fun x19 =>
  some x19
  else
   if p1 = 5 then
   (gI N σ t0 9 11).bind fun x17 =>
  some x17
  else
   if p1 = 6 then
   (gI N σ t0 9 4).bind fun x16 =>
  some x16
  else
   if p1 = 7 then
   (m_X9_state N σ t0).bind fun r14 =>
  (m_X9_codeOf N σ t0 r14).bind fun r15 =>
  some r15
  else
   some (-1000001)
set_option maxHeartbeats 4000000 in
set_option maxRecDepth 100000 in
theorem lp_X9_count_4 {κ : Kx} {ω : Om} (C : Cx κ 4 2 cX9_count RX9 "count") (Z : Zx κ ω) (σ : Hp) (v0 : Nat) (v1 : Int32) {r : Int32} (hk : X κ 4 ω 33 [some (.ref v0), some (.int v1), some (.int r), none] [] σ) : ∀ (n : Nat) (v2 : Int32) (v3 : Int32), L_X9_count_4 ω.1 σ v0 v1 n v2 v3 = some r → X κ 4 ω 4 [some (.ref v0), some (.int v1), some (.int v2), some (.int v3)] [] σ := by
  intro n
  induction n with
  | zero => intro v2 v3 h; cases h
  | succ n ih =>
    intro v2 v3 h
    rw [L_X9_count_4.eq_2] at h
    refine x_iload_n C (i := 3) dX9_count_4 rfl rfl ?_
    refine x_bipush C (v := 8) dX9_count_5 (by decide) ?_
    refine x_icmp_ge C (tgt := 33) dX9_count_7 (by decide) (fun c1 => ?_) (fun c1 => ?_)
    · have h := ifP h c1
      refine x_wk [true, true, true, false] (lo' := [some (.ref v0), some (.int v1), some (.int v2), none]) rfl ?_
      obtain rfl := Option.some.inj h
      exact hk
    · have h := ifN h c1
      refine x_iload_n C (i := 2) dX9_count_10 rfl rfl ?_
      refine x_aload_n C (i := 0) dX9_count_11 rfl rfl ?_
      obtain ⟨x2, ex2, h⟩ := ob h
      refine x_getR C fl_X9_13 dX9_count_12 ex2 ?_
      refine x_iload_n C (i := 3) dX9_count_15 rfl rfl ?_
      obtain ⟨x3, ex3, h⟩ := ob h
      refine x_iald C dX9_count_16 ex3 ?_
      refine x_if_lt C (tgt := 24) dX9_count_17 (by decide) (fun c4 => ?_) (fun c4 => ?_)
      · have h := ifP h c4
        refine x_iconst C (v := 0) dX9_count_24 (by decide) ?_
        refine x_iadd C dX9_count_25 ?_
        refine x_istore_n C (i := 2) (lo' := [some (.ref v0), some (.int v1), some (.int (v2 + 0)), some (.int v3)]) dX9_count_26 rfl (by decide) rfl rfl ?_
        refine x_iinc C (i := 3) (y := v3 + 1) (lo' := [some (.ref v0), some (.int v1), some (.int (v2 + 0)), some (.int (v3 + 1))]) dX9_count_27 rfl rfl (by decide) rfl rfl ?_
        refine x_goto C (tgt := 4) dX9_count_30 (by decide) ?_
        refine x_wk [true, true, true, true] (lo' := [some (.ref v0), some (.int v1), some (.int (v2 + 0)), some (.int (v3 + 1))]) rfl ?_
        exact ih (v2 + 0) (v3 + 1) h
      · have h := ifN h c4
        refine x_iconst C (v := 1) dX9_count_20 (by decide) ?_
        refine x_goto C (tgt := 25) dX9_count_21 (by decide) ?_
        refine x_iadd C dX9_count_25 ?_
        refine x_istore_n C (i := 2) (lo' := [some (.ref v0), some (.int v1), some (.int (v2 + 1)), some (.int v3)]) dX9_count_26 rfl (by decide) rfl rfl ?_
        refine x_iinc C (i := 3) (y := v3 + 1) (lo' := [some (.ref v0), some (.int v1), some (.int (v2 + 1)), some (.int (v3 + 1))]) dX9_count_27 rfl rfl (by decide) rfl rfl ?_
        refine x_goto C (tgt := 4) dX9_count_30 (by decide) ?_
        refine x_wk [true, true, true, true] (lo' := [some (.ref v0), some (.int v1), some (.int (v2 + 1)), some (.int (v3 + 1))]) rfl ?_
        exact ih (v2 + 1) (v3 + 1) h
set_option maxHeartbeats 4000000 in
set_option maxRecDepth 100000 in
theorem ct_X9_count {l : Launch} {D : va_G} {cy : Nat → Nat} {N : Nat} {σ : Hp} {t0 : Nat} {p1 : Int32} {r : Int32} (h : m_X9_count N σ t0 p1 = some r) : Ct l D cy yX9_count cX9_count 4 (some .int) 2 [.ref t0, .int p1] N σ (fun v s' => v = (some (.int r)) ∧ s' = σ) := by
  refine Ct.intro [some (.ref t0), some (.int p1), none, none] (by decide) rfl (Nat.le_of_ble_eq_true rfl) ?_
  intro κ ω e1 e2 e3 e4 C Z E
  subst e1; subst e2; subst e3; subst e4
  have C : Cx κ 4 2 cX9_count RX9 "count" := C
  have hE : ∀ x : Int32, r = x → ((some (Value.int x)) = (some (Value.int r)) ∧ σ = σ) := fun x hx => by subst hx; exact ⟨rfl, rfl⟩
  unfold m_X9_count at h
  obtain ⟨_, _, h⟩ := ob h
  refine x_iconst C (v := 0) dX9_count_0 (by decide) ?_
  refine x_istore_n C (i := 2) (lo' := [some (.ref t0), some (.int p1), some (.int 0), none]) dX9_count_1 rfl (by decide) rfl rfl ?_
  refine x_iconst C (v := 0) dX9_count_2 (by decide) ?_
  refine x_istore_n C (i := 3) (lo' := [some (.ref t0), some (.int p1), some (.int 0), some (.int 0)]) dX9_count_3 rfl (by decide) rfl rfl ?_
  obtain ⟨z5, ez5, h⟩ := ob h
  refine x_wk [true, true, true, true] (lo' := [some (.ref t0), some (.int p1), some (.int 0), some (.int 0)]) rfl ?_
  refine lp_X9_count_4 C Z σ t0 p1 ?_ _ 0 0 ez5
  refine x_iload_n C (i := 1) dX9_count_33 rfl rfl ?_
  refine x_if_ne C (tgt := 41) dX9_count_34 (by decide) (fun c6 => ?_) (fun c6 => ?_)
  · have h := ifN h c6
    refine x_iload_n C (i := 1) dX9_count_41 rfl rfl ?_
    refine x_iconst C (v := 1) dX9_count_42 (by decide) ?_
    refine x_icmp_ne C (tgt := 55) dX9_count_43 (by decide) (fun c7 => ?_) (fun c7 => ?_)
    · have h := ifN h c7
      refine x_iload_n C (i := 1) dX9_count_55 rfl rfl ?_
      refine x_iconst C (v := 2) dX9_count_56 (by decide) ?_
      refine x_icmp_ne C (tgt := 69) dX9_count_57 (by decide) (fun c8 => ?_) (fun c8 => ?_)
      · have h := ifN h c8
        refine x_iload_n C (i := 1) dX9_count_69 rfl rfl ?_
        refine x_iconst C (v := 3) dX9_count_70 (by decide) ?_
        refine x_icmp_ne C (tgt := 83) dX9_count_71 (by decide) (fun c9 => ?_) (fun c9 => ?_)
        · have h := ifN h c9
          refine x_iload_n C (i := 1) dX9_count_83 rfl rfl ?_
          refine x_iconst C (v := 4) dX9_count_84 (by decide) ?_
          refine x_icmp_ne C (tgt := 97) dX9_count_85 (by decide) (fun c10 => ?_) (fun c10 => ?_)
          · have h := ifN h c10
            refine x_iload_n C (i := 1) dX9_count_97 rfl rfl ?_
            refine x_iconst C (v := 5) dX9_count_98 (by decide) ?_
            refine x_icmp_ne C (tgt := 109) dX9_count_99 (by decide) (fun c11 => ?_) (fun c11 => ?_)
            · have h := ifN h c11
              refine x_iload_n C (i := 1) dX9_count_109 rfl rfl ?_
              refine x_bipush C (v := 6) dX9_count_110 (by decide) ?_
              refine x_icmp_ne C (tgt := 122) dX9_count_112 (by decide) (fun c12 => ?_) (fun c12 => ?_)
              · have h := ifN h c12
                refine x_iload_n C (i := 1) dX9_count_122 rfl rfl ?_
                refine x_bipush C (v := 7) dX9_count_123 (by decide) ?_
                refine x_icmp_ne C (tgt := 139) dX9_count_125 (by decide) (fun c13 => ?_) (fun c13 => ?_)
                · have h := ifN h c13
                  refine x_ldc C kc_X9_66 dX9_count_139 ?_
                  exact x_iret C E dX9_count_141 (hE (-1000001) (Option.some.inj h).symm)
                · have h := ifP h c13
                  refine x_aload_n C (i := 0) dX9_count_128 rfl rfl ?_
                  refine x_aload_n C (i := 0) dX9_count_129 rfl rfl ?_
                  obtain ⟨r14, er14, h⟩ := ob h
                  refine x_callVr C Z mv_X9_state lk_X9_169 (rv_h er14) (ct_X9_state er14) (by decide) rfl rfl (Nat.le_of_ble_eq_true rfl) dX9_count_130 ?_
                  obtain ⟨r15, er15, h⟩ := ob h
                  refine x_callVr C Z mv_X9_codeOf lk_X9_222 (rv_h er15) (ct_X9_codeOf er15) (by decide) rfl rfl (Nat.le_of_ble_eq_true rfl) dX9_count_133 ?_
                  refine x_goto C (tgt := 141) dX9_count_136 (by decide) ?_
                  exact x_iret C E dX9_count_141 (hE r15 (Option.some.inj h).symm)
              · have h := ifP h c12
                refine x_aload_n C (i := 0) dX9_count_115 rfl rfl ?_
                obtain ⟨x16, ex16, h⟩ := ob h
                refine x_getI C fl_X9_84 dX9_count_116 ex16 ?_
                refine x_goto C (tgt := 141) dX9_count_119 (by decide) ?_
                exact x_iret C E dX9_count_141 (hE x16 (Option.some.inj h).symm)
            · have h := ifP h c11
              refine x_aload_n C (i := 0) dX9_count_102 rfl rfl ?_
              obtain ⟨x17, ex17, h⟩ := ob h
              refine x_getI C fl_X9_132 dX9_count_103 ex17 ?_
              refine x_goto C (tgt := 141) dX9_count_106 (by decide) ?_
              exact x_iret C E dX9_count_141 (hE x17 (Option.some.inj h).symm)
          · have h := ifP h c10
            refine x_aload_n C (i := 0) dX9_count_88 rfl rfl ?_
            obtain ⟨x18, ex18, h⟩ := ob h
            refine x_getR C fl_X9_23 dX9_count_89 ex18 ?_
            refine x_iconst C (v := 1) dX9_count_92 (by decide) ?_
            obtain ⟨x19, ex19, h⟩ := ob h
            refine x_iald C dX9_count_93 ex19 ?_
            refine x_goto C (tgt := 141) dX9_count_94 (by decide) ?_
            exact x_iret C E dX9_count_141 (hE x19 (Option.some.inj h).symm)
        · have h := ifP h c9
          refine x_aload_n C (i := 0) dX9_count_74 rfl rfl ?_
          obtain ⟨x20, ex20, h⟩ := ob h
          refine x_getR C fl_X9_23 dX9_count_75 ex20 ?_
          refine x_iconst C (v := 3) dX9_count_78 (by decide) ?_
          obtain ⟨x21, ex21, h⟩ := ob h
          refine x_iald C dX9_count_79 ex21 ?_
          refine x_goto C (tgt := 141) dX9_count_80 (by decide) ?_
          exact x_iret C E dX9_count_141 (hE x21 (Option.some.inj h).symm)
      · have h := ifP h c8
        refine x_aload_n C (i := 0) dX9_count_60 rfl rfl ?_
        obtain ⟨x22, ex22, h⟩ := ob h
        refine x_getR C fl_X9_23 dX9_count_61 ex22 ?_
        refine x_iconst C (v := 2) dX9_count_64 (by decide) ?_
        obtain ⟨x23, ex23, h⟩ := ob h
        refine x_iald C dX9_count_65 ex23 ?_
        refine x_goto C (tgt := 141) dX9_count_66 (by decide) ?_
        exact x_iret C E dX9_count_141 (hE x23 (Option.some.inj h).symm)
    · have h := ifP h c7
      refine x_aload_n C (i := 0) dX9_count_46 rfl rfl ?_
      obtain ⟨x24, ex24, h⟩ := ob h
      refine x_getR C fl_X9_23 dX9_count_47 ex24 ?_
      refine x_iconst C (v := 0) dX9_count_50 (by decide) ?_
      obtain ⟨x25, ex25, h⟩ := ob h
      refine x_iald C dX9_count_51 ex25 ?_
      refine x_goto C (tgt := 141) dX9_count_52 (by decide) ?_
      exact x_iret C E dX9_count_141 (hE x25 (Option.some.inj h).symm)
  · have h := ifP h c6
    refine x_iload_n C (i := 2) dX9_count_37 rfl rfl ?_
    refine x_goto C (tgt := 141) dX9_count_38 (by decide) ?_
    exact x_iret C E dX9_count_141 (hE z5 (Option.some.inj h).symm)
theorem dX9_status_0 : decode cX9_status 0 = .ok (.aload_n 0, 1) := by decide +kernel
theorem dX9_status_1 : decode cX9_status 1 = .ok (.getfield 49, 3) := by decide +kernel
theorem dX9_status_4 : decode cX9_status 4 = .ok (.ireturn, 1) := by decide +kernel
def m_X9_status (N : Nat) (σ : Hp) (t0 : Nat) : Option (Int32) :=
  (rv N σ t0 9).bind fun _ =>
  (gI N σ t0 9 3).bind fun x1 =>
  some x1
set_option maxHeartbeats 4000000 in
set_option maxRecDepth 100000 in
theorem ct_X9_status {l : Launch} {D : va_G} {cy : Nat → Nat} {N : Nat} {σ : Hp} {t0 : Nat} {r : Int32} (h : m_X9_status N σ t0 = some r) : Ct l D cy yX9_status cX9_status 1 (some .int) 0 [.ref t0] N σ (fun v s' => v = (some (.int r)) ∧ s' = σ) := by
  refine Ct.intro [some (.ref t0)] (by decide) rfl (Nat.le_of_ble_eq_true rfl) ?_
  intro κ ω e1 e2 e3 e4 C Z E
  subst e1; subst e2; subst e3; subst e4
  have C : Cx κ 1 0 cX9_status RX9 "status" := C
  have hE : ∀ x : Int32, r = x → ((some (Value.int x)) = (some (Value.int r)) ∧ σ = σ) := fun x hx => by subst hx; exact ⟨rfl, rfl⟩
  unfold m_X9_status at h
  obtain ⟨_, _, h⟩ := ob h
  refine x_aload_n C (i := 0) dX9_status_0 rfl rfl ?_
  obtain ⟨x1, ex1, h⟩ := ob h
  refine x_getI C fl_X9_49 dX9_status_1 ex1 ?_
  exact x_iret C E dX9_status_4 (hE x1 (Option.some.inj h).symm)
