theorem dX8_drawn_0 : decode cX8_drawn 0 = .ok (.aload_n 0, 1) := by decide +kernel
theorem dX8_drawn_1 : decode cX8_drawn 1 = .ok (.getfield 25, 3) := by decide +kernel
theorem dX8_drawn_4 : decode cX8_drawn 4 = .ok (.invokevirtual 156, 3) := by decide +kernel
theorem dX8_drawn_7 : decode cX8_drawn 7 = .ok (.ifCond .eq 6, 3) := by decide +kernel
theorem dX8_drawn_10 : decode cX8_drawn 10 = .ok (.ldc 133, 2) := by decide +kernel
theorem dX8_drawn_12 : decode cX8_drawn 12 = .ok (.ireturn, 1) := by decide +kernel
theorem dX8_drawn_13 : decode cX8_drawn 13 = .ok (.iload_n 1, 1) := by decide +kernel
theorem dX8_drawn_14 : decode cX8_drawn 14 = .ok (.ifCond .lt 29, 3) := by decide +kernel
theorem dX8_drawn_17 : decode cX8_drawn 17 = .ok (.iload_n 1, 1) := by decide +kernel
theorem dX8_drawn_18 : decode cX8_drawn 18 = .ok (.bipush 60, 2) := by decide +kernel
theorem dX8_drawn_20 : decode cX8_drawn 20 = .ok (.if_icmp .gt 23, 3) := by decide +kernel
theorem dX8_drawn_23 : decode cX8_drawn 23 = .ok (.iload_n 2, 1) := by decide +kernel
theorem dX8_drawn_24 : decode cX8_drawn 24 = .ok (.iconst 1, 1) := by decide +kernel
theorem dX8_drawn_25 : decode cX8_drawn 25 = .ok (.if_icmp .lt 18, 3) := by decide +kernel
theorem dX8_drawn_28 : decode cX8_drawn 28 = .ok (.iload_n 2, 1) := by decide +kernel
theorem dX8_drawn_29 : decode cX8_drawn 29 = .ok (.ldc 248, 2) := by decide +kernel
theorem dX8_drawn_31 : decode cX8_drawn 31 = .ok (.if_icmp .gt 12, 3) := by decide +kernel
theorem dX8_drawn_34 : decode cX8_drawn 34 = .ok (.iload_n 3, 1) := by decide +kernel
theorem dX8_drawn_35 : decode cX8_drawn 35 = .ok (.ifCond .lt 8, 3) := by decide +kernel
theorem dX8_drawn_38 : decode cX8_drawn 38 = .ok (.iload_n 3, 1) := by decide +kernel
theorem dX8_drawn_39 : decode cX8_drawn 39 = .ok (.iconst 1, 1) := by decide +kernel
theorem dX8_drawn_40 : decode cX8_drawn 40 = .ok (.if_icmp .le 6, 3) := by decide +kernel
theorem dX8_drawn_43 : decode cX8_drawn 43 = .ok (.ldc 55, 2) := by decide +kernel
theorem dX8_drawn_45 : decode cX8_drawn 45 = .ok (.ireturn, 1) := by decide +kernel
theorem dX8_drawn_46 : decode cX8_drawn 46 = .ok (.aload_n 0, 1) := by decide +kernel
theorem dX8_drawn_47 : decode cX8_drawn 47 = .ok (.getfield 29, 3) := by decide +kernel
theorem dX8_drawn_50 : decode cX8_drawn 50 = .ok (.aload_n 0, 1) := by decide +kernel
theorem dX8_drawn_51 : decode cX8_drawn 51 = .ok (.getfield 25, 3) := by decide +kernel
theorem dX8_drawn_54 : decode cX8_drawn 54 = .ok (.invokevirtual 118, 3) := by decide +kernel
theorem dX8_drawn_57 : decode cX8_drawn 57 = .ok (.aload_n 0, 1) := by decide +kernel
theorem dX8_drawn_58 : decode cX8_drawn 58 = .ok (.getfield 29, 3) := by decide +kernel
theorem dX8_drawn_61 : decode cX8_drawn 61 = .ok (.iload_n 1, 1) := by decide +kernel
theorem dX8_drawn_62 : decode cX8_drawn 62 = .ok (.iload_n 2, 1) := by decide +kernel
theorem dX8_drawn_63 : decode cX8_drawn 63 = .ok (.invokevirtual 249, 3) := by decide +kernel
theorem dX8_drawn_66 : decode cX8_drawn 66 = .ok (.istore 4, 2) := by decide +kernel
theorem dX8_drawn_68 : decode cX8_drawn 68 = .ok (.iload_n 3, 1) := by decide +kernel
theorem dX8_drawn_69 : decode cX8_drawn 69 = .ok (.ifCond .ne 20, 3) := by decide +kernel
theorem dX8_drawn_72 : decode cX8_drawn 72 = .ok (.aload_n 0, 1) := by decide +kernel
theorem dX8_drawn_73 : decode cX8_drawn 73 = .ok (.getfield 29, 3) := by decide +kernel
theorem dX8_drawn_76 : decode cX8_drawn 76 = .ok (.aload_n 0, 1) := by decide +kernel
theorem dX8_drawn_77 : decode cX8_drawn 77 = .ok (.getfield 29, 3) := by decide +kernel
theorem dX8_drawn_80 : decode cX8_drawn 80 = .ok (.getfield 252, 3) := by decide +kernel
theorem dX8_drawn_83 : decode cX8_drawn 83 = .ok (.invokevirtual 205, 3) := by decide +kernel
theorem dX8_drawn_86 : decode cX8_drawn 86 = .ok (.goto 5, 3) := by decide +kernel
theorem dX8_drawn_89 : decode cX8_drawn 89 = .ok (.iload 4, 2) := by decide +kernel
theorem dX8_drawn_91 : decode cX8_drawn 91 = .ok (.ireturn, 1) := by decide +kernel
def m_X8_drawn (N : Nat) (σ : Hp) (t0 : Nat) (p1 : Int32) (p2 : Int32) (p3 : Int32) : Option (Int32 × Hp) :=
  (rv N σ t0 8).bind fun _ =>
  (gR N σ t0 8 2).bind fun x1 =>
  (m_X2_isNone N σ x1).bind fun r2 =>
  if r2 = 0 then
   if p1 < 0 then
   some ((-1000001), σ)
  else
   if 60 < p1 then
   some ((-1000001), σ)
  else
   if p2 < 1 then
   some ((-1000001), σ)
  else
   if 999999 < p2 then
   some ((-1000001), σ)
  else
   if p3 < 0 then
   some ((-1000001), σ)
  else
   if p3 ≤ 1 then
   (gR N σ t0 8 3).bind fun x10 =>
  (gR N σ t0 8 2).bind fun x11 =>
  (m_X2_take N σ x10 x11).bind fun r12 =>
  (gR N r12 t0 8 3).bind fun x13 =>
  (m_X2_spendEvening N r12 x13 p1 p2).bind fun r14 =>
  if p3 = 0 then
   (gR N r14.2 t0 8 3).bind fun x16 =>
  (gR N r14.2 t0 8 3).bind fun x17 =>
  (gI N r14.2 x17 2 5).bind fun x18 =>
  (m_X2_codeOf N r14.2 x16 x18).bind fun r19 =>
  some (r19, r14.2)
  else
   some (r14.1, r14.2)
  else
   some ((-1000001), σ)
  else
   some ((-1000002), σ)
set_option maxHeartbeats 4000000 in
set_option maxRecDepth 100000 in
theorem ct_X8_drawn {l : Launch} {D : va_G} {cy : Nat → Nat} {N : Nat} {σ : Hp} {t0 : Nat} {p1 : Int32} {p2 : Int32} {p3 : Int32} {r : Int32 × Hp} (h : m_X8_drawn N σ t0 p1 p2 p3 = some r) : Ct l D cy yX8_drawn cX8_drawn 5 (some .int) 5 [.ref t0, .int p1, .int p2, .int p3] N σ (fun v s' => v = (some (.int r.1)) ∧ s' = r.2) := by
  refine Ct.intro [some (.ref t0), some (.int p1), some (.int p2), some (.int p3), none] (by decide) rfl (Nat.le_of_ble_eq_true rfl) ?_
  intro κ ω e1 e2 e3 e4 C Z E
  subst e1; subst e2; subst e3; subst e4
  have C : Cx κ 5 5 cX8_drawn RX8 "drawn" := C
  have hE : ∀ x : Int32 × Hp, r = x → ((some (Value.int x.1)) = (some (Value.int r.1)) ∧ x.2 = r.2) := fun x hx => by subst hx; exact ⟨rfl, rfl⟩
  unfold m_X8_drawn at h
  obtain ⟨_, _, h⟩ := ob h
  refine x_aload_n C (i := 0) dX8_drawn_0 rfl rfl ?_
  obtain ⟨x1, ex1, h⟩ := ob h
  refine x_getR C fl_X8_25 dX8_drawn_1 ex1 ?_
  obtain ⟨r2, er2, h⟩ := ob h
  refine x_callVr C Z mv_X2_isNone lk_X8_156 (rv_h er2) (ct_X2_isNone er2) (by decide) rfl rfl (Nat.le_of_ble_eq_true rfl) dX8_drawn_4 ?_
  refine x_if_eq C (tgt := 13) dX8_drawn_7 (by decide) (fun c3 => ?_) (fun c3 => ?_)
  · have h := ifP h c3
    refine x_iload_n C (i := 1) dX8_drawn_13 rfl rfl ?_
    refine x_if_lt C (tgt := 43) dX8_drawn_14 (by decide) (fun c4 => ?_) (fun c4 => ?_)
    · have h := ifP h c4
      refine x_ldc C kc_X8_55 dX8_drawn_43 ?_
      exact x_iret C E dX8_drawn_45 (hE ((-1000001), σ) (Option.some.inj h).symm)
    · have h := ifN h c4
      refine x_iload_n C (i := 1) dX8_drawn_17 rfl rfl ?_
      refine x_bipush C (v := 60) dX8_drawn_18 (by decide) ?_
      refine x_icmp_gt C (tgt := 43) dX8_drawn_20 (by decide) (fun c5 => ?_) (fun c5 => ?_)
      · have h := ifP h c5
        refine x_ldc C kc_X8_55 dX8_drawn_43 ?_
        exact x_iret C E dX8_drawn_45 (hE ((-1000001), σ) (Option.some.inj h).symm)
      · have h := ifN h c5
        refine x_iload_n C (i := 2) dX8_drawn_23 rfl rfl ?_
        refine x_iconst C (v := 1) dX8_drawn_24 (by decide) ?_
        refine x_icmp_lt C (tgt := 43) dX8_drawn_25 (by decide) (fun c6 => ?_) (fun c6 => ?_)
        · have h := ifP h c6
          refine x_ldc C kc_X8_55 dX8_drawn_43 ?_
          exact x_iret C E dX8_drawn_45 (hE ((-1000001), σ) (Option.some.inj h).symm)
        · have h := ifN h c6
          refine x_iload_n C (i := 2) dX8_drawn_28 rfl rfl ?_
          refine x_ldc C kc_X8_248 dX8_drawn_29 ?_
          refine x_icmp_gt C (tgt := 43) dX8_drawn_31 (by decide) (fun c7 => ?_) (fun c7 => ?_)
          · have h := ifP h c7
            refine x_ldc C kc_X8_55 dX8_drawn_43 ?_
            exact x_iret C E dX8_drawn_45 (hE ((-1000001), σ) (Option.some.inj h).symm)
          · have h := ifN h c7
            refine x_iload_n C (i := 3) dX8_drawn_34 rfl rfl ?_
            refine x_if_lt C (tgt := 43) dX8_drawn_35 (by decide) (fun c8 => ?_) (fun c8 => ?_)
            · have h := ifP h c8
              refine x_ldc C kc_X8_55 dX8_drawn_43 ?_
              exact x_iret C E dX8_drawn_45 (hE ((-1000001), σ) (Option.some.inj h).symm)
            · have h := ifN h c8
              refine x_iload_n C (i := 3) dX8_drawn_38 rfl rfl ?_
              refine x_iconst C (v := 1) dX8_drawn_39 (by decide) ?_
              refine x_icmp_le C (tgt := 46) dX8_drawn_40 (by decide) (fun c9 => ?_) (fun c9 => ?_)
              · have h := ifP h c9
                refine x_aload_n C (i := 0) dX8_drawn_46 rfl rfl ?_
                obtain ⟨x10, ex10, h⟩ := ob h
                refine x_getR C fl_X8_29 dX8_drawn_47 ex10 ?_
                refine x_aload_n C (i := 0) dX8_drawn_50 rfl rfl ?_
                obtain ⟨x11, ex11, h⟩ := ob h
                refine x_getR C fl_X8_25 dX8_drawn_51 ex11 ?_
                obtain ⟨r12, er12, h⟩ := ob h
                refine x_callVn C Z mv_X2_take lk_X8_118 (rv_h er12) (ct_X2_take er12) (by decide) rfl rfl (Nat.le_of_ble_eq_true rfl) dX8_drawn_54 ?_
                refine x_aload_n C (i := 0) dX8_drawn_57 rfl rfl ?_
                obtain ⟨x13, ex13, h⟩ := ob h
                refine x_getR C fl_X8_29 dX8_drawn_58 ex13 ?_
                refine x_iload_n C (i := 1) dX8_drawn_61 rfl rfl ?_
                refine x_iload_n C (i := 2) dX8_drawn_62 rfl rfl ?_
                obtain ⟨r14, er14, h⟩ := ob h
                refine x_callVr C Z mv_X2_spendEvening lk_X8_249 (rv_h er14) (ct_X2_spendEvening er14) (by decide) rfl rfl (Nat.le_of_ble_eq_true rfl) dX8_drawn_63 ?_
                refine x_istore C (i := 4) (lo' := [some (.ref t0), some (.int p1), some (.int p2), some (.int p3), some (.int r14.1)]) dX8_drawn_66 (by decide) rfl rfl ?_
                refine x_iload_n C (i := 3) dX8_drawn_68 rfl rfl ?_
                refine x_if_ne C (tgt := 89) dX8_drawn_69 (by decide) (fun c15 => ?_) (fun c15 => ?_)
                · have h := ifN h c15
                  refine x_iload C (i := 4) dX8_drawn_89 rfl ?_
                  exact x_iret C E dX8_drawn_91 (hE (r14.1, r14.2) (Option.some.inj h).symm)
                · have h := ifP h c15
                  refine x_aload_n C (i := 0) dX8_drawn_72 rfl rfl ?_
                  obtain ⟨x16, ex16, h⟩ := ob h
                  refine x_getR C fl_X8_29 dX8_drawn_73 ex16 ?_
                  refine x_aload_n C (i := 0) dX8_drawn_76 rfl rfl ?_
                  obtain ⟨x17, ex17, h⟩ := ob h
                  refine x_getR C fl_X8_29 dX8_drawn_77 ex17 ?_
                  obtain ⟨x18, ex18, h⟩ := ob h
                  refine x_getI C fl_X8_252 dX8_drawn_80 ex18 ?_
                  obtain ⟨r19, er19, h⟩ := ob h
                  refine x_callVr C Z mv_X2_codeOf lk_X8_205 (rv_h er19) (ct_X2_codeOf er19) (by decide) rfl rfl (Nat.le_of_ble_eq_true rfl) dX8_drawn_83 ?_
                  refine x_goto C (tgt := 91) dX8_drawn_86 (by decide) ?_
                  exact x_iret C E dX8_drawn_91 (hE (r19, r14.2) (Option.some.inj h).symm)
              · have h := ifN h c9
                refine x_ldc C kc_X8_55 dX8_drawn_43 ?_
                exact x_iret C E dX8_drawn_45 (hE ((-1000001), σ) (Option.some.inj h).symm)
  · have h := ifN h c3
    refine x_ldc C kc_X8_133 dX8_drawn_10 ?_
    exact x_iret C E dX8_drawn_12 (hE ((-1000002), σ) (Option.some.inj h).symm)
theorem dX8_image_0 : decode cX8_image 0 = .ok (.iload_n 1, 1) := by decide +kernel
theorem dX8_image_1 : decode cX8_image 1 = .ok (.ifCond .lt 8, 3) := by decide +kernel
theorem dX8_image_4 : decode cX8_image 4 = .ok (.iload_n 1, 1) := by decide +kernel
theorem dX8_image_5 : decode cX8_image 5 = .ok (.iconst 2, 1) := by decide +kernel
theorem dX8_image_6 : decode cX8_image 6 = .ok (.if_icmp .lt 6, 3) := by decide +kernel
theorem dX8_image_9 : decode cX8_image 9 = .ok (.ldc 55, 2) := by decide +kernel
theorem dX8_image_11 : decode cX8_image 11 = .ok (.ireturn, 1) := by decide +kernel
theorem dX8_image_12 : decode cX8_image 12 = .ok (.aload_n 0, 1) := by decide +kernel
theorem dX8_image_13 : decode cX8_image 13 = .ok (.getfield 25, 3) := by decide +kernel
theorem dX8_image_16 : decode cX8_image 16 = .ok (.invokevirtual 156, 3) := by decide +kernel
theorem dX8_image_19 : decode cX8_image 19 = .ok (.ifCond .eq 6, 3) := by decide +kernel
theorem dX8_image_22 : decode cX8_image 22 = .ok (.ldc 133, 2) := by decide +kernel
theorem dX8_image_24 : decode cX8_image 24 = .ok (.ireturn, 1) := by decide +kernel
theorem dX8_image_25 : decode cX8_image 25 = .ok (.aload_n 0, 1) := by decide +kernel
theorem dX8_image_26 : decode cX8_image 26 = .ok (.getfield 39, 3) := by decide +kernel
theorem dX8_image_29 : decode cX8_image 29 = .ok (.iload_n 1, 1) := by decide +kernel
theorem dX8_image_30 : decode cX8_image 30 = .ok (.aaload, 1) := by decide +kernel
theorem dX8_image_31 : decode cX8_image 31 = .ok (.aload_n 0, 1) := by decide +kernel
theorem dX8_image_32 : decode cX8_image 32 = .ok (.getfield 25, 3) := by decide +kernel
theorem dX8_image_35 : decode cX8_image 35 = .ok (.invokevirtual 118, 3) := by decide +kernel
theorem dX8_image_38 : decode cX8_image 38 = .ok (.iconst 1, 1) := by decide +kernel
theorem dX8_image_39 : decode cX8_image 39 = .ok (.ireturn, 1) := by decide +kernel
def m_X8_image (N : Nat) (σ : Hp) (t0 : Nat) (p1 : Int32) : Option (Int32 × Hp) :=
  (rv N σ t0 8).bind fun _ =>
  if p1 < 0 then
   some ((-1000001), σ)
  else
   if p1 < 2 then
   (gR N σ t0 8 2).bind fun x3 =>
  (m_X2_isNone N σ x3).bind fun r4 =>
  if r4 = 0 then
   (gR N σ t0 8 5).bind fun x6 =>
  (aR 4 N σ x6 p1).bind fun x7 =>
  (gR N σ t0 8 2).bind fun x8 =>
  (m_X2_take N σ x7 x8).bind fun r9 =>
  some (1, r9)
  else
   some ((-1000002), σ)
  else
   some ((-1000001), σ)
set_option maxHeartbeats 4000000 in
set_option maxRecDepth 100000 in
theorem ct_X8_image {l : Launch} {D : va_G} {cy : Nat → Nat} {N : Nat} {σ : Hp} {t0 : Nat} {p1 : Int32} {r : Int32 × Hp} (h : m_X8_image N σ t0 p1 = some r) : Ct l D cy yX8_image cX8_image 2 (some .int) 1 [.ref t0, .int p1] N σ (fun v s' => v = (some (.int r.1)) ∧ s' = r.2) := by
  refine Ct.intro [some (.ref t0), some (.int p1)] (by decide) rfl (Nat.le_of_ble_eq_true rfl) ?_
  intro κ ω e1 e2 e3 e4 C Z E
  subst e1; subst e2; subst e3; subst e4
  have C : Cx κ 2 1 cX8_image RX8 "image" := C
  have hE : ∀ x : Int32 × Hp, r = x → ((some (Value.int x.1)) = (some (Value.int r.1)) ∧ x.2 = r.2) := fun x hx => by subst hx; exact ⟨rfl, rfl⟩
  unfold m_X8_image at h
  obtain ⟨_, _, h⟩ := ob h
  refine x_iload_n C (i := 1) dX8_image_0 rfl rfl ?_
  refine x_if_lt C (tgt := 9) dX8_image_1 (by decide) (fun c1 => ?_) (fun c1 => ?_)
  · have h := ifP h c1
    refine x_ldc C kc_X8_55 dX8_image_9 ?_
    exact x_iret C E dX8_image_11 (hE ((-1000001), σ) (Option.some.inj h).symm)
  · have h := ifN h c1
    refine x_iload_n C (i := 1) dX8_image_4 rfl rfl ?_
    refine x_iconst C (v := 2) dX8_image_5 (by decide) ?_
    refine x_icmp_lt C (tgt := 12) dX8_image_6 (by decide) (fun c2 => ?_) (fun c2 => ?_)
    · have h := ifP h c2
      refine x_aload_n C (i := 0) dX8_image_12 rfl rfl ?_
      obtain ⟨x3, ex3, h⟩ := ob h
      refine x_getR C fl_X8_25 dX8_image_13 ex3 ?_
      obtain ⟨r4, er4, h⟩ := ob h
      refine x_callVr C Z mv_X2_isNone lk_X8_156 (rv_h er4) (ct_X2_isNone er4) (by decide) rfl rfl (Nat.le_of_ble_eq_true rfl) dX8_image_16 ?_
      refine x_if_eq C (tgt := 25) dX8_image_19 (by decide) (fun c5 => ?_) (fun c5 => ?_)
      · have h := ifP h c5
        refine x_aload_n C (i := 0) dX8_image_25 rfl rfl ?_
        obtain ⟨x6, ex6, h⟩ := ob h
        refine x_getR C fl_X8_39 dX8_image_26 ex6 ?_
        refine x_iload_n C (i := 1) dX8_image_29 rfl rfl ?_
        obtain ⟨x7, ex7, h⟩ := ob h
        refine x_aald4 C dX8_image_30 ex7 ?_
        refine x_aload_n C (i := 0) dX8_image_31 rfl rfl ?_
        obtain ⟨x8, ex8, h⟩ := ob h
        refine x_getR C fl_X8_25 dX8_image_32 ex8 ?_
        obtain ⟨r9, er9, h⟩ := ob h
        refine x_callVn C Z mv_X2_take lk_X8_118 (rv_h er9) (ct_X2_take er9) (by decide) rfl rfl (Nat.le_of_ble_eq_true rfl) dX8_image_35 ?_
        refine x_iconst C (v := 1) dX8_image_38 (by decide) ?_
        exact x_iret C E dX8_image_39 (hE (1, r9) (Option.some.inj h).symm)
      · have h := ifN h c5
        refine x_ldc C kc_X8_133 dX8_image_22 ?_
        exact x_iret C E dX8_image_24 (hE ((-1000002), σ) (Option.some.inj h).symm)
    · have h := ifN h c2
      refine x_ldc C kc_X8_55 dX8_image_9 ?_
      exact x_iret C E dX8_image_11 (hE ((-1000001), σ) (Option.some.inj h).symm)
theorem dX8_restore_0 : decode cX8_restore 0 = .ok (.iload_n 1, 1) := by decide +kernel
theorem dX8_restore_1 : decode cX8_restore 1 = .ok (.ifCond .lt 8, 3) := by decide +kernel
theorem dX8_restore_4 : decode cX8_restore 4 = .ok (.iload_n 1, 1) := by decide +kernel
theorem dX8_restore_5 : decode cX8_restore 5 = .ok (.iconst 2, 1) := by decide +kernel
theorem dX8_restore_6 : decode cX8_restore 6 = .ok (.if_icmp .lt 6, 3) := by decide +kernel
theorem dX8_restore_9 : decode cX8_restore 9 = .ok (.ldc 55, 2) := by decide +kernel
theorem dX8_restore_11 : decode cX8_restore 11 = .ok (.ireturn, 1) := by decide +kernel
theorem dX8_restore_12 : decode cX8_restore 12 = .ok (.aload_n 0, 1) := by decide +kernel
theorem dX8_restore_13 : decode cX8_restore 13 = .ok (.getfield 39, 3) := by decide +kernel
theorem dX8_restore_16 : decode cX8_restore 16 = .ok (.iload_n 1, 1) := by decide +kernel
theorem dX8_restore_17 : decode cX8_restore 17 = .ok (.aaload, 1) := by decide +kernel
theorem dX8_restore_18 : decode cX8_restore 18 = .ok (.invokevirtual 156, 3) := by decide +kernel
theorem dX8_restore_21 : decode cX8_restore 21 = .ok (.ifCond .eq 6, 3) := by decide +kernel
theorem dX8_restore_24 : decode cX8_restore 24 = .ok (.ldc 133, 2) := by decide +kernel
theorem dX8_restore_26 : decode cX8_restore 26 = .ok (.ireturn, 1) := by decide +kernel
theorem dX8_restore_27 : decode cX8_restore 27 = .ok (.aload_n 0, 1) := by decide +kernel
theorem dX8_restore_28 : decode cX8_restore 28 = .ok (.getfield 25, 3) := by decide +kernel
theorem dX8_restore_31 : decode cX8_restore 31 = .ok (.aload_n 0, 1) := by decide +kernel
theorem dX8_restore_32 : decode cX8_restore 32 = .ok (.getfield 39, 3) := by decide +kernel
theorem dX8_restore_35 : decode cX8_restore 35 = .ok (.iload_n 1, 1) := by decide +kernel
theorem dX8_restore_36 : decode cX8_restore 36 = .ok (.aaload, 1) := by decide +kernel
theorem dX8_restore_37 : decode cX8_restore 37 = .ok (.invokevirtual 118, 3) := by decide +kernel
theorem dX8_restore_40 : decode cX8_restore 40 = .ok (.aload_n 0, 1) := by decide +kernel
theorem dX8_restore_41 : decode cX8_restore 41 = .ok (.getfield 35, 3) := by decide +kernel
theorem dX8_restore_44 : decode cX8_restore 44 = .ok (.invokevirtual 121, 3) := by decide +kernel
theorem dX8_restore_47 : decode cX8_restore 47 = .ok (.iconst 1, 1) := by decide +kernel
theorem dX8_restore_48 : decode cX8_restore 48 = .ok (.ireturn, 1) := by decide +kernel
def m_X8_restore (N : Nat) (σ : Hp) (t0 : Nat) (p1 : Int32) : Option (Int32 × Hp) :=
  (rv N σ t0 8).bind fun _ =>
  if p1 < 0 then
   some ((-1000001), σ)
  else
   if p1 < 2 then
   (gR N σ t0 8 5).bind fun x3 =>
  (aR 4 N σ x3 p1).bind fun x4 =>
  (m_X2_isNone N σ x4).bind fun r5 =>
  if r5 = 0 then
   (gR N σ t0 8 2).bind fun x7 =>
  (gR N σ t0 8 5).bind fun x8 =>
  (aR 4 N σ x8 p1).bind fun x9 =>
  (m_X2_take N σ x7 x9).bind fun r10 =>
  (gR N r10 t0 8 4).bind fun x11 =>
  (m_X0_forget N r10 x11).bind fun r12 =>
  some (1, r12)
  else
   some ((-1000002), σ)
  else
   some ((-1000001), σ)
set_option maxHeartbeats 4000000 in
set_option maxRecDepth 100000 in
theorem ct_X8_restore {l : Launch} {D : va_G} {cy : Nat → Nat} {N : Nat} {σ : Hp} {t0 : Nat} {p1 : Int32} {r : Int32 × Hp} (h : m_X8_restore N σ t0 p1 = some r) : Ct l D cy yX8_restore cX8_restore 2 (some .int) 1 [.ref t0, .int p1] N σ (fun v s' => v = (some (.int r.1)) ∧ s' = r.2) := by
  refine Ct.intro [some (.ref t0), some (.int p1)] (by decide) rfl (Nat.le_of_ble_eq_true rfl) ?_
  intro κ ω e1 e2 e3 e4 C Z E
  subst e1; subst e2; subst e3; subst e4
  have C : Cx κ 2 1 cX8_restore RX8 "restore" := C
  have hE : ∀ x : Int32 × Hp, r = x → ((some (Value.int x.1)) = (some (Value.int r.1)) ∧ x.2 = r.2) := fun x hx => by subst hx; exact ⟨rfl, rfl⟩
  unfold m_X8_restore at h
  obtain ⟨_, _, h⟩ := ob h
  refine x_iload_n C (i := 1) dX8_restore_0 rfl rfl ?_
  refine x_if_lt C (tgt := 9) dX8_restore_1 (by decide) (fun c1 => ?_) (fun c1 => ?_)
  · have h := ifP h c1
    refine x_ldc C kc_X8_55 dX8_restore_9 ?_
    exact x_iret C E dX8_restore_11 (hE ((-1000001), σ) (Option.some.inj h).symm)
  · have h := ifN h c1
    refine x_iload_n C (i := 1) dX8_restore_4 rfl rfl ?_
    refine x_iconst C (v := 2) dX8_restore_5 (by decide) ?_
    refine x_icmp_lt C (tgt := 12) dX8_restore_6 (by decide) (fun c2 => ?_) (fun c2 => ?_)
    · have h := ifP h c2
      refine x_aload_n C (i := 0) dX8_restore_12 rfl rfl ?_
      obtain ⟨x3, ex3, h⟩ := ob h
      refine x_getR C fl_X8_39 dX8_restore_13 ex3 ?_
      refine x_iload_n C (i := 1) dX8_restore_16 rfl rfl ?_
      obtain ⟨x4, ex4, h⟩ := ob h
      refine x_aald4 C dX8_restore_17 ex4 ?_
      obtain ⟨r5, er5, h⟩ := ob h
      refine x_callVr C Z mv_X2_isNone lk_X8_156 (rv_h er5) (ct_X2_isNone er5) (by decide) rfl rfl (Nat.le_of_ble_eq_true rfl) dX8_restore_18 ?_
      refine x_if_eq C (tgt := 27) dX8_restore_21 (by decide) (fun c6 => ?_) (fun c6 => ?_)
      · have h := ifP h c6
        refine x_aload_n C (i := 0) dX8_restore_27 rfl rfl ?_
        obtain ⟨x7, ex7, h⟩ := ob h
        refine x_getR C fl_X8_25 dX8_restore_28 ex7 ?_
        refine x_aload_n C (i := 0) dX8_restore_31 rfl rfl ?_
        obtain ⟨x8, ex8, h⟩ := ob h
        refine x_getR C fl_X8_39 dX8_restore_32 ex8 ?_
        refine x_iload_n C (i := 1) dX8_restore_35 rfl rfl ?_
        obtain ⟨x9, ex9, h⟩ := ob h
        refine x_aald4 C dX8_restore_36 ex9 ?_
        obtain ⟨r10, er10, h⟩ := ob h
        refine x_callVn C Z mv_X2_take lk_X8_118 (rv_h er10) (ct_X2_take er10) (by decide) rfl rfl (Nat.le_of_ble_eq_true rfl) dX8_restore_37 ?_
        refine x_aload_n C (i := 0) dX8_restore_40 rfl rfl ?_
        obtain ⟨x11, ex11, h⟩ := ob h
        refine x_getR C fl_X8_35 dX8_restore_41 ex11 ?_
        obtain ⟨r12, er12, h⟩ := ob h
        refine x_callVn C Z mv_X0_forget lk_X8_121 (rv_h er12) (ct_X0_forget er12) (by decide) rfl rfl (Nat.le_of_ble_eq_true rfl) dX8_restore_44 ?_
        refine x_iconst C (v := 1) dX8_restore_47 (by decide) ?_
        exact x_iret C E dX8_restore_48 (hE (1, r12) (Option.some.inj h).symm)
      · have h := ifN h c6
        refine x_ldc C kc_X8_133 dX8_restore_24 ?_
        exact x_iret C E dX8_restore_26 (hE ((-1000002), σ) (Option.some.inj h).symm)
    · have h := ifN h c2
      refine x_ldc C kc_X8_55 dX8_restore_9 ?_
      exact x_iret C E dX8_restore_11 (hE ((-1000001), σ) (Option.some.inj h).symm)
theorem dX8_kind_0 : decode cX8_kind 0 = .ok (.aload_n 0, 1) := by decide +kernel
theorem dX8_kind_1 : decode cX8_kind 1 = .ok (.getfield 25, 3) := by decide +kernel
theorem dX8_kind_4 : decode cX8_kind 4 = .ok (.iload_n 1, 1) := by decide +kernel
theorem dX8_kind_5 : decode cX8_kind 5 = .ok (.invokevirtual 147, 3) := by decide +kernel
theorem dX8_kind_8 : decode cX8_kind 8 = .ok (.ifCond .eq 14, 3) := by decide +kernel
theorem dX8_kind_11 : decode cX8_kind 11 = .ok (.aload_n 0, 1) := by decide +kernel
theorem dX8_kind_12 : decode cX8_kind 12 = .ok (.getfield 25, 3) := by decide +kernel
theorem dX8_kind_15 : decode cX8_kind 15 = .ok (.iload_n 1, 1) := by decide +kernel
theorem dX8_kind_16 : decode cX8_kind 16 = .ok (.invokevirtual 255, 3) := by decide +kernel
theorem dX8_kind_19 : decode cX8_kind 19 = .ok (.goto 5, 3) := by decide +kernel
theorem dX8_kind_22 : decode cX8_kind 22 = .ok (.ldc 55, 2) := by decide +kernel
theorem dX8_kind_24 : decode cX8_kind 24 = .ok (.ireturn, 1) := by decide +kernel
def m_X8_kind (N : Nat) (σ : Hp) (t0 : Nat) (p1 : Int32) : Option (Int32) :=
  (rv N σ t0 8).bind fun _ =>
  (gR N σ t0 8 2).bind fun x1 =>
  (m_X2_hasDisc N σ x1 p1).bind fun r2 =>
  if r2 = 0 then
   some (-1000001)
  else
   (gR N σ t0 8 2).bind fun x4 =>
  (m_X2_kindOf N σ x4 p1).bind fun r5 =>
  some r5
set_option maxHeartbeats 4000000 in
set_option maxRecDepth 100000 in
theorem ct_X8_kind {l : Launch} {D : va_G} {cy : Nat → Nat} {N : Nat} {σ : Hp} {t0 : Nat} {p1 : Int32} {r : Int32} (h : m_X8_kind N σ t0 p1 = some r) : Ct l D cy yX8_kind cX8_kind 2 (some .int) 1 [.ref t0, .int p1] N σ (fun v s' => v = (some (.int r)) ∧ s' = σ) := by
  refine Ct.intro [some (.ref t0), some (.int p1)] (by decide) rfl (Nat.le_of_ble_eq_true rfl) ?_
  intro κ ω e1 e2 e3 e4 C Z E
  subst e1; subst e2; subst e3; subst e4
  have C : Cx κ 2 1 cX8_kind RX8 "kind" := C
  have hE : ∀ x : Int32, r = x → ((some (Value.int x)) = (some (Value.int r)) ∧ σ = σ) := fun x hx => by subst hx; exact ⟨rfl, rfl⟩
  unfold m_X8_kind at h
  obtain ⟨_, _, h⟩ := ob h
  refine x_aload_n C (i := 0) dX8_kind_0 rfl rfl ?_
  obtain ⟨x1, ex1, h⟩ := ob h
  refine x_getR C fl_X8_25 dX8_kind_1 ex1 ?_
  refine x_iload_n C (i := 1) dX8_kind_4 rfl rfl ?_
  obtain ⟨r2, er2, h⟩ := ob h
  refine x_callVr C Z mv_X2_hasDisc lk_X8_147 (rv_h er2) (ct_X2_hasDisc er2) (by decide) rfl rfl (Nat.le_of_ble_eq_true rfl) dX8_kind_5 ?_
  refine x_if_eq C (tgt := 22) dX8_kind_8 (by decide) (fun c3 => ?_) (fun c3 => ?_)
  · have h := ifP h c3
    refine x_ldc C kc_X8_55 dX8_kind_22 ?_
    exact x_iret C E dX8_kind_24 (hE (-1000001) (Option.some.inj h).symm)
  · have h := ifN h c3
    refine x_aload_n C (i := 0) dX8_kind_11 rfl rfl ?_
    obtain ⟨x4, ex4, h⟩ := ob h
    refine x_getR C fl_X8_25 dX8_kind_12 ex4 ?_
    refine x_iload_n C (i := 1) dX8_kind_15 rfl rfl ?_
    obtain ⟨r5, er5, h⟩ := ob h
    refine x_callVr C Z mv_X2_kindOf lk_X8_255 (rv_h er5) (ct_X2_kindOf er5) (by decide) rfl rfl (Nat.le_of_ble_eq_true rfl) dX8_kind_16 ?_
    refine x_goto C (tgt := 24) dX8_kind_19 (by decide) ?_
    exact x_iret C E dX8_kind_24 (hE r5 (Option.some.inj h).symm)
theorem dX8_ask_0 : decode cX8_ask 0 = .ok (.aload_n 0, 1) := by decide +kernel
theorem dX8_ask_1 : decode cX8_ask 1 = .ok (.getfield 25, 3) := by decide +kernel
theorem dX8_ask_4 : decode cX8_ask 4 = .ok (.iload_n 1, 1) := by decide +kernel
theorem dX8_ask_5 : decode cX8_ask 5 = .ok (.invokevirtual 147, 3) := by decide +kernel
theorem dX8_ask_8 : decode cX8_ask 8 = .ok (.ifCond .eq 12, 3) := by decide +kernel
theorem dX8_ask_11 : decode cX8_ask 11 = .ok (.iload_n 2, 1) := by decide +kernel
theorem dX8_ask_12 : decode cX8_ask 12 = .ok (.ifCond .lt 8, 3) := by decide +kernel
theorem dX8_ask_15 : decode cX8_ask 15 = .ok (.iload_n 2, 1) := by decide +kernel
theorem dX8_ask_16 : decode cX8_ask 16 = .ok (.iconst 1, 1) := by decide +kernel
theorem dX8_ask_17 : decode cX8_ask 17 = .ok (.if_icmp .le 6, 3) := by decide +kernel
theorem dX8_ask_20 : decode cX8_ask 20 = .ok (.ldc 55, 2) := by decide +kernel
theorem dX8_ask_22 : decode cX8_ask 22 = .ok (.ireturn, 1) := by decide +kernel
theorem dX8_ask_23 : decode cX8_ask 23 = .ok (.aload_n 0, 1) := by decide +kernel
theorem dX8_ask_24 : decode cX8_ask 24 = .ok (.getfield 46, 3) := by decide +kernel
theorem dX8_ask_27 : decode cX8_ask 27 = .ok (.aload_n 0, 1) := by decide +kernel
theorem dX8_ask_28 : decode cX8_ask 28 = .ok (.getfield 25, 3) := by decide +kernel
theorem dX8_ask_31 : decode cX8_ask 31 = .ok (.iload_n 1, 1) := by decide +kernel
theorem dX8_ask_32 : decode cX8_ask 32 = .ok (.iload_n 2, 1) := by decide +kernel
theorem dX8_ask_33 : decode cX8_ask 33 = .ok (.invokevirtual 261, 3) := by decide +kernel
theorem dX8_ask_36 : decode cX8_ask 36 = .ok (.ireturn, 1) := by decide +kernel
def m_X8_ask (N : Nat) (σ : Hp) (t0 : Nat) (p1 : Int32) (p2 : Int32) : Option (Int32 × Hp) :=
  (rv N σ t0 8).bind fun _ =>
  (gR N σ t0 8 2).bind fun x1 =>
  (m_X2_hasDisc N σ x1 p1).bind fun r2 =>
  if r2 = 0 then
   some ((-1000001), σ)
  else
   if p2 < 0 then
   some ((-1000001), σ)
  else
   if p2 ≤ 1 then
   (gR N σ t0 8 6).bind fun x6 =>
  (gR N σ t0 8 2).bind fun x7 =>
  (m_X1_answer N σ x6 x7 p1 p2).bind fun r8 =>
  some (r8.1, r8.2)
  else
   some ((-1000001), σ)
set_option maxHeartbeats 4000000 in
set_option maxRecDepth 100000 in
theorem ct_X8_ask {l : Launch} {D : va_G} {cy : Nat → Nat} {N : Nat} {σ : Hp} {t0 : Nat} {p1 : Int32} {p2 : Int32} {r : Int32 × Hp} (h : m_X8_ask N σ t0 p1 p2 = some r) : Ct l D cy yX8_ask cX8_ask 3 (some .int) 3 [.ref t0, .int p1, .int p2] N σ (fun v s' => v = (some (.int r.1)) ∧ s' = r.2) := by
  refine Ct.intro [some (.ref t0), some (.int p1), some (.int p2)] (by decide) rfl (Nat.le_of_ble_eq_true rfl) ?_
  intro κ ω e1 e2 e3 e4 C Z E
  subst e1; subst e2; subst e3; subst e4
  have C : Cx κ 3 3 cX8_ask RX8 "ask" := C
  have hE : ∀ x : Int32 × Hp, r = x → ((some (Value.int x.1)) = (some (Value.int r.1)) ∧ x.2 = r.2) := fun x hx => by subst hx; exact ⟨rfl, rfl⟩
  unfold m_X8_ask at h
  obtain ⟨_, _, h⟩ := ob h
  refine x_aload_n C (i := 0) dX8_ask_0 rfl rfl ?_
  obtain ⟨x1, ex1, h⟩ := ob h
  refine x_getR C fl_X8_25 dX8_ask_1 ex1 ?_
  refine x_iload_n C (i := 1) dX8_ask_4 rfl rfl ?_
  obtain ⟨r2, er2, h⟩ := ob h
  refine x_callVr C Z mv_X2_hasDisc lk_X8_147 (rv_h er2) (ct_X2_hasDisc er2) (by decide) rfl rfl (Nat.le_of_ble_eq_true rfl) dX8_ask_5 ?_
  refine x_if_eq C (tgt := 20) dX8_ask_8 (by decide) (fun c3 => ?_) (fun c3 => ?_)
  · have h := ifP h c3
    refine x_ldc C kc_X8_55 dX8_ask_20 ?_
    exact x_iret C E dX8_ask_22 (hE ((-1000001), σ) (Option.some.inj h).symm)
  · have h := ifN h c3
    refine x_iload_n C (i := 2) dX8_ask_11 rfl rfl ?_
    refine x_if_lt C (tgt := 20) dX8_ask_12 (by decide) (fun c4 => ?_) (fun c4 => ?_)
    · have h := ifP h c4
      refine x_ldc C kc_X8_55 dX8_ask_20 ?_
      exact x_iret C E dX8_ask_22 (hE ((-1000001), σ) (Option.some.inj h).symm)
    · have h := ifN h c4
      refine x_iload_n C (i := 2) dX8_ask_15 rfl rfl ?_
      refine x_iconst C (v := 1) dX8_ask_16 (by decide) ?_
      refine x_icmp_le C (tgt := 23) dX8_ask_17 (by decide) (fun c5 => ?_) (fun c5 => ?_)
      · have h := ifP h c5
        refine x_aload_n C (i := 0) dX8_ask_23 rfl rfl ?_
        obtain ⟨x6, ex6, h⟩ := ob h
        refine x_getR C fl_X8_46 dX8_ask_24 ex6 ?_
        refine x_aload_n C (i := 0) dX8_ask_27 rfl rfl ?_
        obtain ⟨x7, ex7, h⟩ := ob h
        refine x_getR C fl_X8_25 dX8_ask_28 ex7 ?_
        refine x_iload_n C (i := 1) dX8_ask_31 rfl rfl ?_
        refine x_iload_n C (i := 2) dX8_ask_32 rfl rfl ?_
        obtain ⟨r8, er8, h⟩ := ob h
        refine x_callVr C Z mv_X1_answer lk_X8_261 (rv_h er8) (ct_X1_answer er8) (by decide) rfl rfl (Nat.le_of_ble_eq_true rfl) dX8_ask_33 ?_
        exact x_iret C E dX8_ask_36 (hE (r8.1, r8.2) (Option.some.inj h).symm)
      · have h := ifN h c5
        refine x_ldc C kc_X8_55 dX8_ask_20 ?_
        exact x_iret C E dX8_ask_22 (hE ((-1000001), σ) (Option.some.inj h).symm)
theorem dX8_trace_0 : decode cX8_trace 0 = .ok (.aload_n 0, 1) := by decide +kernel
theorem dX8_trace_1 : decode cX8_trace 1 = .ok (.getfield 46, 3) := by decide +kernel
theorem dX8_trace_4 : decode cX8_trace 4 = .ok (.iload_n 1, 1) := by decide +kernel
theorem dX8_trace_5 : decode cX8_trace 5 = .ok (.invokevirtual 265, 3) := by decide +kernel
theorem dX8_trace_8 : decode cX8_trace 8 = .ok (.ireturn, 1) := by decide +kernel
def m_X8_trace (N : Nat) (σ : Hp) (t0 : Nat) (p1 : Int32) : Option (Int32) :=
  (rv N σ t0 8).bind fun _ =>
  (gR N σ t0 8 6).bind fun x1 =>
  (m_X1_tracedAt N σ x1 p1).bind fun r2 =>
  some r2
set_option maxHeartbeats 4000000 in
set_option maxRecDepth 100000 in
theorem ct_X8_trace {l : Launch} {D : va_G} {cy : Nat → Nat} {N : Nat} {σ : Hp} {t0 : Nat} {p1 : Int32} {r : Int32} (h : m_X8_trace N σ t0 p1 = some r) : Ct l D cy yX8_trace cX8_trace 2 (some .int) 1 [.ref t0, .int p1] N σ (fun v s' => v = (some (.int r)) ∧ s' = σ) := by
  refine Ct.intro [some (.ref t0), some (.int p1)] (by decide) rfl (Nat.le_of_ble_eq_true rfl) ?_
  intro κ ω e1 e2 e3 e4 C Z E
  subst e1; subst e2; subst e3; subst e4
  have C : Cx κ 2 1 cX8_trace RX8 "trace" := C
  have hE : ∀ x : Int32, r = x → ((some (Value.int x)) = (some (Value.int r)) ∧ σ = σ) := fun x hx => by subst hx; exact ⟨rfl, rfl⟩
  unfold m_X8_trace at h
  obtain ⟨_, _, h⟩ := ob h
  refine x_aload_n C (i := 0) dX8_trace_0 rfl rfl ?_
  obtain ⟨x1, ex1, h⟩ := ob h
  refine x_getR C fl_X8_46 dX8_trace_1 ex1 ?_
  refine x_iload_n C (i := 1) dX8_trace_4 rfl rfl ?_
  obtain ⟨r2, er2, h⟩ := ob h
  refine x_callVr C Z mv_X1_tracedAt lk_X8_265 (rv_h er2) (ct_X1_tracedAt er2) (by decide) rfl rfl (Nat.le_of_ble_eq_true rfl) dX8_trace_5 ?_
  exact x_iret C E dX8_trace_8 (hE r2 (Option.some.inj h).symm)
theorem dX8_rowsThere_0 : decode cX8_rowsThere 0 = .ok (.iconst 0, 1) := by decide +kernel
theorem dX8_rowsThere_1 : decode cX8_rowsThere 1 = .ok (.istore_n 1, 1) := by decide +kernel
theorem dX8_rowsThere_2 : decode cX8_rowsThere 2 = .ok (.iconst 0, 1) := by decide +kernel
theorem dX8_rowsThere_3 : decode cX8_rowsThere 3 = .ok (.istore_n 2, 1) := by decide +kernel
theorem dX8_rowsThere_4 : decode cX8_rowsThere 4 = .ok (.iload_n 2, 1) := by decide +kernel
theorem dX8_rowsThere_5 : decode cX8_rowsThere 5 = .ok (.bipush 8, 2) := by decide +kernel
theorem dX8_rowsThere_7 : decode cX8_rowsThere 7 = .ok (.if_icmp .ge 24, 3) := by decide +kernel
theorem dX8_rowsThere_10 : decode cX8_rowsThere 10 = .ok (.aload_n 0, 1) := by decide +kernel
theorem dX8_rowsThere_11 : decode cX8_rowsThere 11 = .ok (.getfield 11, 3) := by decide +kernel
theorem dX8_rowsThere_14 : decode cX8_rowsThere 14 = .ok (.iload_n 2, 1) := by decide +kernel
theorem dX8_rowsThere_15 : decode cX8_rowsThere 15 = .ok (.aaload, 1) := by decide +kernel
theorem dX8_rowsThere_16 : decode cX8_rowsThere 16 = .ok (.invokevirtual 74, 3) := by decide +kernel
theorem dX8_rowsThere_19 : decode cX8_rowsThere 19 = .ok (.ifCond .ne 6, 3) := by decide +kernel
theorem dX8_rowsThere_22 : decode cX8_rowsThere 22 = .ok (.iinc 1 1, 3) := by decide +kernel
theorem dX8_rowsThere_25 : decode cX8_rowsThere 25 = .ok (.iinc 2 1, 3) := by decide +kernel
theorem dX8_rowsThere_28 : decode cX8_rowsThere 28 = .ok (.goto (-24), 3) := by decide +kernel
theorem dX8_rowsThere_31 : decode cX8_rowsThere 31 = .ok (.iload_n 1, 1) := by decide +kernel
theorem dX8_rowsThere_32 : decode cX8_rowsThere 32 = .ok (.ireturn, 1) := by decide +kernel
def L_X8_rowsThere_4 (N : Nat) (σ : Hp) (v0 : Nat) : Nat → Int32 → Int32 → Option (Int32)
  | 0, _, _ => none
  | n + 1, v1, v2 =>
  if 8 ≤ v2 then
   some v1
  else
   (gR N σ v0 8 0).bind fun x2 =>
  (aR 5 N σ x2 v2).bind fun x3 =>
  (m_X5_isMissing N σ x3).bind fun r4 =>
  if r4 = 0 then
   L_X8_rowsThere_4 N σ v0 n (v1 + 1) (v2 + 1)
  else
   L_X8_rowsThere_4 N σ v0 n v1 (v2 + 1)
def m_X8_rowsThere (N : Nat) (σ : Hp) (t0 : Nat) : Option (Int32) :=
  (rv N σ t0 8).bind fun _ =>
  (L_X8_rowsThere_4 N σ t0 fu 0 0).bind fun z6 =>
  some z6
set_option maxHeartbeats 4000000 in
set_option maxRecDepth 100000 in
theorem lp_X8_rowsThere_4 {κ : Kx} {ω : Om} (C : Cx κ 3 1 cX8_rowsThere RX8 "rowsThere") (Z : Zx κ ω) (σ : Hp) (v0 : Nat) {r : Int32} (hk : X κ 3 ω 31 [none, some (.int r), none] [] σ) : ∀ (n : Nat) (v1 : Int32) (v2 : Int32), L_X8_rowsThere_4 ω.1 σ v0 n v1 v2 = some r → X κ 3 ω 4 [some (.ref v0), some (.int v1), some (.int v2)] [] σ := by
  intro n
  induction n with
  | zero => intro v1 v2 h; cases h
  | succ n ih =>
    intro v1 v2 h
    rw [L_X8_rowsThere_4.eq_2] at h
    refine x_iload_n C (i := 2) dX8_rowsThere_4 rfl rfl ?_
    refine x_bipush C (v := 8) dX8_rowsThere_5 (by decide) ?_
    refine x_icmp_ge C (tgt := 31) dX8_rowsThere_7 (by decide) (fun c1 => ?_) (fun c1 => ?_)
    · have h := ifP h c1
      refine x_wk [false, true, false] (lo' := [none, some (.int v1), none]) rfl ?_
      obtain rfl := Option.some.inj h
      exact hk
    · have h := ifN h c1
      refine x_aload_n C (i := 0) dX8_rowsThere_10 rfl rfl ?_
      obtain ⟨x2, ex2, h⟩ := ob h
      refine x_getR C fl_X8_11 dX8_rowsThere_11 ex2 ?_
      refine x_iload_n C (i := 2) dX8_rowsThere_14 rfl rfl ?_
      obtain ⟨x3, ex3, h⟩ := ob h
      refine x_aald5 C dX8_rowsThere_15 ex3 ?_
      obtain ⟨r4, er4, h⟩ := ob h
      refine x_callVr C Z mv_X5_isMissing lk_X8_74 (rv_h er4) (ct_X5_isMissing er4) (by decide) rfl rfl (Nat.le_of_ble_eq_true rfl) dX8_rowsThere_16 ?_
      refine x_if_ne C (tgt := 25) dX8_rowsThere_19 (by decide) (fun c5 => ?_) (fun c5 => ?_)
      · have h := ifN h c5
        refine x_iinc C (i := 2) (y := v2 + 1) (lo' := [some (.ref v0), some (.int v1), some (.int (v2 + 1))]) dX8_rowsThere_25 rfl rfl (by decide) rfl rfl ?_
        refine x_goto C (tgt := 4) dX8_rowsThere_28 (by decide) ?_
        refine x_wk [true, true, true] (lo' := [some (.ref v0), some (.int v1), some (.int (v2 + 1))]) rfl ?_
        exact ih v1 (v2 + 1) h
      · have h := ifP h c5
        refine x_iinc C (i := 1) (y := v1 + 1) (lo' := [some (.ref v0), some (.int (v1 + 1)), some (.int v2)]) dX8_rowsThere_22 rfl rfl (by decide) rfl rfl ?_
        refine x_iinc C (i := 2) (y := v2 + 1) (lo' := [some (.ref v0), some (.int (v1 + 1)), some (.int (v2 + 1))]) dX8_rowsThere_25 rfl rfl (by decide) rfl rfl ?_
        refine x_goto C (tgt := 4) dX8_rowsThere_28 (by decide) ?_
        refine x_wk [true, true, true] (lo' := [some (.ref v0), some (.int (v1 + 1)), some (.int (v2 + 1))]) rfl ?_
        exact ih (v1 + 1) (v2 + 1) h
set_option maxHeartbeats 4000000 in
set_option maxRecDepth 100000 in
theorem ct_X8_rowsThere {l : Launch} {D : va_G} {cy : Nat → Nat} {N : Nat} {σ : Hp} {t0 : Nat} {r : Int32} (h : m_X8_rowsThere N σ t0 = some r) : Ct l D cy yX8_rowsThere cX8_rowsThere 3 (some .int) 1 [.ref t0] N σ (fun v s' => v = (some (.int r)) ∧ s' = σ) := by
  refine Ct.intro [some (.ref t0), none, none] (by decide) rfl (Nat.le_of_ble_eq_true rfl) ?_
  intro κ ω e1 e2 e3 e4 C Z E
  subst e1; subst e2; subst e3; subst e4
  have C : Cx κ 3 1 cX8_rowsThere RX8 "rowsThere" := C
  have hE : ∀ x : Int32, r = x → ((some (Value.int x)) = (some (Value.int r)) ∧ σ = σ) := fun x hx => by subst hx; exact ⟨rfl, rfl⟩
  unfold m_X8_rowsThere at h
  obtain ⟨_, _, h⟩ := ob h
  refine x_iconst C (v := 0) dX8_rowsThere_0 (by decide) ?_
  refine x_istore_n C (i := 1) (lo' := [some (.ref t0), some (.int 0), none]) dX8_rowsThere_1 rfl (by decide) rfl rfl ?_
  refine x_iconst C (v := 0) dX8_rowsThere_2 (by decide) ?_
  refine x_istore_n C (i := 2) (lo' := [some (.ref t0), some (.int 0), some (.int 0)]) dX8_rowsThere_3 rfl (by decide) rfl rfl ?_
  obtain ⟨z6, ez6, h⟩ := ob h
  refine x_wk [true, true, true] (lo' := [some (.ref t0), some (.int 0), some (.int 0)]) rfl ?_
  refine lp_X8_rowsThere_4 C Z σ t0 ?_ _ 0 0 ez6
  refine x_iload_n C (i := 1) dX8_rowsThere_31 rfl rfl ?_
  exact x_iret C E dX8_rowsThere_32 (hE z6 (Option.some.inj h).symm)
theorem dX8_count_0 : decode cX8_count 0 = .ok (.iload_n 1, 1) := by decide +kernel
theorem dX8_count_1 : decode cX8_count 1 = .ok (.tableswitch 115 0 7 #[47, 52, 60, 68, 76, 84, 92, 100], 47) := by decide +kernel
theorem dX8_count_48 : decode cX8_count 48 = .ok (.aload_n 0, 1) := by decide +kernel
theorem dX8_count_49 : decode cX8_count 49 = .ok (.invokevirtual 268, 3) := by decide +kernel
theorem dX8_count_52 : decode cX8_count 52 = .ok (.ireturn, 1) := by decide +kernel
theorem dX8_count_53 : decode cX8_count 53 = .ok (.aload_n 0, 1) := by decide +kernel
theorem dX8_count_54 : decode cX8_count 54 = .ok (.getfield 25, 3) := by decide +kernel
theorem dX8_count_57 : decode cX8_count 57 = .ok (.getfield 271, 3) := by decide +kernel
theorem dX8_count_60 : decode cX8_count 60 = .ok (.ireturn, 1) := by decide +kernel
theorem dX8_count_61 : decode cX8_count 61 = .ok (.aload_n 0, 1) := by decide +kernel
theorem dX8_count_62 : decode cX8_count 62 = .ok (.getfield 25, 3) := by decide +kernel
theorem dX8_count_65 : decode cX8_count 65 = .ok (.getfield 124, 3) := by decide +kernel
theorem dX8_count_68 : decode cX8_count 68 = .ok (.ireturn, 1) := by decide +kernel
theorem dX8_count_69 : decode cX8_count 69 = .ok (.aload_n 0, 1) := by decide +kernel
theorem dX8_count_70 : decode cX8_count 70 = .ok (.getfield 25, 3) := by decide +kernel
theorem dX8_count_73 : decode cX8_count 73 = .ok (.getfield 134, 3) := by decide +kernel
theorem dX8_count_76 : decode cX8_count 76 = .ok (.ireturn, 1) := by decide +kernel
theorem dX8_count_77 : decode cX8_count 77 = .ok (.aload_n 0, 1) := by decide +kernel
theorem dX8_count_78 : decode cX8_count 78 = .ok (.getfield 25, 3) := by decide +kernel
theorem dX8_count_81 : decode cX8_count 81 = .ok (.getfield 159, 3) := by decide +kernel
theorem dX8_count_84 : decode cX8_count 84 = .ok (.ireturn, 1) := by decide +kernel
theorem dX8_count_85 : decode cX8_count 85 = .ok (.aload_n 0, 1) := by decide +kernel
theorem dX8_count_86 : decode cX8_count 86 = .ok (.getfield 35, 3) := by decide +kernel
theorem dX8_count_89 : decode cX8_count 89 = .ok (.getfield 165, 3) := by decide +kernel
theorem dX8_count_92 : decode cX8_count 92 = .ok (.ireturn, 1) := by decide +kernel
theorem dX8_count_93 : decode cX8_count 93 = .ok (.aload_n 0, 1) := by decide +kernel
theorem dX8_count_94 : decode cX8_count 94 = .ok (.getfield 18, 3) := by decide +kernel
theorem dX8_count_97 : decode cX8_count 97 = .ok (.getfield 100, 3) := by decide +kernel
theorem dX8_count_100 : decode cX8_count 100 = .ok (.ireturn, 1) := by decide +kernel
theorem dX8_count_101 : decode cX8_count 101 = .ok (.aload_n 0, 1) := by decide +kernel
theorem dX8_count_102 : decode cX8_count 102 = .ok (.getfield 25, 3) := by decide +kernel
theorem dX8_count_105 : decode cX8_count 105 = .ok (.aload_n 0, 1) := by decide +kernel
theorem dX8_count_106 : decode cX8_count 106 = .ok (.getfield 25, 3) := by decide +kernel
theorem dX8_count_109 : decode cX8_count 109 = .ok (.getfield 252, 3) := by decide +kernel
theorem dX8_count_112 : decode cX8_count 112 = .ok (.invokevirtual 205, 3) := by decide +kernel
theorem dX8_count_115 : decode cX8_count 115 = .ok (.ireturn, 1) := by decide +kernel
theorem dX8_count_116 : decode cX8_count 116 = .ok (.ldc 55, 2) := by decide +kernel
theorem dX8_count_118 : decode cX8_count 118 = .ok (.ireturn, 1) := by decide +kernel
def m_X8_count (N : Nat) (σ : Hp) (t0 : Nat) (p1 : Int32) : Option (Int32) :=
  (rv N σ t0 8).bind fun _ =>
  if p1 = 0 then
   (m_X8_rowsThere N σ t0).bind fun r2 =>
  some r2
  else if p1 = 1 then
   (gR N σ t0 8 2).bind fun x4 =>
  (gI N σ x4 2 0).bind fun x5 =>
  some x5
  else if p1 = 2 then
   (gR N σ t0 8 2).bind fun x7 =>
  (gI N σ x7 2 1).bind fun x8 =>
  some x8
  else if p1 = 3 then
   (gR N σ t0 8 2).bind fun x10 =>
  (gI N σ x10 2 3).bind fun x11 =>
  some x11
  else if p1 = 4 then
   (gR N σ t0 8 2).bind fun x13 =>
  (gI N σ x13 2 2).bind fun x14 =>
  some x14
  else if p1 = 5 then
   (gR N σ t0 8 4).bind fun x16 =>
  (gI N σ x16 0 2).bind fun x17 =>
  some x17
  else if p1 = 6 then
   (gR N σ t0 8 1).bind fun x19 =>
  (gI N σ x19 7 1).bind fun x20 =>
  some x20
  else if p1 = 7 then
   (gR N σ t0 8 2).bind fun x22 =>
  (gR N σ t0 8 2).bind fun x23 =>
  (gI N σ x23 2 5).bind fun x24 =>
  (m_X2_codeOf N σ x22 x24).bind fun r25 =>
  some r25
  else 
   some (-1000001)
set_option maxHeartbeats 4000000 in
set_option maxRecDepth 100000 in
theorem ct_X8_count {l : Launch} {D : va_G} {cy : Nat → Nat} {N : Nat} {σ : Hp} {t0 : Nat} {p1 : Int32} {r : Int32} (h : m_X8_count N σ t0 p1 = some r) : Ct l D cy yX8_count cX8_count 2 (some .int) 2 [.ref t0, .int p1] N σ (fun v s' => v = (some (.int r)) ∧ s' = σ) := by
  refine Ct.intro [some (.ref t0), some (.int p1)] (by decide) rfl (Nat.le_of_ble_eq_true rfl) ?_
  intro κ ω e1 e2 e3 e4 C Z E
  subst e1; subst e2; subst e3; subst e4
  have C : Cx κ 2 2 cX8_count RX8 "count" := C
  have hE : ∀ x : Int32, r = x → ((some (Value.int x)) = (some (Value.int r)) ∧ σ = σ) := fun x hx => by subst hx; exact ⟨rfl, rfl⟩
  unfold m_X8_count at h
  obtain ⟨_, _, h⟩ := ob h
  refine x_iload_n C (i := 1) dX8_count_0 rfl rfl ?_
  by_cases c1 : p1 = 0
  · have h := ifP h c1
    refine x_tableIn C (off := 47) (tgt := 48) dX8_count_1 (by rw [c1]; decide) (by rw [c1]; decide) (by rw [c1]; rfl) (by decide) ?_
    refine x_aload_n C (i := 0) dX8_count_48 rfl rfl ?_
    obtain ⟨r2, er2, h⟩ := ob h
    refine x_callVr C Z mv_X8_rowsThere lk_X8_268 (rv_h er2) (ct_X8_rowsThere er2) (by decide) rfl rfl (Nat.le_of_ble_eq_true rfl) dX8_count_49 ?_
    exact x_iret C E dX8_count_52 (hE r2 (Option.some.inj h).symm)
  · have h := ifN h c1
    by_cases c3 : p1 = 1
    · have h := ifP h c3
      refine x_tableIn C (off := 52) (tgt := 53) dX8_count_1 (by rw [c3]; decide) (by rw [c3]; decide) (by rw [c3]; rfl) (by decide) ?_
      refine x_aload_n C (i := 0) dX8_count_53 rfl rfl ?_
      obtain ⟨x4, ex4, h⟩ := ob h
      refine x_getR C fl_X8_25 dX8_count_54 ex4 ?_
      obtain ⟨x5, ex5, h⟩ := ob h
      refine x_getI C fl_X8_271 dX8_count_57 ex5 ?_
      exact x_iret C E dX8_count_60 (hE x5 (Option.some.inj h).symm)
    · have h := ifN h c3
      by_cases c6 : p1 = 2
      · have h := ifP h c6
        refine x_tableIn C (off := 60) (tgt := 61) dX8_count_1 (by rw [c6]; decide) (by rw [c6]; decide) (by rw [c6]; rfl) (by decide) ?_
        refine x_aload_n C (i := 0) dX8_count_61 rfl rfl ?_
        obtain ⟨x7, ex7, h⟩ := ob h
        refine x_getR C fl_X8_25 dX8_count_62 ex7 ?_
        obtain ⟨x8, ex8, h⟩ := ob h
        refine x_getI C fl_X8_124 dX8_count_65 ex8 ?_
        exact x_iret C E dX8_count_68 (hE x8 (Option.some.inj h).symm)
      · have h := ifN h c6
        by_cases c9 : p1 = 3
        · have h := ifP h c9
          refine x_tableIn C (off := 68) (tgt := 69) dX8_count_1 (by rw [c9]; decide) (by rw [c9]; decide) (by rw [c9]; rfl) (by decide) ?_
          refine x_aload_n C (i := 0) dX8_count_69 rfl rfl ?_
          obtain ⟨x10, ex10, h⟩ := ob h
          refine x_getR C fl_X8_25 dX8_count_70 ex10 ?_
          obtain ⟨x11, ex11, h⟩ := ob h
          refine x_getI C fl_X8_134 dX8_count_73 ex11 ?_
          exact x_iret C E dX8_count_76 (hE x11 (Option.some.inj h).symm)
        · have h := ifN h c9
          by_cases c12 : p1 = 4
          · have h := ifP h c12
            refine x_tableIn C (off := 76) (tgt := 77) dX8_count_1 (by rw [c12]; decide) (by rw [c12]; decide) (by rw [c12]; rfl) (by decide) ?_
            refine x_aload_n C (i := 0) dX8_count_77 rfl rfl ?_
            obtain ⟨x13, ex13, h⟩ := ob h
            refine x_getR C fl_X8_25 dX8_count_78 ex13 ?_
            obtain ⟨x14, ex14, h⟩ := ob h
            refine x_getI C fl_X8_159 dX8_count_81 ex14 ?_
            exact x_iret C E dX8_count_84 (hE x14 (Option.some.inj h).symm)
          · have h := ifN h c12
            by_cases c15 : p1 = 5
            · have h := ifP h c15
              refine x_tableIn C (off := 84) (tgt := 85) dX8_count_1 (by rw [c15]; decide) (by rw [c15]; decide) (by rw [c15]; rfl) (by decide) ?_
              refine x_aload_n C (i := 0) dX8_count_85 rfl rfl ?_
              obtain ⟨x16, ex16, h⟩ := ob h
              refine x_getR C fl_X8_35 dX8_count_86 ex16 ?_
              obtain ⟨x17, ex17, h⟩ := ob h
              refine x_getI C fl_X8_165 dX8_count_89 ex17 ?_
              exact x_iret C E dX8_count_92 (hE x17 (Option.some.inj h).symm)
            · have h := ifN h c15
              by_cases c18 : p1 = 6
              · have h := ifP h c18
                refine x_tableIn C (off := 92) (tgt := 93) dX8_count_1 (by rw [c18]; decide) (by rw [c18]; decide) (by rw [c18]; rfl) (by decide) ?_
                refine x_aload_n C (i := 0) dX8_count_93 rfl rfl ?_
                obtain ⟨x19, ex19, h⟩ := ob h
                refine x_getR C fl_X8_18 dX8_count_94 ex19 ?_
                obtain ⟨x20, ex20, h⟩ := ob h
                refine x_getI C fl_X8_100 dX8_count_97 ex20 ?_
                exact x_iret C E dX8_count_100 (hE x20 (Option.some.inj h).symm)
              · have h := ifN h c18
                by_cases c21 : p1 = 7
                · have h := ifP h c21
                  refine x_tableIn C (off := 100) (tgt := 101) dX8_count_1 (by rw [c21]; decide) (by rw [c21]; decide) (by rw [c21]; rfl) (by decide) ?_
                  refine x_aload_n C (i := 0) dX8_count_101 rfl rfl ?_
                  obtain ⟨x22, ex22, h⟩ := ob h
                  refine x_getR C fl_X8_25 dX8_count_102 ex22 ?_
                  refine x_aload_n C (i := 0) dX8_count_105 rfl rfl ?_
                  obtain ⟨x23, ex23, h⟩ := ob h
                  refine x_getR C fl_X8_25 dX8_count_106 ex23 ?_
                  obtain ⟨x24, ex24, h⟩ := ob h
                  refine x_getI C fl_X8_252 dX8_count_109 ex24 ?_
                  obtain ⟨r25, er25, h⟩ := ob h
                  refine x_callVr C Z mv_X2_codeOf lk_X8_205 (rv_h er25) (ct_X2_codeOf er25) (by decide) rfl rfl (Nat.le_of_ble_eq_true rfl) dX8_count_112 ?_
                  exact x_iret C E dX8_count_115 (hE r25 (Option.some.inj h).symm)
                · have h := ifN h c21
                  refine x_tableOut C (tgt := 116) dX8_count_1 (by have q0 := lv_neT (a := 0) c1 (by decide); have q1 := lv_neT (a := 1) c3 (by decide); have q2 := lv_neT (a := 2) c6 (by decide); have q3 := lv_neT (a := 3) c9 (by decide); have q4 := lv_neT (a := 4) c12 (by decide); have q5 := lv_neT (a := 5) c15 (by decide); have q6 := lv_neT (a := 6) c18 (by decide); have q7 := lv_neT (a := 7) c21 (by decide); omega) (by decide) ?_
                  refine x_ldc C kc_X8_55 dX8_count_116 ?_
                  exact x_iret C E dX8_count_118 (hE (-1000001) (Option.some.inj h).symm)
theorem dX8_status_0 : decode cX8_status 0 = .ok (.aload_n 0, 1) := by decide +kernel
theorem dX8_status_1 : decode cX8_status 1 = .ok (.getfield 274, 3) := by decide +kernel
theorem dX8_status_4 : decode cX8_status 4 = .ok (.ireturn, 1) := by decide +kernel
def m_X8_status (N : Nat) (σ : Hp) (t0 : Nat) : Option (Int32) :=
  (rv N σ t0 8).bind fun _ =>
  (gI N σ t0 8 11).bind fun x1 =>
  some x1
set_option maxHeartbeats 4000000 in
set_option maxRecDepth 100000 in
theorem ct_X8_status {l : Launch} {D : va_G} {cy : Nat → Nat} {N : Nat} {σ : Hp} {t0 : Nat} {r : Int32} (h : m_X8_status N σ t0 = some r) : Ct l D cy yX8_status cX8_status 1 (some .int) 0 [.ref t0] N σ (fun v s' => v = (some (.int r)) ∧ s' = σ) := by
  refine Ct.intro [some (.ref t0)] (by decide) rfl (Nat.le_of_ble_eq_true rfl) ?_
  intro κ ω e1 e2 e3 e4 C Z E
  subst e1; subst e2; subst e3; subst e4
  have C : Cx κ 1 0 cX8_status RX8 "status" := C
  have hE : ∀ x : Int32, r = x → ((some (Value.int x)) = (some (Value.int r)) ∧ σ = σ) := fun x hx => by subst hx; exact ⟨rfl, rfl⟩
  unfold m_X8_status at h
  obtain ⟨_, _, h⟩ := ob h
  refine x_aload_n C (i := 0) dX8_status_0 rfl rfl ?_
  obtain ⟨x1, ex1, h⟩ := ob h
  refine x_getI C fl_X8_274 dX8_status_1 ex1 ?_
  exact x_iret C E dX8_status_4 (hE x1 (Option.some.inj h).symm)
