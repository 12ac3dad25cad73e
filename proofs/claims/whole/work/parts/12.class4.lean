theorem dX8_set_0 : decode cX8_set 0 = .ok (.aload_n 0, 1) := by decide +kernel
theorem dX8_set_1 : decode cX8_set 1 = .ok (.iload_n 1, 1) := by decide +kernel
theorem dX8_set_2 : decode cX8_set 2 = .ok (.invokevirtual 51, 3) := by decide +kernel
theorem dX8_set_5 : decode cX8_set 5 = .ok (.astore 4, 2) := by decide +kernel
theorem dX8_set_7 : decode cX8_set 7 = .ok (.aload 4, 2) := by decide +kernel
theorem dX8_set_9 : decode cX8_set 9 = .ok (.ifnonnull 6, 3) := by decide +kernel
theorem dX8_set_12 : decode cX8_set 12 = .ok (.ldc 55, 2) := by decide +kernel
theorem dX8_set_14 : decode cX8_set 14 = .ok (.ireturn, 1) := by decide +kernel
theorem dX8_set_15 : decode cX8_set 15 = .ok (.aload 4, 2) := by decide +kernel
theorem dX8_set_17 : decode cX8_set 17 = .ok (.iload_n 2, 1) := by decide +kernel
theorem dX8_set_18 : decode cX8_set 18 = .ok (.iconst 1, 1) := by decide +kernel
theorem dX8_set_19 : decode cX8_set 19 = .ok (.invokevirtual 67, 3) := by decide +kernel
theorem dX8_set_22 : decode cX8_set 22 = .ok (.istore 5, 2) := by decide +kernel
theorem dX8_set_24 : decode cX8_set 24 = .ok (.iload 5, 2) := by decide +kernel
theorem dX8_set_26 : decode cX8_set 26 = .ok (.ifCond .eq 12, 3) := by decide +kernel
theorem dX8_set_29 : decode cX8_set 29 = .ok (.aload_n 0, 1) := by decide +kernel
theorem dX8_set_30 : decode cX8_set 30 = .ok (.iload 5, 2) := by decide +kernel
theorem dX8_set_32 : decode cX8_set 32 = .ok (.invokevirtual 56, 3) := by decide +kernel
theorem dX8_set_35 : decode cX8_set 35 = .ok (.goto 14, 3) := by decide +kernel
theorem dX8_set_38 : decode cX8_set 38 = .ok (.aload_n 0, 1) := by decide +kernel
theorem dX8_set_39 : decode cX8_set 39 = .ok (.aload 4, 2) := by decide +kernel
theorem dX8_set_41 : decode cX8_set 41 = .ok (.iload_n 2, 1) := by decide +kernel
theorem dX8_set_42 : decode cX8_set 42 = .ok (.iload_n 3, 1) := by decide +kernel
theorem dX8_set_43 : decode cX8_set 43 = .ok (.invokevirtual 71, 3) := by decide +kernel
theorem dX8_set_46 : decode cX8_set 46 = .ok (.invokevirtual 64, 3) := by decide +kernel
theorem dX8_set_49 : decode cX8_set 49 = .ok (.ireturn, 1) := by decide +kernel
def m_X8_set (N : Nat) (σ : Hp) (t0 : Nat) (p1 : Int32) (p2 : Int32) (p3 : Int32) : Option (Int32 × Hp) :=
  (rv N σ t0 8).bind fun _ =>
  (m_X8_rowAt N σ t0 p1).bind fun r1 =>
  cQ r1 (
   some ((-1000001), σ)) (fun q2 =>
   (m_X5_flaw N σ q2 p2 1).bind fun r3 =>
  if r3 = 0 then
   (m_X5_store N σ q2 p2 p3).bind fun r5 =>
  (m_X8_well N r5.2 t0 r5.1).bind fun r6 =>
  some (r6.1, r6.2)
  else
   (m_X8_found N σ t0 r3).bind fun r7 =>
  some (r7.1, r7.2))
set_option maxHeartbeats 4000000 in
set_option maxRecDepth 100000 in
theorem ct_X8_set {l : Launch} {D : va_G} {cy : Nat → Nat} {N : Nat} {σ : Hp} {t0 : Nat} {p1 : Int32} {p2 : Int32} {p3 : Int32} {r : Int32 × Hp} (h : m_X8_set N σ t0 p1 p2 p3 = some r) : Ct l D cy yX8_set cX8_set 6 (some .int) 2 [.ref t0, .int p1, .int p2, .int p3] N σ (fun v s' => v = (some (.int r.1)) ∧ s' = r.2) := by
  refine Ct.intro [some (.ref t0), some (.int p1), some (.int p2), some (.int p3), none, none] (by decide) rfl (Nat.le_of_ble_eq_true rfl) ?_
  intro κ ω e1 e2 e3 e4 C Z E
  subst e1; subst e2; subst e3; subst e4
  have C : Cx κ 6 2 cX8_set RX8 "set" := C
  have hE : ∀ x : Int32 × Hp, r = x → ((some (Value.int x.1)) = (some (Value.int r.1)) ∧ x.2 = r.2) := fun x hx => by subst hx; exact ⟨rfl, rfl⟩
  unfold m_X8_set at h
  obtain ⟨_, _, h⟩ := ob h
  refine x_aload_n C (i := 0) dX8_set_0 rfl rfl ?_
  refine x_iload_n C (i := 1) dX8_set_1 rfl rfl ?_
  obtain ⟨r1, er1, h⟩ := ob h
  refine x_callVr C Z mv_X8_rowAt lk_X8_51 (rv_h er1) (ct_X8_rowAt er1) (by decide) rfl rfl (Nat.le_of_ble_eq_true rfl) dX8_set_2 ?_
  refine x_astoreQ C (i := 4) (lo' := [some (.ref t0), some (.int p1), some (.int p2), some (.int p3), some (va_rf r1), none]) dX8_set_5 (by decide) rfl rfl ?_
  refine x_aloadQ C (i := 4) dX8_set_7 rfl ?_
  refine x_ifnonnull C (tgt := 15) dX8_set_9 (by decide) (fun q2 hq => ?_) (fun hq => ?_)
  · subst hq
    have h := cQ_s h
    refine x_aload C (i := 4) dX8_set_15 rfl ?_
    refine x_iload_n C (i := 2) dX8_set_17 rfl rfl ?_
    refine x_iconst C (v := 1) dX8_set_18 (by decide) ?_
    obtain ⟨r3, er3, h⟩ := ob h
    refine x_callVr C Z mv_X5_flaw lk_X8_67 (rv_h er3) (ct_X5_flaw er3) (by decide) rfl rfl (Nat.le_of_ble_eq_true rfl) dX8_set_19 ?_
    refine x_istore C (i := 5) (lo' := [some (.ref t0), some (.int p1), some (.int p2), some (.int p3), some (.ref q2), some (.int r3)]) dX8_set_22 (by decide) rfl rfl ?_
    refine x_iload C (i := 5) dX8_set_24 rfl ?_
    refine x_if_eq C (tgt := 38) dX8_set_26 (by decide) (fun c4 => ?_) (fun c4 => ?_)
    · have h := ifP h c4
      refine x_aload_n C (i := 0) dX8_set_38 rfl rfl ?_
      refine x_aload C (i := 4) dX8_set_39 rfl ?_
      refine x_iload_n C (i := 2) dX8_set_41 rfl rfl ?_
      refine x_iload_n C (i := 3) dX8_set_42 rfl rfl ?_
      obtain ⟨r5, er5, h⟩ := ob h
      refine x_callVr C Z mv_X5_store lk_X8_71 (rv_h er5) (ct_X5_store er5) (by decide) rfl rfl (Nat.le_of_ble_eq_true rfl) dX8_set_43 ?_
      obtain ⟨r6, er6, h⟩ := ob h
      refine x_callVr C Z mv_X8_well lk_X8_64 (rv_h er6) (ct_X8_well er6) (by decide) rfl rfl (Nat.le_of_ble_eq_true rfl) dX8_set_46 ?_
      exact x_iret C E dX8_set_49 (hE (r6.1, r6.2) (Option.some.inj h).symm)
    · have h := ifN h c4
      refine x_aload_n C (i := 0) dX8_set_29 rfl rfl ?_
      refine x_iload C (i := 5) dX8_set_30 rfl ?_
      obtain ⟨r7, er7, h⟩ := ob h
      refine x_callVr C Z mv_X8_found lk_X8_56 (rv_h er7) (ct_X8_found er7) (by decide) rfl rfl (Nat.le_of_ble_eq_true rfl) dX8_set_32 ?_
      refine x_goto C (tgt := 49) dX8_set_35 (by decide) ?_
      exact x_iret C E dX8_set_49 (hE (r7.1, r7.2) (Option.some.inj h).symm)
  · subst hq
    have h := cQ_n h
    refine x_ldc C kc_X8_55 dX8_set_12 ?_
    exact x_iret C E dX8_set_14 (hE ((-1000001), σ) (Option.some.inj h).symm)
theorem dX8_drop_0 : decode cX8_drop 0 = .ok (.aload_n 0, 1) := by decide +kernel
theorem dX8_drop_1 : decode cX8_drop 1 = .ok (.iload_n 1, 1) := by decide +kernel
theorem dX8_drop_2 : decode cX8_drop 2 = .ok (.invokevirtual 51, 3) := by decide +kernel
theorem dX8_drop_5 : decode cX8_drop 5 = .ok (.astore_n 2, 1) := by decide +kernel
theorem dX8_drop_6 : decode cX8_drop 6 = .ok (.aload_n 2, 1) := by decide +kernel
theorem dX8_drop_7 : decode cX8_drop 7 = .ok (.ifnonnull 6, 3) := by decide +kernel
theorem dX8_drop_10 : decode cX8_drop 10 = .ok (.ldc 55, 2) := by decide +kernel
theorem dX8_drop_12 : decode cX8_drop 12 = .ok (.ireturn, 1) := by decide +kernel
theorem dX8_drop_13 : decode cX8_drop 13 = .ok (.aload_n 2, 1) := by decide +kernel
theorem dX8_drop_14 : decode cX8_drop 14 = .ok (.invokevirtual 74, 3) := by decide +kernel
theorem dX8_drop_17 : decode cX8_drop 17 = .ok (.ifCond .eq 9, 3) := by decide +kernel
theorem dX8_drop_20 : decode cX8_drop 20 = .ok (.aload_n 0, 1) := by decide +kernel
theorem dX8_drop_21 : decode cX8_drop 21 = .ok (.iconst 1, 1) := by decide +kernel
theorem dX8_drop_22 : decode cX8_drop 22 = .ok (.invokevirtual 56, 3) := by decide +kernel
theorem dX8_drop_25 : decode cX8_drop 25 = .ok (.ireturn, 1) := by decide +kernel
theorem dX8_drop_26 : decode cX8_drop 26 = .ok (.aload_n 0, 1) := by decide +kernel
theorem dX8_drop_27 : decode cX8_drop 27 = .ok (.aload_n 2, 1) := by decide +kernel
theorem dX8_drop_28 : decode cX8_drop 28 = .ok (.invokevirtual 92, 3) := by decide +kernel
theorem dX8_drop_31 : decode cX8_drop 31 = .ok (.invokevirtual 64, 3) := by decide +kernel
theorem dX8_drop_34 : decode cX8_drop 34 = .ok (.ireturn, 1) := by decide +kernel
def m_X8_drop (N : Nat) (σ : Hp) (t0 : Nat) (p1 : Int32) : Option (Int32 × Hp) :=
  (rv N σ t0 8).bind fun _ =>
  (m_X8_rowAt N σ t0 p1).bind fun r1 =>
  cQ r1 (
   some ((-1000001), σ)) (fun q2 =>
   (m_X5_isMissing N σ q2).bind fun r3 =>
  if r3 = 0 then
   (m_X5_end N σ q2).bind fun r5 =>
  (m_X8_well N r5.2 t0 r5.1).bind fun r6 =>
  some (r6.1, r6.2)
  else
   (m_X8_found N σ t0 1).bind fun r7 =>
  some (r7.1, r7.2))
set_option maxHeartbeats 4000000 in
set_option maxRecDepth 100000 in
theorem ct_X8_drop {l : Launch} {D : va_G} {cy : Nat → Nat} {N : Nat} {σ : Hp} {t0 : Nat} {p1 : Int32} {r : Int32 × Hp} (h : m_X8_drop N σ t0 p1 = some r) : Ct l D cy yX8_drop cX8_drop 3 (some .int) 1 [.ref t0, .int p1] N σ (fun v s' => v = (some (.int r.1)) ∧ s' = r.2) := by
  refine Ct.intro [some (.ref t0), some (.int p1), none] (by decide) rfl (Nat.le_of_ble_eq_true rfl) ?_
  intro κ ω e1 e2 e3 e4 C Z E
  subst e1; subst e2; subst e3; subst e4
  have C : Cx κ 3 1 cX8_drop RX8 "drop" := C
  have hE : ∀ x : Int32 × Hp, r = x → ((some (Value.int x.1)) = (some (Value.int r.1)) ∧ x.2 = r.2) := fun x hx => by subst hx; exact ⟨rfl, rfl⟩
  unfold m_X8_drop at h
  obtain ⟨_, _, h⟩ := ob h
  refine x_aload_n C (i := 0) dX8_drop_0 rfl rfl ?_
  refine x_iload_n C (i := 1) dX8_drop_1 rfl rfl ?_
  obtain ⟨r1, er1, h⟩ := ob h
  refine x_callVr C Z mv_X8_rowAt lk_X8_51 (rv_h er1) (ct_X8_rowAt er1) (by decide) rfl rfl (Nat.le_of_ble_eq_true rfl) dX8_drop_2 ?_
  refine x_astore_nQ C (i := 2) (lo' := [some (.ref t0), some (.int p1), some (va_rf r1)]) dX8_drop_5 rfl (by decide) rfl rfl ?_
  refine x_aload_nQ C (i := 2) dX8_drop_6 rfl rfl ?_
  refine x_ifnonnull C (tgt := 13) dX8_drop_7 (by decide) (fun q2 hq => ?_) (fun hq => ?_)
  · subst hq
    have h := cQ_s h
    refine x_aload_n C (i := 2) dX8_drop_13 rfl rfl ?_
    obtain ⟨r3, er3, h⟩ := ob h
    refine x_callVr C Z mv_X5_isMissing lk_X8_74 (rv_h er3) (ct_X5_isMissing er3) (by decide) rfl rfl (Nat.le_of_ble_eq_true rfl) dX8_drop_14 ?_
    refine x_if_eq C (tgt := 26) dX8_drop_17 (by decide) (fun c4 => ?_) (fun c4 => ?_)
    · have h := ifP h c4
      refine x_aload_n C (i := 0) dX8_drop_26 rfl rfl ?_
      refine x_aload_n C (i := 2) dX8_drop_27 rfl rfl ?_
      obtain ⟨r5, er5, h⟩ := ob h
      refine x_callVr C Z mv_X5_end lk_X8_92 (rv_h er5) (ct_X5_end er5) (by decide) rfl rfl (Nat.le_of_ble_eq_true rfl) dX8_drop_28 ?_
      obtain ⟨r6, er6, h⟩ := ob h
      refine x_callVr C Z mv_X8_well lk_X8_64 (rv_h er6) (ct_X8_well er6) (by decide) rfl rfl (Nat.le_of_ble_eq_true rfl) dX8_drop_31 ?_
      exact x_iret C E dX8_drop_34 (hE (r6.1, r6.2) (Option.some.inj h).symm)
    · have h := ifN h c4
      refine x_aload_n C (i := 0) dX8_drop_20 rfl rfl ?_
      refine x_iconst C (v := 1) dX8_drop_21 (by decide) ?_
      obtain ⟨r7, er7, h⟩ := ob h
      refine x_callVr C Z mv_X8_found lk_X8_56 (rv_h er7) (ct_X8_found er7) (by decide) rfl rfl (Nat.le_of_ble_eq_true rfl) dX8_drop_22 ?_
      exact x_iret C E dX8_drop_25 (hE (r7.1, r7.2) (Option.some.inj h).symm)
  · subst hq
    have h := cQ_n h
    refine x_ldc C kc_X8_55 dX8_drop_10 ?_
    exact x_iret C E dX8_drop_12 (hE ((-1000001), σ) (Option.some.inj h).symm)
theorem dX8_feed_0 : decode cX8_feed 0 = .ok (.iload_n 1, 1) := by decide +kernel
theorem dX8_feed_1 : decode cX8_feed 1 = .ok (.ifCond .lt 10, 3) := by decide +kernel
theorem dX8_feed_4 : decode cX8_feed 4 = .ok (.iload_n 1, 1) := by decide +kernel
theorem dX8_feed_5 : decode cX8_feed 5 = .ok (.sipush 255, 3) := by decide +kernel
theorem dX8_feed_8 : decode cX8_feed 8 = .ok (.if_icmp .le 6, 3) := by decide +kernel
theorem dX8_feed_11 : decode cX8_feed 11 = .ok (.ldc 55, 2) := by decide +kernel
theorem dX8_feed_13 : decode cX8_feed 13 = .ok (.ireturn, 1) := by decide +kernel
theorem dX8_feed_14 : decode cX8_feed 14 = .ok (.aload_n 0, 1) := by decide +kernel
theorem dX8_feed_15 : decode cX8_feed 15 = .ok (.getfield 18, 3) := by decide +kernel
theorem dX8_feed_18 : decode cX8_feed 18 = .ok (.iload_n 1, 1) := by decide +kernel
theorem dX8_feed_19 : decode cX8_feed 19 = .ok (.invokevirtual 96, 3) := by decide +kernel
theorem dX8_feed_22 : decode cX8_feed 22 = .ok (.ifCond .eq 13, 3) := by decide +kernel
theorem dX8_feed_25 : decode cX8_feed 25 = .ok (.aload_n 0, 1) := by decide +kernel
theorem dX8_feed_26 : decode cX8_feed 26 = .ok (.getfield 18, 3) := by decide +kernel
theorem dX8_feed_29 : decode cX8_feed 29 = .ok (.getfield 100, 3) := by decide +kernel
theorem dX8_feed_32 : decode cX8_feed 32 = .ok (.goto 5, 3) := by decide +kernel
theorem dX8_feed_35 : decode cX8_feed 35 = .ok (.ldc 103, 2) := by decide +kernel
theorem dX8_feed_37 : decode cX8_feed 37 = .ok (.ireturn, 1) := by decide +kernel
def m_X8_feed (N : Nat) (σ : Hp) (t0 : Nat) (p1 : Int32) : Option (Int32 × Hp) :=
  (rv N σ t0 8).bind fun _ =>
  if p1 < 0 then
   some ((-1000001), σ)
  else
   if p1 ≤ 255 then
   (gR N σ t0 8 1).bind fun x3 =>
  (m_X7_take N σ x3 p1).bind fun r4 =>
  if r4.1 = 0 then
   some ((-1000003), r4.2)
  else
   (gR N r4.2 t0 8 1).bind fun x6 =>
  (gI N r4.2 x6 7 1).bind fun x7 =>
  some (x7, r4.2)
  else
   some ((-1000001), σ)
set_option maxHeartbeats 4000000 in
set_option maxRecDepth 100000 in
theorem ct_X8_feed {l : Launch} {D : va_G} {cy : Nat → Nat} {N : Nat} {σ : Hp} {t0 : Nat} {p1 : Int32} {r : Int32 × Hp} (h : m_X8_feed N σ t0 p1 = some r) : Ct l D cy yX8_feed cX8_feed 2 (some .int) 1 [.ref t0, .int p1] N σ (fun v s' => v = (some (.int r.1)) ∧ s' = r.2) := by
  refine Ct.intro [some (.ref t0), some (.int p1)] (by decide) rfl (Nat.le_of_ble_eq_true rfl) ?_
  intro κ ω e1 e2 e3 e4 C Z E
  subst e1; subst e2; subst e3; subst e4
  have C : Cx κ 2 1 cX8_feed RX8 "feed" := C
  have hE : ∀ x : Int32 × Hp, r = x → ((some (Value.int x.1)) = (some (Value.int r.1)) ∧ x.2 = r.2) := fun x hx => by subst hx; exact ⟨rfl, rfl⟩
  unfold m_X8_feed at h
  obtain ⟨_, _, h⟩ := ob h
  refine x_iload_n C (i := 1) dX8_feed_0 rfl rfl ?_
  refine x_if_lt C (tgt := 11) dX8_feed_1 (by decide) (fun c1 => ?_) (fun c1 => ?_)
  · have h := ifP h c1
    refine x_ldc C kc_X8_55 dX8_feed_11 ?_
    exact x_iret C E dX8_feed_13 (hE ((-1000001), σ) (Option.some.inj h).symm)
  · have h := ifN h c1
    refine x_iload_n C (i := 1) dX8_feed_4 rfl rfl ?_
    refine x_sipush C (v := 255) dX8_feed_5 (by decide) ?_
    refine x_icmp_le C (tgt := 14) dX8_feed_8 (by decide) (fun c2 => ?_) (fun c2 => ?_)
    · have h := ifP h c2
      refine x_aload_n C (i := 0) dX8_feed_14 rfl rfl ?_
      obtain ⟨x3, ex3, h⟩ := ob h
      refine x_getR C fl_X8_18 dX8_feed_15 ex3 ?_
      refine x_iload_n C (i := 1) dX8_feed_18 rfl rfl ?_
      obtain ⟨r4, er4, h⟩ := ob h
      refine x_callVr C Z mv_X7_take lk_X8_96 (rv_h er4) (ct_X7_take er4) (by decide) rfl rfl (Nat.le_of_ble_eq_true rfl) dX8_feed_19 ?_
      refine x_if_eq C (tgt := 35) dX8_feed_22 (by decide) (fun c5 => ?_) (fun c5 => ?_)
      · have h := ifP h c5
        refine x_ldc C kc_X8_103 dX8_feed_35 ?_
        exact x_iret C E dX8_feed_37 (hE ((-1000003), r4.2) (Option.some.inj h).symm)
      · have h := ifN h c5
        refine x_aload_n C (i := 0) dX8_feed_25 rfl rfl ?_
        obtain ⟨x6, ex6, h⟩ := ob h
        refine x_getR C fl_X8_18 dX8_feed_26 ex6 ?_
        obtain ⟨x7, ex7, h⟩ := ob h
        refine x_getI C fl_X8_100 dX8_feed_29 ex7 ?_
        refine x_goto C (tgt := 37) dX8_feed_32 (by decide) ?_
        exact x_iret C E dX8_feed_37 (hE (x7, r4.2) (Option.some.inj h).symm)
    · have h := ifN h c2
      refine x_ldc C kc_X8_55 dX8_feed_11 ?_
      exact x_iret C E dX8_feed_13 (hE ((-1000001), σ) (Option.some.inj h).symm)
theorem dX8_board_0 : decode cX8_board 0 = .ok (.aload_n 0, 1) := by decide +kernel
theorem dX8_board_1 : decode cX8_board 1 = .ok (.getfield 18, 3) := by decide +kernel
theorem dX8_board_4 : decode cX8_board 4 = .ok (.aload_n 0, 1) := by decide +kernel
theorem dX8_board_5 : decode cX8_board 5 = .ok (.getfield 29, 3) := by decide +kernel
theorem dX8_board_8 : decode cX8_board 8 = .ok (.invokevirtual 104, 3) := by decide +kernel
theorem dX8_board_11 : decode cX8_board 11 = .ok (.istore_n 1, 1) := by decide +kernel
theorem dX8_board_12 : decode cX8_board 12 = .ok (.aload_n 0, 1) := by decide +kernel
theorem dX8_board_13 : decode cX8_board 13 = .ok (.getfield 18, 3) := by decide +kernel
theorem dX8_board_16 : decode cX8_board 16 = .ok (.iconst 0, 1) := by decide +kernel
theorem dX8_board_17 : decode cX8_board 17 = .ok (.putfield 100, 3) := by decide +kernel
theorem dX8_board_20 : decode cX8_board 20 = .ok (.iload_n 1, 1) := by decide +kernel
theorem dX8_board_21 : decode cX8_board 21 = .ok (.ifCond .ne 25, 3) := by decide +kernel
theorem dX8_board_24 : decode cX8_board 24 = .ok (.aload_n 0, 1) := by decide +kernel
theorem dX8_board_25 : decode cX8_board 25 = .ok (.aload_n 0, 1) := by decide +kernel
theorem dX8_board_26 : decode cX8_board 26 = .ok (.getfield 18, 3) := by decide +kernel
theorem dX8_board_29 : decode cX8_board 29 = .ok (.getfield 108, 3) := by decide +kernel
theorem dX8_board_32 : decode cX8_board 32 = .ok (.putfield 111, 3) := by decide +kernel
theorem dX8_board_35 : decode cX8_board 35 = .ok (.ldc 114, 2) := by decide +kernel
theorem dX8_board_37 : decode cX8_board 37 = .ok (.aload_n 0, 1) := by decide +kernel
theorem dX8_board_38 : decode cX8_board 38 = .ok (.getfield 18, 3) := by decide +kernel
theorem dX8_board_41 : decode cX8_board 41 = .ok (.getfield 115, 3) := by decide +kernel
theorem dX8_board_44 : decode cX8_board 44 = .ok (.isub, 1) := by decide +kernel
theorem dX8_board_45 : decode cX8_board 45 = .ok (.ireturn, 1) := by decide +kernel
theorem dX8_board_46 : decode cX8_board 46 = .ok (.aload_n 0, 1) := by decide +kernel
theorem dX8_board_47 : decode cX8_board 47 = .ok (.getfield 25, 3) := by decide +kernel
theorem dX8_board_50 : decode cX8_board 50 = .ok (.aload_n 0, 1) := by decide +kernel
theorem dX8_board_51 : decode cX8_board 51 = .ok (.getfield 29, 3) := by decide +kernel
theorem dX8_board_54 : decode cX8_board 54 = .ok (.invokevirtual 118, 3) := by decide +kernel
theorem dX8_board_57 : decode cX8_board 57 = .ok (.aload_n 0, 1) := by decide +kernel
theorem dX8_board_58 : decode cX8_board 58 = .ok (.getfield 35, 3) := by decide +kernel
theorem dX8_board_61 : decode cX8_board 61 = .ok (.invokevirtual 121, 3) := by decide +kernel
theorem dX8_board_64 : decode cX8_board 64 = .ok (.aload_n 0, 1) := by decide +kernel
theorem dX8_board_65 : decode cX8_board 65 = .ok (.getfield 25, 3) := by decide +kernel
theorem dX8_board_68 : decode cX8_board 68 = .ok (.getfield 124, 3) := by decide +kernel
theorem dX8_board_71 : decode cX8_board 71 = .ok (.ireturn, 1) := by decide +kernel
def m_X8_board (N : Nat) (σ : Hp) (t0 : Nat) : Option (Int32 × Hp) :=
  (rv N σ t0 8).bind fun _ =>
  (gR N σ t0 8 1).bind fun x1 =>
  (gR N σ t0 8 3).bind fun x2 =>
  (m_X7_readInto N σ x1 x2).bind fun r3 =>
  (gR N r3.2 t0 8 1).bind fun x4 =>
  (pV N r3.2 x4 7 1 (.int 0)).bind fun σ5 =>
  if r3.1 = 0 then
   (gR N σ5 t0 8 1).bind fun x14 =>
  (gI N σ5 x14 7 3).bind fun x15 =>
  (pV N σ5 t0 8 10 (.int x15)).bind fun σ16 =>
  (gR N σ16 t0 8 1).bind fun x17 =>
  (gI N σ16 x17 7 2).bind fun x18 =>
  some (((-1000100) : Int32) - x18, σ16)
  else
   (gR N σ5 t0 8 2).bind fun x7 =>
  (gR N σ5 t0 8 3).bind fun x8 =>
  (m_X2_take N σ5 x7 x8).bind fun r9 =>
  (gR N r9 t0 8 4).bind fun x10 =>
  (m_X0_forget N r9 x10).bind fun r11 =>
  (gR N r11 t0 8 2).bind fun x12 =>
  (gI N r11 x12 2 1).bind fun x13 =>
  some (x13, r11)
set_option maxHeartbeats 4000000 in
set_option maxRecDepth 100000 in
theorem ct_X8_board {l : Launch} {D : va_G} {cy : Nat → Nat} {N : Nat} {σ : Hp} {t0 : Nat} {r : Int32 × Hp} (h : m_X8_board N σ t0 = some r) : Ct l D cy yX8_board cX8_board 2 (some .int) 4 [.ref t0] N σ (fun v s' => v = (some (.int r.1)) ∧ s' = r.2) := by
  refine Ct.intro [some (.ref t0), none] (by decide) rfl (Nat.le_of_ble_eq_true rfl) ?_
  intro κ ω e1 e2 e3 e4 C Z E
  subst e1; subst e2; subst e3; subst e4
  have C : Cx κ 2 4 cX8_board RX8 "board" := C
  have hE : ∀ x : Int32 × Hp, r = x → ((some (Value.int x.1)) = (some (Value.int r.1)) ∧ x.2 = r.2) := fun x hx => by subst hx; exact ⟨rfl, rfl⟩
  unfold m_X8_board at h
  obtain ⟨_, _, h⟩ := ob h
  refine x_aload_n C (i := 0) dX8_board_0 rfl rfl ?_
  obtain ⟨x1, ex1, h⟩ := ob h
  refine x_getR C fl_X8_18 dX8_board_1 ex1 ?_
  refine x_aload_n C (i := 0) dX8_board_4 rfl rfl ?_
  obtain ⟨x2, ex2, h⟩ := ob h
  refine x_getR C fl_X8_29 dX8_board_5 ex2 ?_
  obtain ⟨r3, er3, h⟩ := ob h
  refine x_callVr C Z mv_X7_readInto lk_X8_104 (rv_h er3) (ct_X7_readInto er3) (by decide) rfl rfl (Nat.le_of_ble_eq_true rfl) dX8_board_8 ?_
  refine x_istore_n C (i := 1) (lo' := [some (.ref t0), some (.int r3.1)]) dX8_board_11 rfl (by decide) rfl rfl ?_
  refine x_aload_n C (i := 0) dX8_board_12 rfl rfl ?_
  obtain ⟨x4, ex4, h⟩ := ob h
  refine x_getR C fl_X8_18 dX8_board_13 ex4 ?_
  refine x_iconst C (v := 0) dX8_board_16 (by decide) ?_
  obtain ⟨σ5, eσ5, h⟩ := ob h
  refine x_put C pl_X8_100 dX8_board_17 (fun _ => ⟨rfl, rfl⟩) eσ5 ?_
  refine x_iload_n C (i := 1) dX8_board_20 rfl rfl ?_
  refine x_if_ne C (tgt := 46) dX8_board_21 (by decide) (fun c6 => ?_) (fun c6 => ?_)
  · have h := ifN h c6
    refine x_aload_n C (i := 0) dX8_board_46 rfl rfl ?_
    obtain ⟨x7, ex7, h⟩ := ob h
    refine x_getR C fl_X8_25 dX8_board_47 ex7 ?_
    refine x_aload_n C (i := 0) dX8_board_50 rfl rfl ?_
    obtain ⟨x8, ex8, h⟩ := ob h
    refine x_getR C fl_X8_29 dX8_board_51 ex8 ?_
    obtain ⟨r9, er9, h⟩ := ob h
    refine x_callVn C Z mv_X2_take lk_X8_118 (rv_h er9) (ct_X2_take er9) (by decide) rfl rfl (Nat.le_of_ble_eq_true rfl) dX8_board_54 ?_
    refine x_aload_n C (i := 0) dX8_board_57 rfl rfl ?_
    obtain ⟨x10, ex10, h⟩ := ob h
    refine x_getR C fl_X8_35 dX8_board_58 ex10 ?_
    obtain ⟨r11, er11, h⟩ := ob h
    refine x_callVn C Z mv_X0_forget lk_X8_121 (rv_h er11) (ct_X0_forget er11) (by decide) rfl rfl (Nat.le_of_ble_eq_true rfl) dX8_board_61 ?_
    refine x_aload_n C (i := 0) dX8_board_64 rfl rfl ?_
    obtain ⟨x12, ex12, h⟩ := ob h
    refine x_getR C fl_X8_25 dX8_board_65 ex12 ?_
    obtain ⟨x13, ex13, h⟩ := ob h
    refine x_getI C fl_X8_124 dX8_board_68 ex13 ?_
    exact x_iret C E dX8_board_71 (hE (x13, r11) (Option.some.inj h).symm)
  · have h := ifP h c6
    refine x_aload_n C (i := 0) dX8_board_24 rfl rfl ?_
    refine x_aload_n C (i := 0) dX8_board_25 rfl rfl ?_
    obtain ⟨x14, ex14, h⟩ := ob h
    refine x_getR C fl_X8_18 dX8_board_26 ex14 ?_
    obtain ⟨x15, ex15, h⟩ := ob h
    refine x_getI C fl_X8_108 dX8_board_29 ex15 ?_
    obtain ⟨σ16, eσ16, h⟩ := ob h
    refine x_put C pl_X8_111 dX8_board_32 (fun _ => ⟨rfl, rfl⟩) eσ16 ?_
    refine x_ldc C kc_X8_114 dX8_board_35 ?_
    refine x_aload_n C (i := 0) dX8_board_37 rfl rfl ?_
    obtain ⟨x17, ex17, h⟩ := ob h
    refine x_getR C fl_X8_18 dX8_board_38 ex17 ?_
    obtain ⟨x18, ex18, h⟩ := ob h
    refine x_getI C fl_X8_115 dX8_board_41 ex18 ?_
    refine x_isub C dX8_board_44 ?_
    exact x_iret C E dX8_board_45 (hE (((-1000100) : Int32) - x18, σ16) (Option.some.inj h).symm)
theorem dX8_fault_0 : decode cX8_fault 0 = .ok (.aload_n 0, 1) := by decide +kernel
theorem dX8_fault_1 : decode cX8_fault 1 = .ok (.getfield 111, 3) := by decide +kernel
theorem dX8_fault_4 : decode cX8_fault 4 = .ok (.ireturn, 1) := by decide +kernel
def m_X8_fault (N : Nat) (σ : Hp) (t0 : Nat) : Option (Int32) :=
  (rv N σ t0 8).bind fun _ =>
  (gI N σ t0 8 10).bind fun x1 =>
  some x1
set_option maxHeartbeats 4000000 in
set_option maxRecDepth 100000 in
theorem ct_X8_fault {l : Launch} {D : va_G} {cy : Nat → Nat} {N : Nat} {σ : Hp} {t0 : Nat} {r : Int32} (h : m_X8_fault N σ t0 = some r) : Ct l D cy yX8_fault cX8_fault 1 (some .int) 0 [.ref t0] N σ (fun v s' => v = (some (.int r)) ∧ s' = σ) := by
  refine Ct.intro [some (.ref t0)] (by decide) rfl (Nat.le_of_ble_eq_true rfl) ?_
  intro κ ω e1 e2 e3 e4 C Z E
  subst e1; subst e2; subst e3; subst e4
  have C : Cx κ 1 0 cX8_fault RX8 "fault" := C
  have hE : ∀ x : Int32, r = x → ((some (Value.int x)) = (some (Value.int r)) ∧ σ = σ) := fun x hx => by subst hx; exact ⟨rfl, rfl⟩
  unfold m_X8_fault at h
  obtain ⟨_, _, h⟩ := ob h
  refine x_aload_n C (i := 0) dX8_fault_0 rfl rfl ?_
  obtain ⟨x1, ex1, h⟩ := ob h
  refine x_getI C fl_X8_111 dX8_fault_1 ex1 ?_
  exact x_iret C E dX8_fault_4 (hE x1 (Option.some.inj h).symm)
theorem dX8_move_0 : decode cX8_move 0 = .ok (.aload_n 0, 1) := by decide +kernel
theorem dX8_move_1 : decode cX8_move 1 = .ok (.getfield 25, 3) := by decide +kernel
theorem dX8_move_4 : decode cX8_move 4 = .ok (.iload_n 1, 1) := by decide +kernel
theorem dX8_move_5 : decode cX8_move 5 = .ok (.invokevirtual 127, 3) := by decide +kernel
theorem dX8_move_8 : decode cX8_move 8 = .ok (.ifCond .eq 19, 3) := by decide +kernel
theorem dX8_move_11 : decode cX8_move 11 = .ok (.aload_n 0, 1) := by decide +kernel
theorem dX8_move_12 : decode cX8_move 12 = .ok (.getfield 25, 3) := by decide +kernel
theorem dX8_move_15 : decode cX8_move 15 = .ok (.iload_n 2, 1) := by decide +kernel
theorem dX8_move_16 : decode cX8_move 16 = .ok (.invokevirtual 127, 3) := by decide +kernel
theorem dX8_move_19 : decode cX8_move 19 = .ok (.ifCond .eq 8, 3) := by decide +kernel
theorem dX8_move_22 : decode cX8_move 22 = .ok (.iload_n 1, 1) := by decide +kernel
theorem dX8_move_23 : decode cX8_move 23 = .ok (.iload_n 2, 1) := by decide +kernel
theorem dX8_move_24 : decode cX8_move 24 = .ok (.if_icmp .ne 6, 3) := by decide +kernel
theorem dX8_move_27 : decode cX8_move 27 = .ok (.ldc 55, 2) := by decide +kernel
theorem dX8_move_29 : decode cX8_move 29 = .ok (.ireturn, 1) := by decide +kernel
theorem dX8_move_30 : decode cX8_move 30 = .ok (.iconst 4, 1) := by decide +kernel
theorem dX8_move_31 : decode cX8_move 31 = .ok (.iload_n 1, 1) := by decide +kernel
theorem dX8_move_32 : decode cX8_move 32 = .ok (.imul, 1) := by decide +kernel
theorem dX8_move_33 : decode cX8_move 33 = .ok (.iload_n 2, 1) := by decide +kernel
theorem dX8_move_34 : decode cX8_move 34 = .ok (.iadd, 1) := by decide +kernel
theorem dX8_move_35 : decode cX8_move 35 = .ok (.istore_n 3, 1) := by decide +kernel
theorem dX8_move_36 : decode cX8_move 36 = .ok (.aload_n 0, 1) := by decide +kernel
theorem dX8_move_37 : decode cX8_move 37 = .ok (.getfield 25, 3) := by decide +kernel
theorem dX8_move_40 : decode cX8_move 40 = .ok (.iload_n 3, 1) := by decide +kernel
theorem dX8_move_41 : decode cX8_move 41 = .ok (.invokevirtual 130, 3) := by decide +kernel
theorem dX8_move_44 : decode cX8_move 44 = .ok (.ifCond .ne 6, 3) := by decide +kernel
theorem dX8_move_47 : decode cX8_move 47 = .ok (.ldc 133, 2) := by decide +kernel
theorem dX8_move_49 : decode cX8_move 49 = .ok (.ireturn, 1) := by decide +kernel
theorem dX8_move_50 : decode cX8_move 50 = .ok (.aload_n 0, 1) := by decide +kernel
theorem dX8_move_51 : decode cX8_move 51 = .ok (.getfield 25, 3) := by decide +kernel
theorem dX8_move_54 : decode cX8_move 54 = .ok (.getfield 134, 3) := by decide +kernel
theorem dX8_move_57 : decode cX8_move 57 = .ok (.sipush 9999, 3) := by decide +kernel
theorem dX8_move_60 : decode cX8_move 60 = .ok (.if_icmp .lt 6, 3) := by decide +kernel
theorem dX8_move_63 : decode cX8_move 63 = .ok (.ldc 103, 2) := by decide +kernel
theorem dX8_move_65 : decode cX8_move 65 = .ok (.ireturn, 1) := by decide +kernel
theorem dX8_move_66 : decode cX8_move 66 = .ok (.aload_n 0, 1) := by decide +kernel
theorem dX8_move_67 : decode cX8_move 67 = .ok (.getfield 25, 3) := by decide +kernel
theorem dX8_move_70 : decode cX8_move 70 = .ok (.iload_n 1, 1) := by decide +kernel
theorem dX8_move_71 : decode cX8_move 71 = .ok (.invokevirtual 137, 3) := by decide +kernel
theorem dX8_move_74 : decode cX8_move 74 = .ok (.istore 4, 2) := by decide +kernel
theorem dX8_move_76 : decode cX8_move 76 = .ok (.aload_n 0, 1) := by decide +kernel
theorem dX8_move_77 : decode cX8_move 77 = .ok (.getfield 35, 3) := by decide +kernel
theorem dX8_move_80 : decode cX8_move 80 = .ok (.aload_n 0, 1) := by decide +kernel
theorem dX8_move_81 : decode cX8_move 81 = .ok (.getfield 25, 3) := by decide +kernel
theorem dX8_move_84 : decode cX8_move 84 = .ok (.invokevirtual 140, 3) := by decide +kernel
theorem dX8_move_87 : decode cX8_move 87 = .ok (.aload_n 0, 1) := by decide +kernel
theorem dX8_move_88 : decode cX8_move 88 = .ok (.getfield 25, 3) := by decide +kernel
theorem dX8_move_91 : decode cX8_move 91 = .ok (.iload_n 3, 1) := by decide +kernel
theorem dX8_move_92 : decode cX8_move 92 = .ok (.invokevirtual 143, 3) := by decide +kernel
theorem dX8_move_95 : decode cX8_move 95 = .ok (.iload 4, 2) := by decide +kernel
theorem dX8_move_97 : decode cX8_move 97 = .ok (.ireturn, 1) := by decide +kernel
def m_X8_move (N : Nat) (σ : Hp) (t0 : Nat) (p1 : Int32) (p2 : Int32) : Option (Int32 × Hp) :=
  (rv N σ t0 8).bind fun _ =>
  (gR N σ t0 8 2).bind fun x1 =>
  (m_X2_hasPeg N σ x1 p1).bind fun r2 =>
  if r2 = 0 then
   some ((-1000001), σ)
  else
   (gR N σ t0 8 2).bind fun x4 =>
  (m_X2_hasPeg N σ x4 p2).bind fun r5 =>
  if r5 = 0 then
   some ((-1000001), σ)
  else
   if p1 = p2 then
   some ((-1000001), σ)
  else
   (gR N σ t0 8 2).bind fun x8 =>
  (m_X2_allows N σ x8 (((4 : Int32) * p1) + p2)).bind fun r9 =>
  if r9 = 0 then
   some ((-1000002), σ)
  else
   (gR N σ t0 8 2).bind fun x11 =>
  (gI N σ x11 2 3).bind fun x12 =>
  if x12 < 9999 then
   (gR N σ t0 8 2).bind fun x14 =>
  (m_X2_topOf N σ x14 p1).bind fun r15 =>
  (gR N σ t0 8 4).bind fun x16 =>
  (gR N σ t0 8 2).bind fun x17 =>
  (m_X0_keep N σ x16 x17).bind fun r18 =>
  (gR N r18 t0 8 2).bind fun x19 =>
  (m_X2_carryOut N r18 x19 (((4 : Int32) * p1) + p2)).bind fun r20 =>
  some (r15, r20)
  else
   some ((-1000003), σ)
set_option maxHeartbeats 4000000 in
set_option maxRecDepth 100000 in
theorem ct_X8_move {l : Launch} {D : va_G} {cy : Nat → Nat} {N : Nat} {σ : Hp} {t0 : Nat} {p1 : Int32} {p2 : Int32} {r : Int32 × Hp} (h : m_X8_move N σ t0 p1 p2 = some r) : Ct l D cy yX8_move cX8_move 5 (some .int) 5 [.ref t0, .int p1, .int p2] N σ (fun v s' => v = (some (.int r.1)) ∧ s' = r.2) := by
  refine Ct.intro [some (.ref t0), some (.int p1), some (.int p2), none, none] (by decide) rfl (Nat.le_of_ble_eq_true rfl) ?_
  intro κ ω e1 e2 e3 e4 C Z E
  subst e1; subst e2; subst e3; subst e4
  have C : Cx κ 5 5 cX8_move RX8 "move" := C
  have hE : ∀ x : Int32 × Hp, r = x → ((some (Value.int x.1)) = (some (Value.int r.1)) ∧ x.2 = r.2) := fun x hx => by subst hx; exact ⟨rfl, rfl⟩
  unfold m_X8_move at h
  obtain ⟨_, _, h⟩ := ob h
  refine x_aload_n C (i := 0) dX8_move_0 rfl rfl ?_
  obtain ⟨x1, ex1, h⟩ := ob h
  refine x_getR C fl_X8_25 dX8_move_1 ex1 ?_
  refine x_iload_n C (i := 1) dX8_move_4 rfl rfl ?_
  obtain ⟨r2, er2, h⟩ := ob h
  refine x_callVr C Z mv_X2_hasPeg lk_X8_127 (rv_h er2) (ct_X2_hasPeg er2) (by decide) rfl rfl (Nat.le_of_ble_eq_true rfl) dX8_move_5 ?_
  refine x_if_eq C (tgt := 27) dX8_move_8 (by decide) (fun c3 => ?_) (fun c3 => ?_)
  · have h := ifP h c3
    refine x_ldc C kc_X8_55 dX8_move_27 ?_
    exact x_iret C E dX8_move_29 (hE ((-1000001), σ) (Option.some.inj h).symm)
  · have h := ifN h c3
    refine x_aload_n C (i := 0) dX8_move_11 rfl rfl ?_
    obtain ⟨x4, ex4, h⟩ := ob h
    refine x_getR C fl_X8_25 dX8_move_12 ex4 ?_
    refine x_iload_n C (i := 2) dX8_move_15 rfl rfl ?_
    obtain ⟨r5, er5, h⟩ := ob h
    refine x_callVr C Z mv_X2_hasPeg lk_X8_127 (rv_h er5) (ct_X2_hasPeg er5) (by decide) rfl rfl (Nat.le_of_ble_eq_true rfl) dX8_move_16 ?_
    refine x_if_eq C (tgt := 27) dX8_move_19 (by decide) (fun c6 => ?_) (fun c6 => ?_)
    · have h := ifP h c6
      refine x_ldc C kc_X8_55 dX8_move_27 ?_
      exact x_iret C E dX8_move_29 (hE ((-1000001), σ) (Option.some.inj h).symm)
    · have h := ifN h c6
      refine x_iload_n C (i := 1) dX8_move_22 rfl rfl ?_
      refine x_iload_n C (i := 2) dX8_move_23 rfl rfl ?_
      refine x_icmp_ne C (tgt := 30) dX8_move_24 (by decide) (fun c7 => ?_) (fun c7 => ?_)
      · have h := ifN h c7
        refine x_iconst C (v := 4) dX8_move_30 (by decide) ?_
        refine x_iload_n C (i := 1) dX8_move_31 rfl rfl ?_
        refine x_imul C dX8_move_32 ?_
        refine x_iload_n C (i := 2) dX8_move_33 rfl rfl ?_
        refine x_iadd C dX8_move_34 ?_
        refine x_istore_n C (i := 3) (lo' := [some (.ref t0), some (.int p1), some (.int p2), some (.int (((4 : Int32) * p1) + p2)), none]) dX8_move_35 rfl (by decide) rfl rfl ?_
        refine x_aload_n C (i := 0) dX8_move_36 rfl rfl ?_
        obtain ⟨x8, ex8, h⟩ := ob h
        refine x_getR C fl_X8_25 dX8_move_37 ex8 ?_
        refine x_iload_n C (i := 3) dX8_move_40 rfl rfl ?_
        obtain ⟨r9, er9, h⟩ := ob h
        refine x_callVr C Z mv_X2_allows lk_X8_130 (rv_h er9) (ct_X2_allows er9) (by decide) rfl rfl (Nat.le_of_ble_eq_true rfl) dX8_move_41 ?_
        refine x_if_ne C (tgt := 50) dX8_move_44 (by decide) (fun c10 => ?_) (fun c10 => ?_)
        · have h := ifN h c10
          refine x_aload_n C (i := 0) dX8_move_50 rfl rfl ?_
          obtain ⟨x11, ex11, h⟩ := ob h
          refine x_getR C fl_X8_25 dX8_move_51 ex11 ?_
          obtain ⟨x12, ex12, h⟩ := ob h
          refine x_getI C fl_X8_134 dX8_move_54 ex12 ?_
          refine x_sipush C (v := 9999) dX8_move_57 (by decide) ?_
          refine x_icmp_lt C (tgt := 66) dX8_move_60 (by decide) (fun c13 => ?_) (fun c13 => ?_)
          · have h := ifP h c13
            refine x_aload_n C (i := 0) dX8_move_66 rfl rfl ?_
            obtain ⟨x14, ex14, h⟩ := ob h
            refine x_getR C fl_X8_25 dX8_move_67 ex14 ?_
            refine x_iload_n C (i := 1) dX8_move_70 rfl rfl ?_
            obtain ⟨r15, er15, h⟩ := ob h
            refine x_callVr C Z mv_X2_topOf lk_X8_137 (rv_h er15) (ct_X2_topOf er15) (by decide) rfl rfl (Nat.le_of_ble_eq_true rfl) dX8_move_71 ?_
            refine x_istore C (i := 4) (lo' := [some (.ref t0), some (.int p1), some (.int p2), some (.int (((4 : Int32) * p1) + p2)), some (.int r15)]) dX8_move_74 (by decide) rfl rfl ?_
            refine x_aload_n C (i := 0) dX8_move_76 rfl rfl ?_
            obtain ⟨x16, ex16, h⟩ := ob h
            refine x_getR C fl_X8_35 dX8_move_77 ex16 ?_
            refine x_aload_n C (i := 0) dX8_move_80 rfl rfl ?_
            obtain ⟨x17, ex17, h⟩ := ob h
            refine x_getR C fl_X8_25 dX8_move_81 ex17 ?_
            obtain ⟨r18, er18, h⟩ := ob h
            refine x_callVn C Z mv_X0_keep lk_X8_140 (rv_h er18) (ct_X0_keep er18) (by decide) rfl rfl (Nat.le_of_ble_eq_true rfl) dX8_move_84 ?_
            refine x_aload_n C (i := 0) dX8_move_87 rfl rfl ?_
            obtain ⟨x19, ex19, h⟩ := ob h
            refine x_getR C fl_X8_25 dX8_move_88 ex19 ?_
            refine x_iload_n C (i := 3) dX8_move_91 rfl rfl ?_
            obtain ⟨r20, er20, h⟩ := ob h
            refine x_callVn C Z mv_X2_carryOut lk_X8_143 (rv_h er20) (ct_X2_carryOut er20) (by decide) rfl rfl (Nat.le_of_ble_eq_true rfl) dX8_move_92 ?_
            refine x_iload C (i := 4) dX8_move_95 rfl ?_
            exact x_iret C E dX8_move_97 (hE (r15, r20) (Option.some.inj h).symm)
          · have h := ifN h c13
            refine x_ldc C kc_X8_103 dX8_move_63 ?_
            exact x_iret C E dX8_move_65 (hE ((-1000003), σ) (Option.some.inj h).symm)
        · have h := ifP h c10
          refine x_ldc C kc_X8_133 dX8_move_47 ?_
          exact x_iret C E dX8_move_49 (hE ((-1000002), σ) (Option.some.inj h).symm)
      · have h := ifP h c7
        refine x_ldc C kc_X8_55 dX8_move_27 ?_
        exact x_iret C E dX8_move_29 (hE ((-1000001), σ) (Option.some.inj h).symm)
theorem dX8_put_0 : decode cX8_put 0 = .ok (.aload_n 0, 1) := by decide +kernel
theorem dX8_put_1 : decode cX8_put 1 = .ok (.getfield 25, 3) := by decide +kernel
theorem dX8_put_4 : decode cX8_put 4 = .ok (.iload_n 1, 1) := by decide +kernel
theorem dX8_put_5 : decode cX8_put 5 = .ok (.invokevirtual 147, 3) := by decide +kernel
theorem dX8_put_8 : decode cX8_put 8 = .ok (.ifCond .eq 14, 3) := by decide +kernel
theorem dX8_put_11 : decode cX8_put 11 = .ok (.aload_n 0, 1) := by decide +kernel
theorem dX8_put_12 : decode cX8_put 12 = .ok (.getfield 25, 3) := by decide +kernel
theorem dX8_put_15 : decode cX8_put 15 = .ok (.iload_n 2, 1) := by decide +kernel
theorem dX8_put_16 : decode cX8_put 16 = .ok (.invokevirtual 127, 3) := by decide +kernel
theorem dX8_put_19 : decode cX8_put 19 = .ok (.ifCond .ne 6, 3) := by decide +kernel
theorem dX8_put_22 : decode cX8_put 22 = .ok (.ldc 55, 2) := by decide +kernel
theorem dX8_put_24 : decode cX8_put 24 = .ok (.ireturn, 1) := by decide +kernel
theorem dX8_put_25 : decode cX8_put 25 = .ok (.aload_n 0, 1) := by decide +kernel
theorem dX8_put_26 : decode cX8_put 26 = .ok (.getfield 25, 3) := by decide +kernel
theorem dX8_put_29 : decode cX8_put 29 = .ok (.iload_n 1, 1) := by decide +kernel
theorem dX8_put_30 : decode cX8_put 30 = .ok (.invokevirtual 150, 3) := by decide +kernel
theorem dX8_put_33 : decode cX8_put 33 = .ok (.istore_n 3, 1) := by decide +kernel
theorem dX8_put_34 : decode cX8_put 34 = .ok (.iload_n 3, 1) := by decide +kernel
theorem dX8_put_35 : decode cX8_put 35 = .ok (.iload_n 2, 1) := by decide +kernel
theorem dX8_put_36 : decode cX8_put 36 = .ok (.if_icmp .ne 6, 3) := by decide +kernel
theorem dX8_put_39 : decode cX8_put 39 = .ok (.ldc 133, 2) := by decide +kernel
theorem dX8_put_41 : decode cX8_put 41 = .ok (.ireturn, 1) := by decide +kernel
theorem dX8_put_42 : decode cX8_put 42 = .ok (.aload_n 0, 1) := by decide +kernel
theorem dX8_put_43 : decode cX8_put 43 = .ok (.getfield 35, 3) := by decide +kernel
theorem dX8_put_46 : decode cX8_put 46 = .ok (.aload_n 0, 1) := by decide +kernel
theorem dX8_put_47 : decode cX8_put 47 = .ok (.getfield 25, 3) := by decide +kernel
theorem dX8_put_50 : decode cX8_put 50 = .ok (.invokevirtual 140, 3) := by decide +kernel
theorem dX8_put_53 : decode cX8_put 53 = .ok (.aload_n 0, 1) := by decide +kernel
theorem dX8_put_54 : decode cX8_put 54 = .ok (.getfield 25, 3) := by decide +kernel
theorem dX8_put_57 : decode cX8_put 57 = .ok (.iload_n 1, 1) := by decide +kernel
theorem dX8_put_58 : decode cX8_put 58 = .ok (.iload_n 2, 1) := by decide +kernel
theorem dX8_put_59 : decode cX8_put 59 = .ok (.invokevirtual 153, 3) := by decide +kernel
theorem dX8_put_62 : decode cX8_put 62 = .ok (.iload_n 3, 1) := by decide +kernel
theorem dX8_put_63 : decode cX8_put 63 = .ok (.ireturn, 1) := by decide +kernel
def m_X8_put (N : Nat) (σ : Hp) (t0 : Nat) (p1 : Int32) (p2 : Int32) : Option (Int32 × Hp) :=
  (rv N σ t0 8).bind fun _ =>
  (gR N σ t0 8 2).bind fun x1 =>
  (m_X2_hasDisc N σ x1 p1).bind fun r2 =>
  if r2 = 0 then
   some ((-1000001), σ)
  else
   (gR N σ t0 8 2).bind fun x4 =>
  (m_X2_hasPeg N σ x4 p2).bind fun r5 =>
  if r5 = 0 then
   some ((-1000001), σ)
  else
   (gR N σ t0 8 2).bind fun x7 =>
  (m_X2_pegOf N σ x7 p1).bind fun r8 =>
  if r8 = p2 then
   some ((-1000002), σ)
  else
   (gR N σ t0 8 4).bind fun x10 =>
  (gR N σ t0 8 2).bind fun x11 =>
  (m_X0_keep N σ x10 x11).bind fun r12 =>
  (gR N r12 t0 8 2).bind fun x13 =>
  (m_X2_layBy N r12 x13 p1 p2).bind fun r14 =>
  some (r8, r14)
set_option maxHeartbeats 4000000 in
set_option maxRecDepth 100000 in
theorem ct_X8_put {l : Launch} {D : va_G} {cy : Nat → Nat} {N : Nat} {σ : Hp} {t0 : Nat} {p1 : Int32} {p2 : Int32} {r : Int32 × Hp} (h : m_X8_put N σ t0 p1 p2 = some r) : Ct l D cy yX8_put cX8_put 4 (some .int) 2 [.ref t0, .int p1, .int p2] N σ (fun v s' => v = (some (.int r.1)) ∧ s' = r.2) := by
  refine Ct.intro [some (.ref t0), some (.int p1), some (.int p2), none] (by decide) rfl (Nat.le_of_ble_eq_true rfl) ?_
  intro κ ω e1 e2 e3 e4 C Z E
  subst e1; subst e2; subst e3; subst e4
  have C : Cx κ 4 2 cX8_put RX8 "put" := C
  have hE : ∀ x : Int32 × Hp, r = x → ((some (Value.int x.1)) = (some (Value.int r.1)) ∧ x.2 = r.2) := fun x hx => by subst hx; exact ⟨rfl, rfl⟩
  unfold m_X8_put at h
  obtain ⟨_, _, h⟩ := ob h
  refine x_aload_n C (i := 0) dX8_put_0 rfl rfl ?_
  obtain ⟨x1, ex1, h⟩ := ob h
  refine x_getR C fl_X8_25 dX8_put_1 ex1 ?_
  refine x_iload_n C (i := 1) dX8_put_4 rfl rfl ?_
  obtain ⟨r2, er2, h⟩ := ob h
  refine x_callVr C Z mv_X2_hasDisc lk_X8_147 (rv_h er2) (ct_X2_hasDisc er2) (by decide) rfl rfl (Nat.le_of_ble_eq_true rfl) dX8_put_5 ?_
  refine x_if_eq C (tgt := 22) dX8_put_8 (by decide) (fun c3 => ?_) (fun c3 => ?_)
  · have h := ifP h c3
    refine x_ldc C kc_X8_55 dX8_put_22 ?_
    exact x_iret C E dX8_put_24 (hE ((-1000001), σ) (Option.some.inj h).symm)
  · have h := ifN h c3
    refine x_aload_n C (i := 0) dX8_put_11 rfl rfl ?_
    obtain ⟨x4, ex4, h⟩ := ob h
    refine x_getR C fl_X8_25 dX8_put_12 ex4 ?_
    refine x_iload_n C (i := 2) dX8_put_15 rfl rfl ?_
    obtain ⟨r5, er5, h⟩ := ob h
    refine x_callVr C Z mv_X2_hasPeg lk_X8_127 (rv_h er5) (ct_X2_hasPeg er5) (by decide) rfl rfl (Nat.le_of_ble_eq_true rfl) dX8_put_16 ?_
    refine x_if_ne C (tgt := 25) dX8_put_19 (by decide) (fun c6 => ?_) (fun c6 => ?_)
    · have h := ifN h c6
      refine x_aload_n C (i := 0) dX8_put_25 rfl rfl ?_
      obtain ⟨x7, ex7, h⟩ := ob h
      refine x_getR C fl_X8_25 dX8_put_26 ex7 ?_
      refine x_iload_n C (i := 1) dX8_put_29 rfl rfl ?_
      obtain ⟨r8, er8, h⟩ := ob h
      refine x_callVr C Z mv_X2_pegOf lk_X8_150 (rv_h er8) (ct_X2_pegOf er8) (by decide) rfl rfl (Nat.le_of_ble_eq_true rfl) dX8_put_30 ?_
      refine x_istore_n C (i := 3) (lo' := [some (.ref t0), some (.int p1), some (.int p2), some (.int r8)]) dX8_put_33 rfl (by decide) rfl rfl ?_
      refine x_iload_n C (i := 3) dX8_put_34 rfl rfl ?_
      refine x_iload_n C (i := 2) dX8_put_35 rfl rfl ?_
      refine x_icmp_ne C (tgt := 42) dX8_put_36 (by decide) (fun c9 => ?_) (fun c9 => ?_)
      · have h := ifN h c9
        refine x_aload_n C (i := 0) dX8_put_42 rfl rfl ?_
        obtain ⟨x10, ex10, h⟩ := ob h
        refine x_getR C fl_X8_35 dX8_put_43 ex10 ?_
        refine x_aload_n C (i := 0) dX8_put_46 rfl rfl ?_
        obtain ⟨x11, ex11, h⟩ := ob h
        refine x_getR C fl_X8_25 dX8_put_47 ex11 ?_
        obtain ⟨r12, er12, h⟩ := ob h
        refine x_callVn C Z mv_X0_keep lk_X8_140 (rv_h er12) (ct_X0_keep er12) (by decide) rfl rfl (Nat.le_of_ble_eq_true rfl) dX8_put_50 ?_
        refine x_aload_n C (i := 0) dX8_put_53 rfl rfl ?_
        obtain ⟨x13, ex13, h⟩ := ob h
        refine x_getR C fl_X8_25 dX8_put_54 ex13 ?_
        refine x_iload_n C (i := 1) dX8_put_57 rfl rfl ?_
        refine x_iload_n C (i := 2) dX8_put_58 rfl rfl ?_
        obtain ⟨r14, er14, h⟩ := ob h
        refine x_callVn C Z mv_X2_layBy lk_X8_153 (rv_h er14) (ct_X2_layBy er14) (by decide) rfl rfl (Nat.le_of_ble_eq_true rfl) dX8_put_59 ?_
        refine x_iload_n C (i := 3) dX8_put_62 rfl rfl ?_
        exact x_iret C E dX8_put_63 (hE (r8, r14) (Option.some.inj h).symm)
      · have h := ifP h c9
        refine x_ldc C kc_X8_133 dX8_put_39 ?_
        exact x_iret C E dX8_put_41 (hE ((-1000002), σ) (Option.some.inj h).symm)
    · have h := ifP h c6
      refine x_ldc C kc_X8_55 dX8_put_22 ?_
      exact x_iret C E dX8_put_24 (hE ((-1000001), σ) (Option.some.inj h).symm)
theorem dX8_high_0 : decode cX8_high 0 = .ok (.aload_n 0, 1) := by decide +kernel
theorem dX8_high_1 : decode cX8_high 1 = .ok (.getfield 25, 3) := by decide +kernel
theorem dX8_high_4 : decode cX8_high 4 = .ok (.invokevirtual 156, 3) := by decide +kernel
theorem dX8_high_7 : decode cX8_high 7 = .ok (.ifCond .eq 6, 3) := by decide +kernel
theorem dX8_high_10 : decode cX8_high 10 = .ok (.ldc 133, 2) := by decide +kernel
theorem dX8_high_12 : decode cX8_high 12 = .ok (.ireturn, 1) := by decide +kernel
theorem dX8_high_13 : decode cX8_high 13 = .ok (.iload_n 1, 1) := by decide +kernel
theorem dX8_high_14 : decode cX8_high 14 = .ok (.iconst 1, 1) := by decide +kernel
theorem dX8_high_15 : decode cX8_high 15 = .ok (.if_icmp .lt 9, 3) := by decide +kernel
theorem dX8_high_18 : decode cX8_high 18 = .ok (.iload_n 1, 1) := by decide +kernel
theorem dX8_high_19 : decode cX8_high 19 = .ok (.bipush 6, 2) := by decide +kernel
theorem dX8_high_21 : decode cX8_high 21 = .ok (.if_icmp .le 6, 3) := by decide +kernel
theorem dX8_high_24 : decode cX8_high 24 = .ok (.ldc 55, 2) := by decide +kernel
theorem dX8_high_26 : decode cX8_high 26 = .ok (.ireturn, 1) := by decide +kernel
theorem dX8_high_27 : decode cX8_high 27 = .ok (.aload_n 0, 1) := by decide +kernel
theorem dX8_high_28 : decode cX8_high 28 = .ok (.getfield 25, 3) := by decide +kernel
theorem dX8_high_31 : decode cX8_high 31 = .ok (.getfield 159, 3) := by decide +kernel
theorem dX8_high_34 : decode cX8_high 34 = .ok (.istore_n 2, 1) := by decide +kernel
theorem dX8_high_35 : decode cX8_high 35 = .ok (.aload_n 0, 1) := by decide +kernel
theorem dX8_high_36 : decode cX8_high 36 = .ok (.getfield 35, 3) := by decide +kernel
theorem dX8_high_39 : decode cX8_high 39 = .ok (.aload_n 0, 1) := by decide +kernel
theorem dX8_high_40 : decode cX8_high 40 = .ok (.getfield 25, 3) := by decide +kernel
theorem dX8_high_43 : decode cX8_high 43 = .ok (.invokevirtual 140, 3) := by decide +kernel
theorem dX8_high_46 : decode cX8_high 46 = .ok (.aload_n 0, 1) := by decide +kernel
theorem dX8_high_47 : decode cX8_high 47 = .ok (.getfield 25, 3) := by decide +kernel
theorem dX8_high_50 : decode cX8_high 50 = .ok (.iload_n 1, 1) := by decide +kernel
theorem dX8_high_51 : decode cX8_high 51 = .ok (.putfield 159, 3) := by decide +kernel
theorem dX8_high_54 : decode cX8_high 54 = .ok (.iload_n 2, 1) := by decide +kernel
theorem dX8_high_55 : decode cX8_high 55 = .ok (.ireturn, 1) := by decide +kernel
def m_X8_high (N : Nat) (σ : Hp) (t0 : Nat) (p1 : Int32) : Option (Int32 × Hp) :=
  (rv N σ t0 8).bind fun _ =>
  (gR N σ t0 8 2).bind fun x1 =>
  (m_X2_isNone N σ x1).bind fun r2 =>
  if r2 = 0 then
   if p1 < 1 then
   some ((-1000001), σ)
  else
   if p1 ≤ 6 then
   (gR N σ t0 8 2).bind fun x6 =>
  (gI N σ x6 2 2).bind fun x7 =>
  (gR N σ t0 8 4).bind fun x8 =>
  (gR N σ t0 8 2).bind fun x9 =>
  (m_X0_keep N σ x8 x9).bind fun r10 =>
  (gR N r10 t0 8 2).bind fun x11 =>
  (pV N r10 x11 2 2 (.int p1)).bind fun σ12 =>
  some (x7, σ12)
  else
   some ((-1000001), σ)
  else
   some ((-1000002), σ)
set_option maxHeartbeats 4000000 in
set_option maxRecDepth 100000 in
theorem ct_X8_high {l : Launch} {D : va_G} {cy : Nat → Nat} {N : Nat} {σ : Hp} {t0 : Nat} {p1 : Int32} {r : Int32 × Hp} (h : m_X8_high N σ t0 p1 = some r) : Ct l D cy yX8_high cX8_high 3 (some .int) 2 [.ref t0, .int p1] N σ (fun v s' => v = (some (.int r.1)) ∧ s' = r.2) := by
  refine Ct.intro [some (.ref t0), some (.int p1), none] (by decide) rfl (Nat.le_of_ble_eq_true rfl) ?_
  intro κ ω e1 e2 e3 e4 C Z E
  subst e1; subst e2; subst e3; subst e4
  have C : Cx κ 3 2 cX8_high RX8 "high" := C
  have hE : ∀ x : Int32 × Hp, r = x → ((some (Value.int x.1)) = (some (Value.int r.1)) ∧ x.2 = r.2) := fun x hx => by subst hx; exact ⟨rfl, rfl⟩
  unfold m_X8_high at h
  obtain ⟨_, _, h⟩ := ob h
  refine x_aload_n C (i := 0) dX8_high_0 rfl rfl ?_
  obtain ⟨x1, ex1, h⟩ := ob h
  refine x_getR C fl_X8_25 dX8_high_1 ex1 ?_
  obtain ⟨r2, er2, h⟩ := ob h
  refine x_callVr C Z mv_X2_isNone lk_X8_156 (rv_h er2) (ct_X2_isNone er2) (by decide) rfl rfl (Nat.le_of_ble_eq_true rfl) dX8_high_4 ?_
  refine x_if_eq C (tgt := 13) dX8_high_7 (by decide) (fun c3 => ?_) (fun c3 => ?_)
  · have h := ifP h c3
    refine x_iload_n C (i := 1) dX8_high_13 rfl rfl ?_
    refine x_iconst C (v := 1) dX8_high_14 (by decide) ?_
    refine x_icmp_lt C (tgt := 24) dX8_high_15 (by decide) (fun c4 => ?_) (fun c4 => ?_)
    · have h := ifP h c4
      refine x_ldc C kc_X8_55 dX8_high_24 ?_
      exact x_iret C E dX8_high_26 (hE ((-1000001), σ) (Option.some.inj h).symm)
    · have h := ifN h c4
      refine x_iload_n C (i := 1) dX8_high_18 rfl rfl ?_
      refine x_bipush C (v := 6) dX8_high_19 (by decide) ?_
      refine x_icmp_le C (tgt := 27) dX8_high_21 (by decide) (fun c5 => ?_) (fun c5 => ?_)
      · have h := ifP h c5
        refine x_aload_n C (i := 0) dX8_high_27 rfl rfl ?_
        obtain ⟨x6, ex6, h⟩ := ob h
        refine x_getR C fl_X8_25 dX8_high_28 ex6 ?_
        obtain ⟨x7, ex7, h⟩ := ob h
        refine x_getI C fl_X8_159 dX8_high_31 ex7 ?_
        refine x_istore_n C (i := 2) (lo' := [some (.ref t0), some (.int p1), some (.int x7)]) dX8_high_34 rfl (by decide) rfl rfl ?_
        refine x_aload_n C (i := 0) dX8_high_35 rfl rfl ?_
        obtain ⟨x8, ex8, h⟩ := ob h
        refine x_getR C fl_X8_35 dX8_high_36 ex8 ?_
        refine x_aload_n C (i := 0) dX8_high_39 rfl rfl ?_
        obtain ⟨x9, ex9, h⟩ := ob h
        refine x_getR C fl_X8_25 dX8_high_40 ex9 ?_
        obtain ⟨r10, er10, h⟩ := ob h
        refine x_callVn C Z mv_X0_keep lk_X8_140 (rv_h er10) (ct_X0_keep er10) (by decide) rfl rfl (Nat.le_of_ble_eq_true rfl) dX8_high_43 ?_
        refine x_aload_n C (i := 0) dX8_high_46 rfl rfl ?_
        obtain ⟨x11, ex11, h⟩ := ob h
        refine x_getR C fl_X8_25 dX8_high_47 ex11 ?_
        refine x_iload_n C (i := 1) dX8_high_50 rfl rfl ?_
        obtain ⟨σ12, eσ12, h⟩ := ob h
        refine x_put C pl_X8_159 dX8_high_51 (fun _ => ⟨rfl, rfl⟩) eσ12 ?_
        refine x_iload_n C (i := 2) dX8_high_54 rfl rfl ?_
        exact x_iret C E dX8_high_55 (hE (x7, σ12) (Option.some.inj h).symm)
      · have h := ifN h c5
        refine x_ldc C kc_X8_55 dX8_high_24 ?_
        exact x_iret C E dX8_high_26 (hE ((-1000001), σ) (Option.some.inj h).symm)
  · have h := ifN h c3
    refine x_ldc C kc_X8_133 dX8_high_10 ?_
    exact x_iret C E dX8_high_12 (hE ((-1000002), σ) (Option.some.inj h).symm)
theorem dX8_undo_0 : decode cX8_undo 0 = .ok (.aload_n 0, 1) := by decide +kernel
theorem dX8_undo_1 : decode cX8_undo 1 = .ok (.getfield 35, 3) := by decide +kernel
theorem dX8_undo_4 : decode cX8_undo 4 = .ok (.aload_n 0, 1) := by decide +kernel
theorem dX8_undo_5 : decode cX8_undo 5 = .ok (.getfield 25, 3) := by decide +kernel
theorem dX8_undo_8 : decode cX8_undo 8 = .ok (.invokevirtual 162, 3) := by decide +kernel
theorem dX8_undo_11 : decode cX8_undo 11 = .ok (.ifCond .eq 13, 3) := by decide +kernel
theorem dX8_undo_14 : decode cX8_undo 14 = .ok (.aload_n 0, 1) := by decide +kernel
theorem dX8_undo_15 : decode cX8_undo 15 = .ok (.getfield 35, 3) := by decide +kernel
theorem dX8_undo_18 : decode cX8_undo 18 = .ok (.getfield 165, 3) := by decide +kernel
theorem dX8_undo_21 : decode cX8_undo 21 = .ok (.goto 5, 3) := by decide +kernel
theorem dX8_undo_24 : decode cX8_undo 24 = .ok (.ldc 133, 2) := by decide +kernel
theorem dX8_undo_26 : decode cX8_undo 26 = .ok (.ireturn, 1) := by decide +kernel
def m_X8_undo (N : Nat) (σ : Hp) (t0 : Nat) : Option (Int32 × Hp) :=
  (rv N σ t0 8).bind fun _ =>
  (gR N σ t0 8 4).bind fun x1 =>
  (gR N σ t0 8 2).bind fun x2 =>
  (m_X0_takeBack N σ x1 x2).bind fun r3 =>
  if r3.1 = 0 then
   some ((-1000002), r3.2)
  else
   (gR N r3.2 t0 8 4).bind fun x5 =>
  (gI N r3.2 x5 0 2).bind fun x6 =>
  some (x6, r3.2)
set_option maxHeartbeats 4000000 in
set_option maxRecDepth 100000 in
theorem ct_X8_undo {l : Launch} {D : va_G} {cy : Nat → Nat} {N : Nat} {σ : Hp} {t0 : Nat} {r : Int32 × Hp} (h : m_X8_undo N σ t0 = some r) : Ct l D cy yX8_undo cX8_undo 1 (some .int) 2 [.ref t0] N σ (fun v s' => v = (some (.int r.1)) ∧ s' = r.2) := by
  refine Ct.intro [some (.ref t0)] (by decide) rfl (Nat.le_of_ble_eq_true rfl) ?_
  intro κ ω e1 e2 e3 e4 C Z E
  subst e1; subst e2; subst e3; subst e4
  have C : Cx κ 1 2 cX8_undo RX8 "undo" := C
  have hE : ∀ x : Int32 × Hp, r = x → ((some (Value.int x.1)) = (some (Value.int r.1)) ∧ x.2 = r.2) := fun x hx => by subst hx; exact ⟨rfl, rfl⟩
  unfold m_X8_undo at h
  obtain ⟨_, _, h⟩ := ob h
  refine x_aload_n C (i := 0) dX8_undo_0 rfl rfl ?_
  obtain ⟨x1, ex1, h⟩ := ob h
  refine x_getR C fl_X8_35 dX8_undo_1 ex1 ?_
  refine x_aload_n C (i := 0) dX8_undo_4 rfl rfl ?_
  obtain ⟨x2, ex2, h⟩ := ob h
  refine x_getR C fl_X8_25 dX8_undo_5 ex2 ?_
  obtain ⟨r3, er3, h⟩ := ob h
  refine x_callVr C Z mv_X0_takeBack lk_X8_162 (rv_h er3) (ct_X0_takeBack er3) (by decide) rfl rfl (Nat.le_of_ble_eq_true rfl) dX8_undo_8 ?_
  refine x_if_eq C (tgt := 24) dX8_undo_11 (by decide) (fun c4 => ?_) (fun c4 => ?_)
  · have h := ifP h c4
    refine x_ldc C kc_X8_133 dX8_undo_24 ?_
    exact x_iret C E dX8_undo_26 (hE ((-1000002), r3.2) (Option.some.inj h).symm)
  · have h := ifN h c4
    refine x_aload_n C (i := 0) dX8_undo_14 rfl rfl ?_
    obtain ⟨x5, ex5, h⟩ := ob h
    refine x_getR C fl_X8_35 dX8_undo_15 ex5 ?_
    obtain ⟨x6, ex6, h⟩ := ob h
    refine x_getI C fl_X8_165 dX8_undo_18 ex6 ?_
    refine x_goto C (tgt := 26) dX8_undo_21 (by decide) ?_
    exact x_iret C E dX8_undo_26 (hE (x6, r3.2) (Option.some.inj h).symm)
theorem dX8_disc_0 : decode cX8_disc 0 = .ok (.aload_n 0, 1) := by decide +kernel
theorem dX8_disc_1 : decode cX8_disc 1 = .ok (.getfield 25, 3) := by decide +kernel
theorem dX8_disc_4 : decode cX8_disc 4 = .ok (.iload_n 1, 1) := by decide +kernel
theorem dX8_disc_5 : decode cX8_disc 5 = .ok (.invokevirtual 147, 3) := by decide +kernel
theorem dX8_disc_8 : decode cX8_disc 8 = .ok (.ifCond .eq 12, 3) := by decide +kernel
theorem dX8_disc_11 : decode cX8_disc 11 = .ok (.iload_n 2, 1) := by decide +kernel
theorem dX8_disc_12 : decode cX8_disc 12 = .ok (.ifCond .lt 8, 3) := by decide +kernel
theorem dX8_disc_15 : decode cX8_disc 15 = .ok (.iload_n 2, 1) := by decide +kernel
theorem dX8_disc_16 : decode cX8_disc 16 = .ok (.iconst 2, 1) := by decide +kernel
theorem dX8_disc_17 : decode cX8_disc 17 = .ok (.if_icmp .le 6, 3) := by decide +kernel
theorem dX8_disc_20 : decode cX8_disc 20 = .ok (.ldc 55, 2) := by decide +kernel
theorem dX8_disc_22 : decode cX8_disc 22 = .ok (.ireturn, 1) := by decide +kernel
theorem dX8_disc_23 : decode cX8_disc 23 = .ok (.aload_n 0, 1) := by decide +kernel
theorem dX8_disc_24 : decode cX8_disc 24 = .ok (.getfield 25, 3) := by decide +kernel
theorem dX8_disc_27 : decode cX8_disc 27 = .ok (.iload_n 1, 1) := by decide +kernel
theorem dX8_disc_28 : decode cX8_disc 28 = .ok (.invokevirtual 150, 3) := by decide +kernel
theorem dX8_disc_31 : decode cX8_disc 31 = .ok (.istore_n 3, 1) := by decide +kernel
theorem dX8_disc_32 : decode cX8_disc 32 = .ok (.aload_n 0, 1) := by decide +kernel
theorem dX8_disc_33 : decode cX8_disc 33 = .ok (.getfield 25, 3) := by decide +kernel
theorem dX8_disc_36 : decode cX8_disc 36 = .ok (.iload_n 3, 1) := by decide +kernel
theorem dX8_disc_37 : decode cX8_disc 37 = .ok (.invokevirtual 137, 3) := by decide +kernel
theorem dX8_disc_40 : decode cX8_disc 40 = .ok (.iload_n 1, 1) := by decide +kernel
theorem dX8_disc_41 : decode cX8_disc 41 = .ok (.if_icmp .ne 7, 3) := by decide +kernel
theorem dX8_disc_44 : decode cX8_disc 44 = .ok (.iconst 1, 1) := by decide +kernel
theorem dX8_disc_45 : decode cX8_disc 45 = .ok (.goto 4, 3) := by decide +kernel
theorem dX8_disc_48 : decode cX8_disc 48 = .ok (.iconst 0, 1) := by decide +kernel
theorem dX8_disc_49 : decode cX8_disc 49 = .ok (.istore 4, 2) := by decide +kernel
theorem dX8_disc_51 : decode cX8_disc 51 = .ok (.iload_n 2, 1) := by decide +kernel
theorem dX8_disc_52 : decode cX8_disc 52 = .ok (.lookupswitch 41 #[(0, 28), (1, 30)], 28) := by decide +kernel
theorem dX8_disc_80 : decode cX8_disc 80 = .ok (.iload_n 3, 1) := by decide +kernel
theorem dX8_disc_81 : decode cX8_disc 81 = .ok (.ireturn, 1) := by decide +kernel
theorem dX8_disc_82 : decode cX8_disc 82 = .ok (.iload 4, 2) := by decide +kernel
theorem dX8_disc_84 : decode cX8_disc 84 = .ok (.ifCond .eq 7, 3) := by decide +kernel
theorem dX8_disc_87 : decode cX8_disc 87 = .ok (.iconst 1, 1) := by decide +kernel
theorem dX8_disc_88 : decode cX8_disc 88 = .ok (.goto 4, 3) := by decide +kernel
theorem dX8_disc_91 : decode cX8_disc 91 = .ok (.iconst 0, 1) := by decide +kernel
theorem dX8_disc_92 : decode cX8_disc 92 = .ok (.ireturn, 1) := by decide +kernel
theorem dX8_disc_93 : decode cX8_disc 93 = .ok (.iload 4, 2) := by decide +kernel
theorem dX8_disc_95 : decode cX8_disc 95 = .ok (.ifCond .eq 20, 3) := by decide +kernel
theorem dX8_disc_98 : decode cX8_disc 98 = .ok (.aload_n 0, 1) := by decide +kernel
theorem dX8_disc_99 : decode cX8_disc 99 = .ok (.getfield 25, 3) := by decide +kernel
theorem dX8_disc_102 : decode cX8_disc 102 = .ok (.invokevirtual 168, 3) := by decide +kernel
theorem dX8_disc_105 : decode cX8_disc 105 = .ok (.iconst 4, 1) := by decide +kernel
theorem dX8_disc_106 : decode cX8_disc 106 = .ok (.iload_n 3, 1) := by decide +kernel
theorem dX8_disc_107 : decode cX8_disc 107 = .ok (.imul, 1) := by decide +kernel
theorem dX8_disc_108 : decode cX8_disc 108 = .ok (.ishr, 1) := by decide +kernel
theorem dX8_disc_109 : decode cX8_disc 109 = .ok (.bipush 15, 2) := by decide +kernel
theorem dX8_disc_111 : decode cX8_disc 111 = .ok (.iand, 1) := by decide +kernel
theorem dX8_disc_112 : decode cX8_disc 112 = .ok (.goto 4, 3) := by decide +kernel
theorem dX8_disc_115 : decode cX8_disc 115 = .ok (.iconst 0, 1) := by decide +kernel
theorem dX8_disc_116 : decode cX8_disc 116 = .ok (.ireturn, 1) := by decide +kernel
def m_X8_disc (N : Nat) (σ : Hp) (t0 : Nat) (p1 : Int32) (p2 : Int32) : Option (Int32) :=
  (rv N σ t0 8).bind fun _ =>
  (gR N σ t0 8 2).bind fun x1 =>
  (m_X2_hasDisc N σ x1 p1).bind fun r2 =>
  if r2 = 0 then
   some (-1000001)
  else
   if p2 < 0 then
   some (-1000001)
  else
   if p2 ≤ 2 then
   (gR N σ t0 8 2).bind fun x6 =>
  (m_X2_pegOf N σ x6 p1).bind fun r7 =>
  (gR N σ t0 8 2).bind fun x8 =>
  (m_X2_topOf N σ x8 r7).bind fun r9 =>
  ((if r9 = p1 then
   some 1
  else
   some 0) : Option (Int32)).bind fun z10 =>
  if p2 = 0 then
   some r7
  else if p2 = 1 then
   if z10 = 0 then
   some 0
  else
   some 1
  else 
   if z10 = 0 then
   some 0
  else
   (gR N σ t0 8 2).bind fun x15 =>
  (m_X2_movesNow N σ x15).bind fun r16 =>
  some ((r16 >>> (((4 : Int32) * r7) &&& 31)) &&& 15)
  else
   some (-1000001)
set_option maxHeartbeats 4000000 in
set_option maxRecDepth 100000 in
theorem ct_X8_disc {l : Launch} {D : va_G} {cy : Nat → Nat} {N : Nat} {σ : Hp} {t0 : Nat} {p1 : Int32} {p2 : Int32} {r : Int32} (h : m_X8_disc N σ t0 p1 p2 = some r) : Ct l D cy yX8_disc cX8_disc 5 (some .int) 4 [.ref t0, .int p1, .int p2] N σ (fun v s' => v = (some (.int r)) ∧ s' = σ) := by
  refine Ct.intro [some (.ref t0), some (.int p1), some (.int p2), none, none] (by decide) rfl (Nat.le_of_ble_eq_true rfl) ?_
  intro κ ω e1 e2 e3 e4 C Z E
  subst e1; subst e2; subst e3; subst e4
  have C : Cx κ 5 4 cX8_disc RX8 "disc" := C
  have hE : ∀ x : Int32, r = x → ((some (Value.int x)) = (some (Value.int r)) ∧ σ = σ) := fun x hx => by subst hx; exact ⟨rfl, rfl⟩
  unfold m_X8_disc at h
  obtain ⟨_, _, h⟩ := ob h
  refine x_aload_n C (i := 0) dX8_disc_0 rfl rfl ?_
  obtain ⟨x1, ex1, h⟩ := ob h
  refine x_getR C fl_X8_25 dX8_disc_1 ex1 ?_
  refine x_iload_n C (i := 1) dX8_disc_4 rfl rfl ?_
  obtain ⟨r2, er2, h⟩ := ob h
  refine x_callVr C Z mv_X2_hasDisc lk_X8_147 (rv_h er2) (ct_X2_hasDisc er2) (by decide) rfl rfl (Nat.le_of_ble_eq_true rfl) dX8_disc_5 ?_
  refine x_if_eq C (tgt := 20) dX8_disc_8 (by decide) (fun c3 => ?_) (fun c3 => ?_)
  · have h := ifP h c3
    refine x_ldc C kc_X8_55 dX8_disc_20 ?_
    exact x_iret C E dX8_disc_22 (hE (-1000001) (Option.some.inj h).symm)
  · have h := ifN h c3
    refine x_iload_n C (i := 2) dX8_disc_11 rfl rfl ?_
    refine x_if_lt C (tgt := 20) dX8_disc_12 (by decide) (fun c4 => ?_) (fun c4 => ?_)
    · have h := ifP h c4
      refine x_ldc C kc_X8_55 dX8_disc_20 ?_
      exact x_iret C E dX8_disc_22 (hE (-1000001) (Option.some.inj h).symm)
    · have h := ifN h c4
      refine x_iload_n C (i := 2) dX8_disc_15 rfl rfl ?_
      refine x_iconst C (v := 2) dX8_disc_16 (by decide) ?_
      refine x_icmp_le C (tgt := 23) dX8_disc_17 (by decide) (fun c5 => ?_) (fun c5 => ?_)
      · have h := ifP h c5
        refine x_aload_n C (i := 0) dX8_disc_23 rfl rfl ?_
        obtain ⟨x6, ex6, h⟩ := ob h
        refine x_getR C fl_X8_25 dX8_disc_24 ex6 ?_
        refine x_iload_n C (i := 1) dX8_disc_27 rfl rfl ?_
        obtain ⟨r7, er7, h⟩ := ob h
        refine x_callVr C Z mv_X2_pegOf lk_X8_150 (rv_h er7) (ct_X2_pegOf er7) (by decide) rfl rfl (Nat.le_of_ble_eq_true rfl) dX8_disc_28 ?_
        refine x_istore_n C (i := 3) (lo' := [some (.ref t0), some (.int p1), some (.int p2), some (.int r7), none]) dX8_disc_31 rfl (by decide) rfl rfl ?_
        refine x_aload_n C (i := 0) dX8_disc_32 rfl rfl ?_
        obtain ⟨x8, ex8, h⟩ := ob h
        refine x_getR C fl_X8_25 dX8_disc_33 ex8 ?_
        refine x_iload_n C (i := 3) dX8_disc_36 rfl rfl ?_
        obtain ⟨r9, er9, h⟩ := ob h
        refine x_callVr C Z mv_X2_topOf lk_X8_137 (rv_h er9) (ct_X2_topOf er9) (by decide) rfl rfl (Nat.le_of_ble_eq_true rfl) dX8_disc_37 ?_
        refine x_iload_n C (i := 1) dX8_disc_40 rfl rfl ?_
        obtain ⟨z10, hz10, h⟩ := ob h
        have hJ17 : X κ 5 ω 49 [some (.ref t0), none, some (.int p2), some (.int r7), none] [.int z10] σ := by
          refine x_istore C (i := 4) (lo' := [some (.ref t0), none, some (.int p2), some (.int r7), some (.int z10)]) dX8_disc_49 (by decide) rfl rfl ?_
          refine x_iload_n C (i := 2) dX8_disc_51 rfl rfl ?_
          by_cases c11 : p2 = 0
          · have h := ifP h c11
            refine x_lookup C (off := 28) (tgt := 80) dX8_disc_52 (by decide) (by rw [c11]; rfl) (by decide) ?_
            refine x_iload_n C (i := 3) dX8_disc_80 rfl rfl ?_
            exact x_iret C E dX8_disc_81 (hE r7 (Option.some.inj h).symm)
          · have h := ifN h c11
            by_cases c12 : p2 = 1
            · have h := ifP h c12
              refine x_lookup C (off := 30) (tgt := 82) dX8_disc_52 (by decide) (by rw [c12]; rfl) (by decide) ?_
              refine x_iload C (i := 4) dX8_disc_82 rfl ?_
              refine x_if_eq C (tgt := 91) dX8_disc_84 (by decide) (fun c13 => ?_) (fun c13 => ?_)
              · have h := ifP h c13
                refine x_iconst C (v := 0) dX8_disc_91 (by decide) ?_
                exact x_iret C E dX8_disc_92 (hE 0 (Option.some.inj h).symm)
              · have h := ifN h c13
                refine x_iconst C (v := 1) dX8_disc_87 (by decide) ?_
                refine x_goto C (tgt := 92) dX8_disc_88 (by decide) ?_
                exact x_iret C E dX8_disc_92 (hE 1 (Option.some.inj h).symm)
            · have h := ifN h c12
              refine x_lookup C (off := 41) (tgt := 93) dX8_disc_52 (by decide) (by rw [show (#[(0, 28), (1, 30)] : Array (Int × Int)).toList = [(0, 28), (1, 30)] from rfl, lv_osw c11 (by decide), lv_osw c12 (by decide)]; rfl) (by decide) ?_
              refine x_iload C (i := 4) dX8_disc_93 rfl ?_
              refine x_if_eq C (tgt := 115) dX8_disc_95 (by decide) (fun c14 => ?_) (fun c14 => ?_)
              · have h := ifP h c14
                refine x_iconst C (v := 0) dX8_disc_115 (by decide) ?_
                exact x_iret C E dX8_disc_116 (hE 0 (Option.some.inj h).symm)
              · have h := ifN h c14
                refine x_aload_n C (i := 0) dX8_disc_98 rfl rfl ?_
                obtain ⟨x15, ex15, h⟩ := ob h
                refine x_getR C fl_X8_25 dX8_disc_99 ex15 ?_
                obtain ⟨r16, er16, h⟩ := ob h
                refine x_callVr C Z mv_X2_movesNow lk_X8_168 (rv_h er16) (ct_X2_movesNow er16) (by decide) rfl rfl (Nat.le_of_ble_eq_true rfl) dX8_disc_102 ?_
                refine x_iconst C (v := 4) dX8_disc_105 (by decide) ?_
                refine x_iload_n C (i := 3) dX8_disc_106 rfl rfl ?_
                refine x_imul C dX8_disc_107 ?_
                refine x_ishr C dX8_disc_108 ?_
                refine x_bipush C (v := 15) dX8_disc_109 (by decide) ?_
                refine x_iand C dX8_disc_111 ?_
                refine x_goto C (tgt := 116) dX8_disc_112 (by decide) ?_
                exact x_iret C E dX8_disc_116 (hE ((r16 >>> (((4 : Int32) * r7) &&& 31)) &&& 15) (Option.some.inj h).symm)
        clear h
        have h := hz10
        refine x_icmp_ne C (tgt := 48) dX8_disc_41 (by decide) (fun c19 => ?_) (fun c19 => ?_)
        · have h := ifN h c19
          refine x_iconst C (v := 0) dX8_disc_48 (by decide) ?_
          refine x_wk [true, false, true, true, false] (lo' := [some (.ref t0), none, some (.int p2), some (.int r7), none]) rfl ?_
          obtain rfl := Option.some.inj h
          exact hJ17
        · have h := ifP h c19
          refine x_iconst C (v := 1) dX8_disc_44 (by decide) ?_
          refine x_goto C (tgt := 49) dX8_disc_45 (by decide) ?_
          refine x_wk [true, false, true, true, false] (lo' := [some (.ref t0), none, some (.int p2), some (.int r7), none]) rfl ?_
          obtain rfl := Option.some.inj h
          exact hJ17
      · have h := ifN h c5
        refine x_ldc C kc_X8_55 dX8_disc_20 ?_
        exact x_iret C E dX8_disc_22 (hE (-1000001) (Option.some.inj h).symm)
theorem dX8_peg_0 : decode cX8_peg 0 = .ok (.aload_n 0, 1) := by decide +kernel
theorem dX8_peg_1 : decode cX8_peg 1 = .ok (.getfield 25, 3) := by decide +kernel
theorem dX8_peg_4 : decode cX8_peg 4 = .ok (.iload_n 1, 1) := by decide +kernel
theorem dX8_peg_5 : decode cX8_peg 5 = .ok (.invokevirtual 127, 3) := by decide +kernel
theorem dX8_peg_8 : decode cX8_peg 8 = .ok (.ifCond .eq 12, 3) := by decide +kernel
theorem dX8_peg_11 : decode cX8_peg 11 = .ok (.iload_n 2, 1) := by decide +kernel
theorem dX8_peg_12 : decode cX8_peg 12 = .ok (.ifCond .lt 8, 3) := by decide +kernel
theorem dX8_peg_15 : decode cX8_peg 15 = .ok (.iload_n 2, 1) := by decide +kernel
theorem dX8_peg_16 : decode cX8_peg 16 = .ok (.iconst 2, 1) := by decide +kernel
theorem dX8_peg_17 : decode cX8_peg 17 = .ok (.if_icmp .le 6, 3) := by decide +kernel
theorem dX8_peg_20 : decode cX8_peg 20 = .ok (.ldc 55, 2) := by decide +kernel
theorem dX8_peg_22 : decode cX8_peg 22 = .ok (.ireturn, 1) := by decide +kernel
theorem dX8_peg_23 : decode cX8_peg 23 = .ok (.aload_n 0, 1) := by decide +kernel
theorem dX8_peg_24 : decode cX8_peg 24 = .ok (.getfield 25, 3) := by decide +kernel
theorem dX8_peg_27 : decode cX8_peg 27 = .ok (.iload_n 1, 1) := by decide +kernel
theorem dX8_peg_28 : decode cX8_peg 28 = .ok (.invokevirtual 171, 3) := by decide +kernel
theorem dX8_peg_31 : decode cX8_peg 31 = .ok (.istore_n 3, 1) := by decide +kernel
theorem dX8_peg_32 : decode cX8_peg 32 = .ok (.iload_n 2, 1) := by decide +kernel
theorem dX8_peg_33 : decode cX8_peg 33 = .ok (.lookupswitch 34 #[(0, 27), (1, 32)], 27) := by decide +kernel
theorem dX8_peg_60 : decode cX8_peg 60 = .ok (.iload_n 3, 1) := by decide +kernel
theorem dX8_peg_61 : decode cX8_peg 61 = .ok (.invokestatic 174, 3) := by decide +kernel
theorem dX8_peg_64 : decode cX8_peg 64 = .ok (.ireturn, 1) := by decide +kernel
theorem dX8_peg_65 : decode cX8_peg 65 = .ok (.iload_n 3, 1) := by decide +kernel
theorem dX8_peg_66 : decode cX8_peg 66 = .ok (.ireturn, 1) := by decide +kernel
theorem dX8_peg_67 : decode cX8_peg 67 = .ok (.iload_n 3, 1) := by decide +kernel
theorem dX8_peg_68 : decode cX8_peg 68 = .ok (.ifCond .ne 8, 3) := by decide +kernel
theorem dX8_peg_71 : decode cX8_peg 71 = .ok (.ldc 179, 2) := by decide +kernel
theorem dX8_peg_73 : decode cX8_peg 73 = .ok (.goto 11, 3) := by decide +kernel
theorem dX8_peg_76 : decode cX8_peg 76 = .ok (.aload_n 0, 1) := by decide +kernel
theorem dX8_peg_77 : decode cX8_peg 77 = .ok (.getfield 25, 3) := by decide +kernel
theorem dX8_peg_80 : decode cX8_peg 80 = .ok (.iload_n 1, 1) := by decide +kernel
theorem dX8_peg_81 : decode cX8_peg 81 = .ok (.invokevirtual 137, 3) := by decide +kernel
theorem dX8_peg_84 : decode cX8_peg 84 = .ok (.ireturn, 1) := by decide +kernel
def m_X8_peg (N : Nat) (σ : Hp) (t0 : Nat) (p1 : Int32) (p2 : Int32) : Option (Int32) :=
  (rv N σ t0 8).bind fun _ =>
  (gR N σ t0 8 2).bind fun x1 =>
  (m_X2_hasPeg N σ x1 p1).bind fun r2 =>
  if r2 = 0 then
   some (-1000001)
  else
   if p2 < 0 then
   some (-1000001)
  else
   if p2 ≤ 2 then
   (gR N σ t0 8 2).bind fun x6 =>
  (m_X2_lyingOn N σ x6 p1).bind fun r7 =>
  if p2 = 0 then
   (m_J6_bitCount_0f7a4 r7).bind fun r9 =>
  some r9
  else if p2 = 1 then
   some r7
  else 
   if r7 = 0 then
   some (-1000000)
  else
   (gR N σ t0 8 2).bind fun x12 =>
  (m_X2_topOf N σ x12 p1).bind fun r13 =>
  some r13
  else
   some (-1000001)
set_option maxHeartbeats 4000000 in
set_option maxRecDepth 100000 in
theorem ct_X8_peg {l : Launch} {D : va_G} {cy : Nat → Nat} {N : Nat} {σ : Hp} {t0 : Nat} {p1 : Int32} {p2 : Int32} {r : Int32} (h : m_X8_peg N σ t0 p1 p2 = some r) : Ct l D cy yX8_peg cX8_peg 4 (some .int) 3 [.ref t0, .int p1, .int p2] N σ (fun v s' => v = (some (.int r)) ∧ s' = σ) := by
  refine Ct.intro [some (.ref t0), some (.int p1), some (.int p2), none] (by decide) rfl (Nat.le_of_ble_eq_true rfl) ?_
  intro κ ω e1 e2 e3 e4 C Z E
  subst e1; subst e2; subst e3; subst e4
  have C : Cx κ 4 3 cX8_peg RX8 "peg" := C
  have hE : ∀ x : Int32, r = x → ((some (Value.int x)) = (some (Value.int r)) ∧ σ = σ) := fun x hx => by subst hx; exact ⟨rfl, rfl⟩
  unfold m_X8_peg at h
  obtain ⟨_, _, h⟩ := ob h
  refine x_aload_n C (i := 0) dX8_peg_0 rfl rfl ?_
  obtain ⟨x1, ex1, h⟩ := ob h
  refine x_getR C fl_X8_25 dX8_peg_1 ex1 ?_
  refine x_iload_n C (i := 1) dX8_peg_4 rfl rfl ?_
  obtain ⟨r2, er2, h⟩ := ob h
  refine x_callVr C Z mv_X2_hasPeg lk_X8_127 (rv_h er2) (ct_X2_hasPeg er2) (by decide) rfl rfl (Nat.le_of_ble_eq_true rfl) dX8_peg_5 ?_
  refine x_if_eq C (tgt := 20) dX8_peg_8 (by decide) (fun c3 => ?_) (fun c3 => ?_)
  · have h := ifP h c3
    refine x_ldc C kc_X8_55 dX8_peg_20 ?_
    exact x_iret C E dX8_peg_22 (hE (-1000001) (Option.some.inj h).symm)
  · have h := ifN h c3
    refine x_iload_n C (i := 2) dX8_peg_11 rfl rfl ?_
    refine x_if_lt C (tgt := 20) dX8_peg_12 (by decide) (fun c4 => ?_) (fun c4 => ?_)
    · have h := ifP h c4
      refine x_ldc C kc_X8_55 dX8_peg_20 ?_
      exact x_iret C E dX8_peg_22 (hE (-1000001) (Option.some.inj h).symm)
    · have h := ifN h c4
      refine x_iload_n C (i := 2) dX8_peg_15 rfl rfl ?_
      refine x_iconst C (v := 2) dX8_peg_16 (by decide) ?_
      refine x_icmp_le C (tgt := 23) dX8_peg_17 (by decide) (fun c5 => ?_) (fun c5 => ?_)
      · have h := ifP h c5
        refine x_aload_n C (i := 0) dX8_peg_23 rfl rfl ?_
        obtain ⟨x6, ex6, h⟩ := ob h
        refine x_getR C fl_X8_25 dX8_peg_24 ex6 ?_
        refine x_iload_n C (i := 1) dX8_peg_27 rfl rfl ?_
        obtain ⟨r7, er7, h⟩ := ob h
        refine x_callVr C Z mv_X2_lyingOn lk_X8_171 (rv_h er7) (ct_X2_lyingOn er7) (by decide) rfl rfl (Nat.le_of_ble_eq_true rfl) dX8_peg_28 ?_
        refine x_istore_n C (i := 3) (lo' := [some (.ref t0), some (.int p1), some (.int p2), some (.int r7)]) dX8_peg_31 rfl (by decide) rfl rfl ?_
        refine x_iload_n C (i := 2) dX8_peg_32 rfl rfl ?_
        by_cases c8 : p2 = 0
        · have h := ifP h c8
          refine x_lookup C (off := 27) (tgt := 60) dX8_peg_33 (by decide) (by rw [c8]; rfl) (by decide) ?_
          refine x_iload_n C (i := 3) dX8_peg_60 rfl rfl ?_
          obtain ⟨r9, er9, h⟩ := ob h
          refine x_callSr C Z ms_J6_bitCount_0f7a4 lk_X8_174 (ct_J6_bitCount_0f7a4 (N := ω.1) (σ := σ) er9) (by decide) rfl rfl (Nat.le_of_ble_eq_true rfl) dX8_peg_61 ?_
          exact x_iret C E dX8_peg_64 (hE r9 (Option.some.inj h).symm)
        · have h := ifN h c8
          by_cases c10 : p2 = 1
          · have h := ifP h c10
            refine x_lookup C (off := 32) (tgt := 65) dX8_peg_33 (by decide) (by rw [c10]; rfl) (by decide) ?_
            refine x_iload_n C (i := 3) dX8_peg_65 rfl rfl ?_
            exact x_iret C E dX8_peg_66 (hE r7 (Option.some.inj h).symm)
          · have h := ifN h c10
            refine x_lookup C (off := 34) (tgt := 67) dX8_peg_33 (by decide) (by rw [show (#[(0, 27), (1, 32)] : Array (Int × Int)).toList = [(0, 27), (1, 32)] from rfl, lv_osw c8 (by decide), lv_osw c10 (by decide)]; rfl) (by decide) ?_
            refine x_iload_n C (i := 3) dX8_peg_67 rfl rfl ?_
            refine x_if_ne C (tgt := 76) dX8_peg_68 (by decide) (fun c11 => ?_) (fun c11 => ?_)
            · have h := ifN h c11
              refine x_aload_n C (i := 0) dX8_peg_76 rfl rfl ?_
              obtain ⟨x12, ex12, h⟩ := ob h
              refine x_getR C fl_X8_25 dX8_peg_77 ex12 ?_
              refine x_iload_n C (i := 1) dX8_peg_80 rfl rfl ?_
              obtain ⟨r13, er13, h⟩ := ob h
              refine x_callVr C Z mv_X2_topOf lk_X8_137 (rv_h er13) (ct_X2_topOf er13) (by decide) rfl rfl (Nat.le_of_ble_eq_true rfl) dX8_peg_81 ?_
              exact x_iret C E dX8_peg_84 (hE r13 (Option.some.inj h).symm)
            · have h := ifP h c11
              refine x_ldc C kc_X8_179 dX8_peg_71 ?_
              refine x_goto C (tgt := 84) dX8_peg_73 (by decide) ?_
              exact x_iret C E dX8_peg_84 (hE (-1000000) (Option.some.inj h).symm)
      · have h := ifN h c5
        refine x_ldc C kc_X8_55 dX8_peg_20 ?_
        exact x_iret C E dX8_peg_22 (hE (-1000001) (Option.some.inj h).symm)
theorem dX8_can_0 : decode cX8_can 0 = .ok (.aload_n 0, 1) := by decide +kernel
theorem dX8_can_1 : decode cX8_can 1 = .ok (.getfield 25, 3) := by decide +kernel
theorem dX8_can_4 : decode cX8_can 4 = .ok (.invokevirtual 156, 3) := by decide +kernel
theorem dX8_can_7 : decode cX8_can 7 = .ok (.ifCond .eq 8, 3) := by decide +kernel
theorem dX8_can_10 : decode cX8_can 10 = .ok (.ldc 133, 2) := by decide +kernel
theorem dX8_can_12 : decode cX8_can 12 = .ok (.goto 10, 3) := by decide +kernel
theorem dX8_can_15 : decode cX8_can 15 = .ok (.aload_n 0, 1) := by decide +kernel
theorem dX8_can_16 : decode cX8_can 16 = .ok (.getfield 25, 3) := by decide +kernel
theorem dX8_can_19 : decode cX8_can 19 = .ok (.invokevirtual 168, 3) := by decide +kernel
theorem dX8_can_22 : decode cX8_can 22 = .ok (.ireturn, 1) := by decide +kernel
def m_X8_can (N : Nat) (σ : Hp) (t0 : Nat) : Option (Int32) :=
  (rv N σ t0 8).bind fun _ =>
  (gR N σ t0 8 2).bind fun x1 =>
  (m_X2_isNone N σ x1).bind fun r2 =>
  if r2 = 0 then
   (gR N σ t0 8 2).bind fun x4 =>
  (m_X2_movesNow N σ x4).bind fun r5 =>
  some r5
  else
   some (-1000002)
set_option maxHeartbeats 4000000 in
set_option maxRecDepth 100000 in
theorem ct_X8_can {l : Launch} {D : va_G} {cy : Nat → Nat} {N : Nat} {σ : Hp} {t0 : Nat} {r : Int32} (h : m_X8_can N σ t0 = some r) : Ct l D cy yX8_can cX8_can 1 (some .int) 4 [.ref t0] N σ (fun v s' => v = (some (.int r)) ∧ s' = σ) := by
  refine Ct.intro [some (.ref t0)] (by decide) rfl (Nat.le_of_ble_eq_true rfl) ?_
  intro κ ω e1 e2 e3 e4 C Z E
  subst e1; subst e2; subst e3; subst e4
  have C : Cx κ 1 4 cX8_can RX8 "can" := C
  have hE : ∀ x : Int32, r = x → ((some (Value.int x)) = (some (Value.int r)) ∧ σ = σ) := fun x hx => by subst hx; exact ⟨rfl, rfl⟩
  unfold m_X8_can at h
  obtain ⟨_, _, h⟩ := ob h
  refine x_aload_n C (i := 0) dX8_can_0 rfl rfl ?_
  obtain ⟨x1, ex1, h⟩ := ob h
  refine x_getR C fl_X8_25 dX8_can_1 ex1 ?_
  obtain ⟨r2, er2, h⟩ := ob h
  refine x_callVr C Z mv_X2_isNone lk_X8_156 (rv_h er2) (ct_X2_isNone er2) (by decide) rfl rfl (Nat.le_of_ble_eq_true rfl) dX8_can_4 ?_
  refine x_if_eq C (tgt := 15) dX8_can_7 (by decide) (fun c3 => ?_) (fun c3 => ?_)
  · have h := ifP h c3
    refine x_aload_n C (i := 0) dX8_can_15 rfl rfl ?_
    obtain ⟨x4, ex4, h⟩ := ob h
    refine x_getR C fl_X8_25 dX8_can_16 ex4 ?_
    obtain ⟨r5, er5, h⟩ := ob h
    refine x_callVr C Z mv_X2_movesNow lk_X8_168 (rv_h er5) (ct_X2_movesNow er5) (by decide) rfl rfl (Nat.le_of_ble_eq_true rfl) dX8_can_19 ?_
    exact x_iret C E dX8_can_22 (hE r5 (Option.some.inj h).symm)
  · have h := ifN h c3
    refine x_ldc C kc_X8_133 dX8_can_10 ?_
    refine x_goto C (tgt := 22) dX8_can_12 (by decide) ?_
    exact x_iret C E dX8_can_22 (hE (-1000002) (Option.some.inj h).symm)
theorem dX8_judge_0 : decode cX8_judge 0 = .ok (.aload_n 0, 1) := by decide +kernel
theorem dX8_judge_1 : decode cX8_judge 1 = .ok (.getfield 25, 3) := by decide +kernel
theorem dX8_judge_4 : decode cX8_judge 4 = .ok (.invokevirtual 156, 3) := by decide +kernel
theorem dX8_judge_7 : decode cX8_judge 7 = .ok (.ifCond .eq 6, 3) := by decide +kernel
theorem dX8_judge_10 : decode cX8_judge 10 = .ok (.ldc 133, 2) := by decide +kernel
theorem dX8_judge_12 : decode cX8_judge 12 = .ok (.ireturn, 1) := by decide +kernel
theorem dX8_judge_13 : decode cX8_judge 13 = .ok (.aload_n 0, 1) := by decide +kernel
theorem dX8_judge_14 : decode cX8_judge 14 = .ok (.iload_n 1, 1) := by decide +kernel
theorem dX8_judge_15 : decode cX8_judge 15 = .ok (.invokevirtual 51, 3) := by decide +kernel
theorem dX8_judge_18 : decode cX8_judge 18 = .ok (.astore 4, 2) := by decide +kernel
theorem dX8_judge_20 : decode cX8_judge 20 = .ok (.aload 4, 2) := by decide +kernel
theorem dX8_judge_22 : decode cX8_judge 22 = .ok (.ifnull 14, 3) := by decide +kernel
theorem dX8_judge_25 : decode cX8_judge 25 = .ok (.iload_n 3, 1) := by decide +kernel
theorem dX8_judge_26 : decode cX8_judge 26 = .ok (.iconst 1, 1) := by decide +kernel
theorem dX8_judge_27 : decode cX8_judge 27 = .ok (.if_icmp .lt 9, 3) := by decide +kernel
theorem dX8_judge_30 : decode cX8_judge 30 = .ok (.iload_n 3, 1) := by decide +kernel
theorem dX8_judge_31 : decode cX8_judge 31 = .ok (.bipush 16, 2) := by decide +kernel
theorem dX8_judge_33 : decode cX8_judge 33 = .ok (.if_icmp .le 6, 3) := by decide +kernel
theorem dX8_judge_36 : decode cX8_judge 36 = .ok (.ldc 55, 2) := by decide +kernel
theorem dX8_judge_38 : decode cX8_judge 38 = .ok (.ireturn, 1) := by decide +kernel
theorem dX8_judge_39 : decode cX8_judge 39 = .ok (.aload 4, 2) := by decide +kernel
theorem dX8_judge_41 : decode cX8_judge 41 = .ok (.iload_n 2, 1) := by decide +kernel
theorem dX8_judge_42 : decode cX8_judge 42 = .ok (.iload_n 3, 1) := by decide +kernel
theorem dX8_judge_43 : decode cX8_judge 43 = .ok (.invokevirtual 67, 3) := by decide +kernel
theorem dX8_judge_46 : decode cX8_judge 46 = .ok (.istore 5, 2) := by decide +kernel
theorem dX8_judge_48 : decode cX8_judge 48 = .ok (.iload 5, 2) := by decide +kernel
theorem dX8_judge_50 : decode cX8_judge 50 = .ok (.ifCond .eq 10, 3) := by decide +kernel
theorem dX8_judge_53 : decode cX8_judge 53 = .ok (.aload_n 0, 1) := by decide +kernel
theorem dX8_judge_54 : decode cX8_judge 54 = .ok (.iload 5, 2) := by decide +kernel
theorem dX8_judge_56 : decode cX8_judge 56 = .ok (.invokevirtual 56, 3) := by decide +kernel
theorem dX8_judge_59 : decode cX8_judge 59 = .ok (.ireturn, 1) := by decide +kernel
theorem dX8_judge_60 : decode cX8_judge 60 = .ok (.aload_n 0, 1) := by decide +kernel
theorem dX8_judge_61 : decode cX8_judge 61 = .ok (.getfield 29, 3) := by decide +kernel
theorem dX8_judge_64 : decode cX8_judge 64 = .ok (.aload_n 0, 1) := by decide +kernel
theorem dX8_judge_65 : decode cX8_judge 65 = .ok (.getfield 25, 3) := by decide +kernel
theorem dX8_judge_68 : decode cX8_judge 68 = .ok (.invokevirtual 118, 3) := by decide +kernel
theorem dX8_judge_71 : decode cX8_judge 71 = .ok (.aload_n 0, 1) := by decide +kernel
theorem dX8_judge_72 : decode cX8_judge 72 = .ok (.aload_n 0, 1) := by decide +kernel
theorem dX8_judge_73 : decode cX8_judge 73 = .ok (.getfield 29, 3) := by decide +kernel
theorem dX8_judge_76 : decode cX8_judge 76 = .ok (.aload 4, 2) := by decide +kernel
theorem dX8_judge_78 : decode cX8_judge 78 = .ok (.iload_n 2, 1) := by decide +kernel
theorem dX8_judge_79 : decode cX8_judge 79 = .ok (.iload_n 3, 1) := by decide +kernel
theorem dX8_judge_80 : decode cX8_judge 80 = .ok (.invokevirtual 228, 3) := by decide +kernel
theorem dX8_judge_83 : decode cX8_judge 83 = .ok (.invokevirtual 64, 3) := by decide +kernel
theorem dX8_judge_86 : decode cX8_judge 86 = .ok (.ireturn, 1) := by decide +kernel
def m_X8_judge (N : Nat) (σ : Hp) (t0 : Nat) (p1 : Int32) (p2 : Int32) (p3 : Int32) : Option (Int32 × Hp) :=
  (rv N σ t0 8).bind fun _ =>
  (gR N σ t0 8 2).bind fun x1 =>
  (m_X2_isNone N σ x1).bind fun r2 =>
  if r2 = 0 then
   (m_X8_rowAt N σ t0 p1).bind fun r4 =>
  cQ r4 (
   some ((-1000001), σ)) (fun q5 =>
   if p3 < 1 then
   some ((-1000001), σ)
  else
   if p3 ≤ 16 then
   (m_X5_flaw N σ q5 p2 p3).bind fun r8 =>
  if r8 = 0 then
   (gR N σ t0 8 3).bind fun x10 =>
  (gR N σ t0 8 2).bind fun x11 =>
  (m_X2_take N σ x10 x11).bind fun r12 =>
  (gR N r12 t0 8 3).bind fun x13 =>
  (m_X2_firstWrong N r12 x13 q5 p2 p3).bind fun r14 =>
  (m_X8_well N r14.2 t0 r14.1).bind fun r15 =>
  some (r15.1, r15.2)
  else
   (m_X8_found N σ t0 r8).bind fun r16 =>
  some (r16.1, r16.2)
  else
   some ((-1000001), σ))
  else
   some ((-1000002), σ)
set_option maxHeartbeats 4000000 in
set_option maxRecDepth 100000 in
theorem ct_X8_judge {l : Launch} {D : va_G} {cy : Nat → Nat} {N : Nat} {σ : Hp} {t0 : Nat} {p1 : Int32} {p2 : Int32} {p3 : Int32} {r : Int32 × Hp} (h : m_X8_judge N σ t0 p1 p2 p3 = some r) : Ct l D cy yX8_judge cX8_judge 6 (some .int) 6 [.ref t0, .int p1, .int p2, .int p3] N σ (fun v s' => v = (some (.int r.1)) ∧ s' = r.2) := by
  refine Ct.intro [some (.ref t0), some (.int p1), some (.int p2), some (.int p3), none, none] (by decide) rfl (Nat.le_of_ble_eq_true rfl) ?_
  intro κ ω e1 e2 e3 e4 C Z E
  subst e1; subst e2; subst e3; subst e4
  have C : Cx κ 6 6 cX8_judge RX8 "judge" := C
  have hE : ∀ x : Int32 × Hp, r = x → ((some (Value.int x.1)) = (some (Value.int r.1)) ∧ x.2 = r.2) := fun x hx => by subst hx; exact ⟨rfl, rfl⟩
  unfold m_X8_judge at h
  obtain ⟨_, _, h⟩ := ob h
  refine x_aload_n C (i := 0) dX8_judge_0 rfl rfl ?_
  obtain ⟨x1, ex1, h⟩ := ob h
  refine x_getR C fl_X8_25 dX8_judge_1 ex1 ?_
  obtain ⟨r2, er2, h⟩ := ob h
  refine x_callVr C Z mv_X2_isNone lk_X8_156 (rv_h er2) (ct_X2_isNone er2) (by decide) rfl rfl (Nat.le_of_ble_eq_true rfl) dX8_judge_4 ?_
  refine x_if_eq C (tgt := 13) dX8_judge_7 (by decide) (fun c3 => ?_) (fun c3 => ?_)
  · have h := ifP h c3
    refine x_aload_n C (i := 0) dX8_judge_13 rfl rfl ?_
    refine x_iload_n C (i := 1) dX8_judge_14 rfl rfl ?_
    obtain ⟨r4, er4, h⟩ := ob h
    refine x_callVr C Z mv_X8_rowAt lk_X8_51 (rv_h er4) (ct_X8_rowAt er4) (by decide) rfl rfl (Nat.le_of_ble_eq_true rfl) dX8_judge_15 ?_
    refine x_astoreQ C (i := 4) (lo' := [some (.ref t0), some (.int p1), some (.int p2), some (.int p3), some (va_rf r4), none]) dX8_judge_18 (by decide) rfl rfl ?_
    refine x_aloadQ C (i := 4) dX8_judge_20 rfl ?_
    refine x_ifnull C (tgt := 36) dX8_judge_22 (by decide) (fun hq => ?_) (fun q5 hq => ?_)
    · subst hq
      have h := cQ_n h
      refine x_ldc C kc_X8_55 dX8_judge_36 ?_
      exact x_iret C E dX8_judge_38 (hE ((-1000001), σ) (Option.some.inj h).symm)
    · subst hq
      have h := cQ_s h
      refine x_iload_n C (i := 3) dX8_judge_25 rfl rfl ?_
      refine x_iconst C (v := 1) dX8_judge_26 (by decide) ?_
      refine x_icmp_lt C (tgt := 36) dX8_judge_27 (by decide) (fun c6 => ?_) (fun c6 => ?_)
      · have h := ifP h c6
        refine x_ldc C kc_X8_55 dX8_judge_36 ?_
        exact x_iret C E dX8_judge_38 (hE ((-1000001), σ) (Option.some.inj h).symm)
      · have h := ifN h c6
        refine x_iload_n C (i := 3) dX8_judge_30 rfl rfl ?_
        refine x_bipush C (v := 16) dX8_judge_31 (by decide) ?_
        refine x_icmp_le C (tgt := 39) dX8_judge_33 (by decide) (fun c7 => ?_) (fun c7 => ?_)
        · have h := ifP h c7
          refine x_aload C (i := 4) dX8_judge_39 rfl ?_
          refine x_iload_n C (i := 2) dX8_judge_41 rfl rfl ?_
          refine x_iload_n C (i := 3) dX8_judge_42 rfl rfl ?_
          obtain ⟨r8, er8, h⟩ := ob h
          refine x_callVr C Z mv_X5_flaw lk_X8_67 (rv_h er8) (ct_X5_flaw er8) (by decide) rfl rfl (Nat.le_of_ble_eq_true rfl) dX8_judge_43 ?_
          refine x_istore C (i := 5) (lo' := [some (.ref t0), some (.int p1), some (.int p2), some (.int p3), some (.ref q5), some (.int r8)]) dX8_judge_46 (by decide) rfl rfl ?_
          refine x_iload C (i := 5) dX8_judge_48 rfl ?_
          refine x_if_eq C (tgt := 60) dX8_judge_50 (by decide) (fun c9 => ?_) (fun c9 => ?_)
          · have h := ifP h c9
            refine x_aload_n C (i := 0) dX8_judge_60 rfl rfl ?_
            obtain ⟨x10, ex10, h⟩ := ob h
            refine x_getR C fl_X8_29 dX8_judge_61 ex10 ?_
            refine x_aload_n C (i := 0) dX8_judge_64 rfl rfl ?_
            obtain ⟨x11, ex11, h⟩ := ob h
            refine x_getR C fl_X8_25 dX8_judge_65 ex11 ?_
            obtain ⟨r12, er12, h⟩ := ob h
            refine x_callVn C Z mv_X2_take lk_X8_118 (rv_h er12) (ct_X2_take er12) (by decide) rfl rfl (Nat.le_of_ble_eq_true rfl) dX8_judge_68 ?_
            refine x_aload_n C (i := 0) dX8_judge_71 rfl rfl ?_
            refine x_aload_n C (i := 0) dX8_judge_72 rfl rfl ?_
            obtain ⟨x13, ex13, h⟩ := ob h
            refine x_getR C fl_X8_29 dX8_judge_73 ex13 ?_
            refine x_aload C (i := 4) dX8_judge_76 rfl ?_
            refine x_iload_n C (i := 2) dX8_judge_78 rfl rfl ?_
            refine x_iload_n C (i := 3) dX8_judge_79 rfl rfl ?_
            obtain ⟨r14, er14, h⟩ := ob h
            refine x_callVr C Z mv_X2_firstWrong lk_X8_228 (rv_h er14) (ct_X2_firstWrong er14) (by decide) rfl rfl (Nat.le_of_ble_eq_true rfl) dX8_judge_80 ?_
            obtain ⟨r15, er15, h⟩ := ob h
            refine x_callVr C Z mv_X8_well lk_X8_64 (rv_h er15) (ct_X8_well er15) (by decide) rfl rfl (Nat.le_of_ble_eq_true rfl) dX8_judge_83 ?_
            exact x_iret C E dX8_judge_86 (hE (r15.1, r15.2) (Option.some.inj h).symm)
          · have h := ifN h c9
            refine x_aload_n C (i := 0) dX8_judge_53 rfl rfl ?_
            refine x_iload C (i := 5) dX8_judge_54 rfl ?_
            obtain ⟨r16, er16, h⟩ := ob h
            refine x_callVr C Z mv_X8_found lk_X8_56 (rv_h er16) (ct_X8_found er16) (by decide) rfl rfl (Nat.le_of_ble_eq_true rfl) dX8_judge_56 ?_
            exact x_iret C E dX8_judge_59 (hE (r16.1, r16.2) (Option.some.inj h).symm)
        · have h := ifN h c7
          refine x_ldc C kc_X8_55 dX8_judge_36 ?_
          exact x_iret C E dX8_judge_38 (hE ((-1000001), σ) (Option.some.inj h).symm)
  · have h := ifN h c3
    refine x_ldc C kc_X8_133 dX8_judge_10 ?_
    exact x_iret C E dX8_judge_12 (hE ((-1000002), σ) (Option.some.inj h).symm)
theorem dX8_suppose_0 : decode cX8_suppose 0 = .ok (.aload_n 0, 1) := by decide +kernel
theorem dX8_suppose_1 : decode cX8_suppose 1 = .ok (.getfield 29, 3) := by decide +kernel
theorem dX8_suppose_4 : decode cX8_suppose 4 = .ok (.aload_n 0, 1) := by decide +kernel
theorem dX8_suppose_5 : decode cX8_suppose 5 = .ok (.getfield 25, 3) := by decide +kernel
theorem dX8_suppose_8 : decode cX8_suppose 8 = .ok (.invokevirtual 118, 3) := by decide +kernel
theorem dX8_suppose_11 : decode cX8_suppose 11 = .ok (.iload_n 3, 1) := by decide +kernel
theorem dX8_suppose_12 : decode cX8_suppose 12 = .ok (.lookupswitch 71 #[(0, 28), (1, 53)], 28) := by decide +kernel
theorem dX8_suppose_40 : decode cX8_suppose 40 = .ok (.aload_n 0, 1) := by decide +kernel
theorem dX8_suppose_41 : decode cX8_suppose 41 = .ok (.getfield 29, 3) := by decide +kernel
theorem dX8_suppose_44 : decode cX8_suppose 44 = .ok (.iload_n 1, 1) := by decide +kernel
theorem dX8_suppose_45 : decode cX8_suppose 45 = .ok (.iload_n 2, 1) := by decide +kernel
theorem dX8_suppose_46 : decode cX8_suppose 46 = .ok (.invokevirtual 278, 3) := by decide +kernel
theorem dX8_suppose_49 : decode cX8_suppose 49 = .ok (.iload_n 2, 1) := by decide +kernel
theorem dX8_suppose_50 : decode cX8_suppose 50 = .ok (.iconst 1, 1) := by decide +kernel
theorem dX8_suppose_51 : decode cX8_suppose 51 = .ok (.if_icmp .lt 12, 3) := by decide +kernel
theorem dX8_suppose_54 : decode cX8_suppose 54 = .ok (.iload_n 2, 1) := by decide +kernel
theorem dX8_suppose_55 : decode cX8_suppose 55 = .ok (.iconst 5, 1) := by decide +kernel
theorem dX8_suppose_56 : decode cX8_suppose 56 = .ok (.if_icmp .gt 7, 3) := by decide +kernel
theorem dX8_suppose_59 : decode cX8_suppose 59 = .ok (.iconst 1, 1) := by decide +kernel
theorem dX8_suppose_60 : decode cX8_suppose 60 = .ok (.goto 4, 3) := by decide +kernel
theorem dX8_suppose_63 : decode cX8_suppose 63 = .ok (.iconst 0, 1) := by decide +kernel
theorem dX8_suppose_64 : decode cX8_suppose 64 = .ok (.ireturn, 1) := by decide +kernel
theorem dX8_suppose_65 : decode cX8_suppose 65 = .ok (.aload_n 0, 1) := by decide +kernel
theorem dX8_suppose_66 : decode cX8_suppose 66 = .ok (.getfield 29, 3) := by decide +kernel
theorem dX8_suppose_69 : decode cX8_suppose 69 = .ok (.iload_n 1, 1) := by decide +kernel
theorem dX8_suppose_70 : decode cX8_suppose 70 = .ok (.iload_n 2, 1) := by decide +kernel
theorem dX8_suppose_71 : decode cX8_suppose 71 = .ok (.invokevirtual 153, 3) := by decide +kernel
theorem dX8_suppose_74 : decode cX8_suppose 74 = .ok (.aload_n 0, 1) := by decide +kernel
theorem dX8_suppose_75 : decode cX8_suppose 75 = .ok (.getfield 25, 3) := by decide +kernel
theorem dX8_suppose_78 : decode cX8_suppose 78 = .ok (.iload_n 2, 1) := by decide +kernel
theorem dX8_suppose_79 : decode cX8_suppose 79 = .ok (.invokevirtual 127, 3) := by decide +kernel
theorem dX8_suppose_82 : decode cX8_suppose 82 = .ok (.ireturn, 1) := by decide +kernel
theorem dX8_suppose_83 : decode cX8_suppose 83 = .ok (.aload_n 0, 1) := by decide +kernel
theorem dX8_suppose_84 : decode cX8_suppose 84 = .ok (.getfield 29, 3) := by decide +kernel
theorem dX8_suppose_87 : decode cX8_suppose 87 = .ok (.iload_n 2, 1) := by decide +kernel
theorem dX8_suppose_88 : decode cX8_suppose 88 = .ok (.putfield 159, 3) := by decide +kernel
theorem dX8_suppose_91 : decode cX8_suppose 91 = .ok (.iload_n 2, 1) := by decide +kernel
theorem dX8_suppose_92 : decode cX8_suppose 92 = .ok (.iconst 1, 1) := by decide +kernel
theorem dX8_suppose_93 : decode cX8_suppose 93 = .ok (.if_icmp .lt 7, 3) := by decide +kernel
theorem dX8_suppose_96 : decode cX8_suppose 96 = .ok (.iconst 1, 1) := by decide +kernel
theorem dX8_suppose_97 : decode cX8_suppose 97 = .ok (.goto 4, 3) := by decide +kernel
theorem dX8_suppose_100 : decode cX8_suppose 100 = .ok (.iconst 0, 1) := by decide +kernel
theorem dX8_suppose_101 : decode cX8_suppose 101 = .ok (.ireturn, 1) := by decide +kernel
def m_X8_suppose (N : Nat) (σ : Hp) (t0 : Nat) (p1 : Int32) (p2 : Int32) (p3 : Int32) : Option (Int32 × Hp) :=
  (rv N σ t0 8).bind fun _ =>
  (gR N σ t0 8 3).bind fun x1 =>
  (gR N σ t0 8 2).bind fun x2 =>
  (m_X2_take N σ x1 x2).bind fun r3 =>
  if p3 = 0 then
   (gR N r3 t0 8 3).bind fun x5 =>
  (m_X2_sortAs N r3 x5 p1 p2).bind fun r6 =>
  if p2 < 1 then
   some (0, r6)
  else
   if 5 < p2 then
   some (0, r6)
  else
   some (1, r6)
  else if p3 = 1 then
   (gR N r3 t0 8 3).bind fun x10 =>
  (m_X2_layBy N r3 x10 p1 p2).bind fun r11 =>
  (gR N r11 t0 8 2).bind fun x12 =>
  (m_X2_hasPeg N r11 x12 p2).bind fun r13 =>
  (zb r13).bind fun u14 =>
  some (r13, r11)
  else 
   (gR N r3 t0 8 3).bind fun x15 =>
  (pV N r3 x15 2 2 (.int p2)).bind fun σ16 =>
  if p2 < 1 then
   some (0, σ16)
  else
   some (1, σ16)
set_option maxHeartbeats 4000000 in
set_option maxRecDepth 100000 in
theorem ct_X8_suppose {l : Launch} {D : va_G} {cy : Nat → Nat} {N : Nat} {σ : Hp} {t0 : Nat} {p1 : Int32} {p2 : Int32} {p3 : Int32} {r : Int32 × Hp} (h : m_X8_suppose N σ t0 p1 p2 p3 = some r) : Ct l D cy yX8_suppose cX8_suppose 4 (some .boolean) 1 [.ref t0, .int p1, .int p2, .int p3] N σ (fun v s' => v = (some (.int r.1)) ∧ s' = r.2) := by
  refine Ct.intro [some (.ref t0), some (.int p1), some (.int p2), some (.int p3)] (by decide) rfl (Nat.le_of_ble_eq_true rfl) ?_
  intro κ ω e1 e2 e3 e4 C Z E
  subst e1; subst e2; subst e3; subst e4
  have C : Cx κ 4 1 cX8_suppose RX8 "suppose" := C
  have hE : ∀ x : Int32 × Hp, r = x → ((some (Value.int x.1)) = (some (Value.int r.1)) ∧ x.2 = r.2) := fun x hx => by subst hx; exact ⟨rfl, rfl⟩
  unfold m_X8_suppose at h
  obtain ⟨_, _, h⟩ := ob h
  refine x_aload_n C (i := 0) dX8_suppose_0 rfl rfl ?_
  obtain ⟨x1, ex1, h⟩ := ob h
  refine x_getR C fl_X8_29 dX8_suppose_1 ex1 ?_
  refine x_aload_n C (i := 0) dX8_suppose_4 rfl rfl ?_
  obtain ⟨x2, ex2, h⟩ := ob h
  refine x_getR C fl_X8_25 dX8_suppose_5 ex2 ?_
  obtain ⟨r3, er3, h⟩ := ob h
  refine x_callVn C Z mv_X2_take lk_X8_118 (rv_h er3) (ct_X2_take er3) (by decide) rfl rfl (Nat.le_of_ble_eq_true rfl) dX8_suppose_8 ?_
  refine x_iload_n C (i := 3) dX8_suppose_11 rfl rfl ?_
  by_cases c4 : p3 = 0
  · have h := ifP h c4
    refine x_lookup C (off := 28) (tgt := 40) dX8_suppose_12 (by decide) (by rw [c4]; rfl) (by decide) ?_
    refine x_aload_n C (i := 0) dX8_suppose_40 rfl rfl ?_
    obtain ⟨x5, ex5, h⟩ := ob h
    refine x_getR C fl_X8_29 dX8_suppose_41 ex5 ?_
    refine x_iload_n C (i := 1) dX8_suppose_44 rfl rfl ?_
    refine x_iload_n C (i := 2) dX8_suppose_45 rfl rfl ?_
    obtain ⟨r6, er6, h⟩ := ob h
    refine x_callVn C Z mv_X2_sortAs lk_X8_278 (rv_h er6) (ct_X2_sortAs er6) (by decide) rfl rfl (Nat.le_of_ble_eq_true rfl) dX8_suppose_46 ?_
    refine x_iload_n C (i := 2) dX8_suppose_49 rfl rfl ?_
    refine x_iconst C (v := 1) dX8_suppose_50 (by decide) ?_
    refine x_icmp_lt C (tgt := 63) dX8_suppose_51 (by decide) (fun c7 => ?_) (fun c7 => ?_)
    · have h := ifP h c7
      refine x_iconst C (v := 0) dX8_suppose_63 (by decide) ?_
      exact x_zret C E (by decide +kernel) dX8_suppose_64 (hE (0, r6) (Option.some.inj h).symm)
    · have h := ifN h c7
      refine x_iload_n C (i := 2) dX8_suppose_54 rfl rfl ?_
      refine x_iconst C (v := 5) dX8_suppose_55 (by decide) ?_
      refine x_icmp_gt C (tgt := 63) dX8_suppose_56 (by decide) (fun c8 => ?_) (fun c8 => ?_)
      · have h := ifP h c8
        refine x_iconst C (v := 0) dX8_suppose_63 (by decide) ?_
        exact x_zret C E (by decide +kernel) dX8_suppose_64 (hE (0, r6) (Option.some.inj h).symm)
      · have h := ifN h c8
        refine x_iconst C (v := 1) dX8_suppose_59 (by decide) ?_
        refine x_goto C (tgt := 64) dX8_suppose_60 (by decide) ?_
        exact x_zret C E (by decide +kernel) dX8_suppose_64 (hE (1, r6) (Option.some.inj h).symm)
  · have h := ifN h c4
    by_cases c9 : p3 = 1
    · have h := ifP h c9
      refine x_lookup C (off := 53) (tgt := 65) dX8_suppose_12 (by decide) (by rw [c9]; rfl) (by decide) ?_
      refine x_aload_n C (i := 0) dX8_suppose_65 rfl rfl ?_
      obtain ⟨x10, ex10, h⟩ := ob h
      refine x_getR C fl_X8_29 dX8_suppose_66 ex10 ?_
      refine x_iload_n C (i := 1) dX8_suppose_69 rfl rfl ?_
      refine x_iload_n C (i := 2) dX8_suppose_70 rfl rfl ?_
      obtain ⟨r11, er11, h⟩ := ob h
      refine x_callVn C Z mv_X2_layBy lk_X8_153 (rv_h er11) (ct_X2_layBy er11) (by decide) rfl rfl (Nat.le_of_ble_eq_true rfl) dX8_suppose_71 ?_
      refine x_aload_n C (i := 0) dX8_suppose_74 rfl rfl ?_
      obtain ⟨x12, ex12, h⟩ := ob h
      refine x_getR C fl_X8_25 dX8_suppose_75 ex12 ?_
      refine x_iload_n C (i := 2) dX8_suppose_78 rfl rfl ?_
      obtain ⟨r13, er13, h⟩ := ob h
      refine x_callVr C Z mv_X2_hasPeg lk_X8_127 (rv_h er13) (ct_X2_hasPeg er13) (by decide) rfl rfl (Nat.le_of_ble_eq_true rfl) dX8_suppose_79 ?_
      obtain ⟨u14, eu14, h⟩ := ob h
      exact x_zret C E (zb_n eu14) dX8_suppose_82 (hE (r13, r11) (Option.some.inj h).symm)
    · have h := ifN h c9
      refine x_lookup C (off := 71) (tgt := 83) dX8_suppose_12 (by decide) (by rw [show (#[(0, 28), (1, 53)] : Array (Int × Int)).toList = [(0, 28), (1, 53)] from rfl, lv_osw c4 (by decide), lv_osw c9 (by decide)]; rfl) (by decide) ?_
      refine x_aload_n C (i := 0) dX8_suppose_83 rfl rfl ?_
      obtain ⟨x15, ex15, h⟩ := ob h
      refine x_getR C fl_X8_29 dX8_suppose_84 ex15 ?_
      refine x_iload_n C (i := 2) dX8_suppose_87 rfl rfl ?_
      obtain ⟨σ16, eσ16, h⟩ := ob h
      refine x_put C pl_X8_159 dX8_suppose_88 (fun _ => ⟨rfl, rfl⟩) eσ16 ?_
      refine x_iload_n C (i := 2) dX8_suppose_91 rfl rfl ?_
      refine x_iconst C (v := 1) dX8_suppose_92 (by decide) ?_
      refine x_icmp_lt C (tgt := 100) dX8_suppose_93 (by decide) (fun c17 => ?_) (fun c17 => ?_)
      · have h := ifP h c17
        refine x_iconst C (v := 0) dX8_suppose_100 (by decide) ?_
        exact x_zret C E (by decide +kernel) dX8_suppose_101 (hE (0, σ16) (Option.some.inj h).symm)
      · have h := ifN h c17
        refine x_iconst C (v := 1) dX8_suppose_96 (by decide) ?_
        refine x_goto C (tgt := 101) dX8_suppose_97 (by decide) ?_
        exact x_zret C E (by decide +kernel) dX8_suppose_101 (hE (1, σ16) (Option.some.inj h).symm)
theorem dX8_fits_0 : decode cX8_fits 0 = .ok (.aload_n 0, 1) := by decide +kernel
theorem dX8_fits_1 : decode cX8_fits 1 = .ok (.iload_n 2, 1) := by decide +kernel
theorem dX8_fits_2 : decode cX8_fits 2 = .ok (.invokevirtual 51, 3) := by decide +kernel
theorem dX8_fits_5 : decode cX8_fits 5 = .ok (.astore 6, 2) := by decide +kernel
theorem dX8_fits_7 : decode cX8_fits 7 = .ok (.aload_n 0, 1) := by decide +kernel
theorem dX8_fits_8 : decode cX8_fits 8 = .ok (.getfield 25, 3) := by decide +kernel
theorem dX8_fits_11 : decode cX8_fits 11 = .ok (.iload_n 1, 1) := by decide +kernel
theorem dX8_fits_12 : decode cX8_fits 12 = .ok (.invokevirtual 147, 3) := by decide +kernel
theorem dX8_fits_15 : decode cX8_fits 15 = .ok (.ifCond .eq 32, 3) := by decide +kernel
theorem dX8_fits_18 : decode cX8_fits 18 = .ok (.aload 6, 2) := by decide +kernel
theorem dX8_fits_20 : decode cX8_fits 20 = .ok (.ifnull 27, 3) := by decide +kernel
theorem dX8_fits_23 : decode cX8_fits 23 = .ok (.iload 4, 2) := by decide +kernel
theorem dX8_fits_25 : decode cX8_fits 25 = .ok (.iconst 1, 1) := by decide +kernel
theorem dX8_fits_26 : decode cX8_fits 26 = .ok (.if_icmp .lt 21, 3) := by decide +kernel
theorem dX8_fits_29 : decode cX8_fits 29 = .ok (.iload 4, 2) := by decide +kernel
theorem dX8_fits_31 : decode cX8_fits 31 = .ok (.bipush 16, 2) := by decide +kernel
theorem dX8_fits_33 : decode cX8_fits 33 = .ok (.if_icmp .gt 14, 3) := by decide +kernel
theorem dX8_fits_36 : decode cX8_fits 36 = .ok (.iload 5, 2) := by decide +kernel
theorem dX8_fits_38 : decode cX8_fits 38 = .ok (.ifCond .lt 9, 3) := by decide +kernel
theorem dX8_fits_41 : decode cX8_fits 41 = .ok (.iload 5, 2) := by decide +kernel
theorem dX8_fits_43 : decode cX8_fits 43 = .ok (.iconst 2, 1) := by decide +kernel
theorem dX8_fits_44 : decode cX8_fits 44 = .ok (.if_icmp .le 6, 3) := by decide +kernel
theorem dX8_fits_47 : decode cX8_fits 47 = .ok (.ldc 55, 2) := by decide +kernel
theorem dX8_fits_49 : decode cX8_fits 49 = .ok (.ireturn, 1) := by decide +kernel
theorem dX8_fits_50 : decode cX8_fits 50 = .ok (.aload 6, 2) := by decide +kernel
theorem dX8_fits_52 : decode cX8_fits 52 = .ok (.iload_n 3, 1) := by decide +kernel
theorem dX8_fits_53 : decode cX8_fits 53 = .ok (.iload 4, 2) := by decide +kernel
theorem dX8_fits_55 : decode cX8_fits 55 = .ok (.invokevirtual 67, 3) := by decide +kernel
theorem dX8_fits_58 : decode cX8_fits 58 = .ok (.istore 7, 2) := by decide +kernel
theorem dX8_fits_60 : decode cX8_fits 60 = .ok (.iload 7, 2) := by decide +kernel
theorem dX8_fits_62 : decode cX8_fits 62 = .ok (.ifCond .eq 10, 3) := by decide +kernel
theorem dX8_fits_65 : decode cX8_fits 65 = .ok (.aload_n 0, 1) := by decide +kernel
theorem dX8_fits_66 : decode cX8_fits 66 = .ok (.iload 7, 2) := by decide +kernel
theorem dX8_fits_68 : decode cX8_fits 68 = .ok (.invokevirtual 56, 3) := by decide +kernel
theorem dX8_fits_71 : decode cX8_fits 71 = .ok (.ireturn, 1) := by decide +kernel
theorem dX8_fits_72 : decode cX8_fits 72 = .ok (.iconst 0, 1) := by decide +kernel
theorem dX8_fits_73 : decode cX8_fits 73 = .ok (.istore 8, 2) := by decide +kernel
theorem dX8_fits_75 : decode cX8_fits 75 = .ok (.iconst 0, 1) := by decide +kernel
theorem dX8_fits_76 : decode cX8_fits 76 = .ok (.istore 9, 2) := by decide +kernel
theorem dX8_fits_78 : decode cX8_fits 78 = .ok (.iload 9, 2) := by decide +kernel
theorem dX8_fits_80 : decode cX8_fits 80 = .ok (.bipush 6, 2) := by decide +kernel
theorem dX8_fits_82 : decode cX8_fits 82 = .ok (.if_icmp .gt 47, 3) := by decide +kernel
theorem dX8_fits_85 : decode cX8_fits 85 = .ok (.aload_n 0, 1) := by decide +kernel
theorem dX8_fits_86 : decode cX8_fits 86 = .ok (.iload_n 1, 1) := by decide +kernel
theorem dX8_fits_87 : decode cX8_fits 87 = .ok (.iload 9, 2) := by decide +kernel
theorem dX8_fits_89 : decode cX8_fits 89 = .ok (.iload 5, 2) := by decide +kernel
theorem dX8_fits_91 : decode cX8_fits 91 = .ok (.invokevirtual 232, 3) := by decide +kernel
theorem dX8_fits_94 : decode cX8_fits 94 = .ok (.ifCond .eq 29, 3) := by decide +kernel
theorem dX8_fits_97 : decode cX8_fits 97 = .ok (.aload_n 0, 1) := by decide +kernel
theorem dX8_fits_98 : decode cX8_fits 98 = .ok (.getfield 29, 3) := by decide +kernel
theorem dX8_fits_101 : decode cX8_fits 101 = .ok (.aload 6, 2) := by decide +kernel
theorem dX8_fits_103 : decode cX8_fits 103 = .ok (.iload_n 3, 1) := by decide +kernel
theorem dX8_fits_104 : decode cX8_fits 104 = .ok (.iload 4, 2) := by decide +kernel
theorem dX8_fits_106 : decode cX8_fits 106 = .ok (.invokevirtual 228, 3) := by decide +kernel
theorem dX8_fits_109 : decode cX8_fits 109 = .ok (.ldc 179, 2) := by decide +kernel
theorem dX8_fits_111 : decode cX8_fits 111 = .ok (.if_icmp .ne 12, 3) := by decide +kernel
theorem dX8_fits_114 : decode cX8_fits 114 = .ok (.iload 8, 2) := by decide +kernel
theorem dX8_fits_116 : decode cX8_fits 116 = .ok (.iconst 1, 1) := by decide +kernel
theorem dX8_fits_117 : decode cX8_fits 117 = .ok (.iload 9, 2) := by decide +kernel
theorem dX8_fits_119 : decode cX8_fits 119 = .ok (.ishl, 1) := by decide +kernel
theorem dX8_fits_120 : decode cX8_fits 120 = .ok (.ior, 1) := by decide +kernel
theorem dX8_fits_121 : decode cX8_fits 121 = .ok (.istore 8, 2) := by decide +kernel
theorem dX8_fits_123 : decode cX8_fits 123 = .ok (.iinc 9 1, 3) := by decide +kernel
theorem dX8_fits_126 : decode cX8_fits 126 = .ok (.goto (-48), 3) := by decide +kernel
theorem dX8_fits_129 : decode cX8_fits 129 = .ok (.aload_n 0, 1) := by decide +kernel
theorem dX8_fits_130 : decode cX8_fits 130 = .ok (.iload 8, 2) := by decide +kernel
theorem dX8_fits_132 : decode cX8_fits 132 = .ok (.invokevirtual 64, 3) := by decide +kernel
theorem dX8_fits_135 : decode cX8_fits 135 = .ok (.ireturn, 1) := by decide +kernel
def L_X8_fits_78 (N : Nat) (v0 : Nat) (v1 : Int32) (v3 : Int32) (v4 : Int32) (v5 : Int32) (v6 : Nat) : Nat → Hp → Int32 → Int32 → Option (Int32 × Hp)
  | 0, _, _, _ => none
  | n + 1, σ, v8, v9 =>
  if 6 < v9 then
   some (v8, σ)
  else
   (m_X8_suppose N σ v0 v1 v9 v5).bind fun r13 =>
  if r13.1 = 0 then
   L_X8_fits_78 N v0 v1 v3 v4 v5 v6 n r13.2 v8 (v9 + 1)
  else
   (gR N r13.2 v0 8 3).bind fun x15 =>
  (m_X2_firstWrong N r13.2 x15 v6 v3 v4).bind fun r16 =>
  if r16.1 = (-1000000) then
   lt (v8 ||| ((1 : Int32) <<< (v9 &&& 31))) fun y18 =>
  L_X8_fits_78 N v0 v1 v3 v4 v5 v6 n r16.2 y18 (v9 + 1)
  else
   L_X8_fits_78 N v0 v1 v3 v4 v5 v6 n r16.2 v8 (v9 + 1)
def m_X8_fits (N : Nat) (σ : Hp) (t0 : Nat) (p1 : Int32) (p2 : Int32) (p3 : Int32) (p4 : Int32) (p5 : Int32) : Option (Int32 × Hp) :=
  (rv N σ t0 8).bind fun _ =>
  (m_X8_rowAt N σ t0 p2).bind fun r1 =>
  (gR N σ t0 8 2).bind fun x2 =>
  (m_X2_hasDisc N σ x2 p1).bind fun r3 =>
  if r3 = 0 then
   some ((-1000001), σ)
  else
   cQ r1 (
   some ((-1000001), σ)) (fun q5 =>
   if p4 < 1 then
   some ((-1000001), σ)
  else
   if 16 < p4 then
   some ((-1000001), σ)
  else
   if p5 < 0 then
   some ((-1000001), σ)
  else
   if p5 ≤ 2 then
   (m_X5_flaw N σ q5 p3 p4).bind fun r10 =>
  if r10 = 0 then
   (L_X8_fits_78 N t0 p1 p3 p4 p5 q5 fu σ 0 0).bind fun z19 =>
  (m_X8_well N z19.2 t0 z19.1).bind fun r20 =>
  some (r20.1, r20.2)
  else
   (m_X8_found N σ t0 r10).bind fun r21 =>
  some (r21.1, r21.2)
  else
   some ((-1000001), σ))
set_option maxHeartbeats 4000000 in
set_option maxRecDepth 100000 in
theorem lp_X8_fits_78 {κ : Kx} {ω : Om} (C : Cx κ 10 6 cX8_fits RX8 "fits") (Z : Zx κ ω) (v0 : Nat) (v1 : Int32) (v3 : Int32) (v4 : Int32) (v5 : Int32) (v6 : Nat) {r : Int32 × Hp} (hk : X κ 10 ω 129 [some (.ref v0), none, none, none, none, none, none, none, some (.int r.1), none] [] r.2) : ∀ (n : Nat) (σ : Hp) (v8 : Int32) (v9 : Int32), L_X8_fits_78 ω.1 v0 v1 v3 v4 v5 v6 n σ v8 v9 = some r → X κ 10 ω 78 [some (.ref v0), some (.int v1), none, some (.int v3), some (.int v4), some (.int v5), some (.ref v6), none, some (.int v8), some (.int v9)] [] σ := by
  intro n
  induction n with
  | zero => intro σ v8 v9 h; cases h
  | succ n ih =>
    intro σ v8 v9 h
    rw [L_X8_fits_78.eq_2] at h
    refine x_iload C (i := 9) dX8_fits_78 rfl ?_
    refine x_bipush C (v := 6) dX8_fits_80 (by decide) ?_
    refine x_icmp_gt C (tgt := 129) dX8_fits_82 (by decide) (fun c12 => ?_) (fun c12 => ?_)
    · have h := ifP h c12
      refine x_wk [true, false, false, false, false, false, false, false, true, false] (lo' := [some (.ref v0), none, none, none, none, none, none, none, some (.int v8), none]) rfl ?_
      obtain rfl := Option.some.inj h
      exact hk
    · have h := ifN h c12
      refine x_aload_n C (i := 0) dX8_fits_85 rfl rfl ?_
      refine x_iload_n C (i := 1) dX8_fits_86 rfl rfl ?_
      refine x_iload C (i := 9) dX8_fits_87 rfl ?_
      refine x_iload C (i := 5) dX8_fits_89 rfl ?_
      obtain ⟨r13, er13, h⟩ := ob h
      refine x_callVr C Z mv_X8_suppose lk_X8_232 (rv_h er13) (ct_X8_suppose er13) (by decide) rfl rfl (Nat.le_of_ble_eq_true rfl) dX8_fits_91 ?_
      refine x_if_eq C (tgt := 123) dX8_fits_94 (by decide) (fun c14 => ?_) (fun c14 => ?_)
      · have h := ifP h c14
        refine x_iinc C (i := 9) (y := v9 + 1) (lo' := [some (.ref v0), some (.int v1), none, some (.int v3), some (.int v4), some (.int v5), some (.ref v6), none, some (.int v8), some (.int (v9 + 1))]) dX8_fits_123 rfl rfl (by decide) rfl rfl ?_
        refine x_goto C (tgt := 78) dX8_fits_126 (by decide) ?_
        refine x_wk [true, true, false, true, true, true, true, false, true, true] (lo' := [some (.ref v0), some (.int v1), none, some (.int v3), some (.int v4), some (.int v5), some (.ref v6), none, some (.int v8), some (.int (v9 + 1))]) rfl ?_
        exact ih r13.2 v8 (v9 + 1) h
      · have h := ifN h c14
        refine x_aload_n C (i := 0) dX8_fits_97 rfl rfl ?_
        obtain ⟨x15, ex15, h⟩ := ob h
        refine x_getR C fl_X8_29 dX8_fits_98 ex15 ?_
        refine x_aload C (i := 6) dX8_fits_101 rfl ?_
        refine x_iload_n C (i := 3) dX8_fits_103 rfl rfl ?_
        refine x_iload C (i := 4) dX8_fits_104 rfl ?_
        obtain ⟨r16, er16, h⟩ := ob h
        refine x_callVr C Z mv_X2_firstWrong lk_X8_228 (rv_h er16) (ct_X2_firstWrong er16) (by decide) rfl rfl (Nat.le_of_ble_eq_true rfl) dX8_fits_106 ?_
        refine x_ldc C kc_X8_179 dX8_fits_109 ?_
        refine x_icmp_ne C (tgt := 123) dX8_fits_111 (by decide) (fun c17 => ?_) (fun c17 => ?_)
        · have h := ifN h c17
          refine x_iinc C (i := 9) (y := v9 + 1) (lo' := [some (.ref v0), some (.int v1), none, some (.int v3), some (.int v4), some (.int v5), some (.ref v6), none, some (.int v8), some (.int (v9 + 1))]) dX8_fits_123 rfl rfl (by decide) rfl rfl ?_
          refine x_goto C (tgt := 78) dX8_fits_126 (by decide) ?_
          refine x_wk [true, true, false, true, true, true, true, false, true, true] (lo' := [some (.ref v0), some (.int v1), none, some (.int v3), some (.int v4), some (.int v5), some (.ref v6), none, some (.int v8), some (.int (v9 + 1))]) rfl ?_
          exact ih r16.2 v8 (v9 + 1) h
        · have h := ifP h c17
          refine x_iload C (i := 8) dX8_fits_114 rfl ?_
          refine x_iconst C (v := 1) dX8_fits_116 (by decide) ?_
          refine x_iload C (i := 9) dX8_fits_117 rfl ?_
          refine x_ishl C dX8_fits_119 ?_
          refine x_ior C dX8_fits_120 ?_
          refine x_topi (fun y18 ey18 => ?_)
          have h := lt_e h ey18
          refine x_istore C (i := 8) (lo' := [some (.ref v0), some (.int v1), none, some (.int v3), some (.int v4), some (.int v5), some (.ref v6), none, some (.int y18), some (.int v9)]) dX8_fits_121 (by decide) rfl rfl ?_
          refine x_iinc C (i := 9) (y := v9 + 1) (lo' := [some (.ref v0), some (.int v1), none, some (.int v3), some (.int v4), some (.int v5), some (.ref v6), none, some (.int y18), some (.int (v9 + 1))]) dX8_fits_123 rfl rfl (by decide) rfl rfl ?_
          refine x_goto C (tgt := 78) dX8_fits_126 (by decide) ?_
          refine x_wk [true, true, false, true, true, true, true, false, true, true] (lo' := [some (.ref v0), some (.int v1), none, some (.int v3), some (.int v4), some (.int v5), some (.ref v6), none, some (.int y18), some (.int (v9 + 1))]) rfl ?_
          exact ih r16.2 y18 (v9 + 1) h
set_option maxHeartbeats 4000000 in
set_option maxRecDepth 100000 in
theorem ct_X8_fits {l : Launch} {D : va_G} {cy : Nat → Nat} {N : Nat} {σ : Hp} {t0 : Nat} {p1 : Int32} {p2 : Int32} {p3 : Int32} {p4 : Int32} {p5 : Int32} {r : Int32 × Hp} (h : m_X8_fits N σ t0 p1 p2 p3 p4 p5 = some r) : Ct l D cy yX8_fits cX8_fits 10 (some .int) 6 [.ref t0, .int p1, .int p2, .int p3, .int p4, .int p5] N σ (fun v s' => v = (some (.int r.1)) ∧ s' = r.2) := by
  refine Ct.intro [some (.ref t0), some (.int p1), some (.int p2), some (.int p3), some (.int p4), some (.int p5), none, none, none, none] (by decide) rfl (Nat.le_of_ble_eq_true rfl) ?_
  intro κ ω e1 e2 e3 e4 C Z E
  subst e1; subst e2; subst e3; subst e4
  have C : Cx κ 10 6 cX8_fits RX8 "fits" := C
  have hE : ∀ x : Int32 × Hp, r = x → ((some (Value.int x.1)) = (some (Value.int r.1)) ∧ x.2 = r.2) := fun x hx => by subst hx; exact ⟨rfl, rfl⟩
  unfold m_X8_fits at h
  obtain ⟨_, _, h⟩ := ob h
  refine x_aload_n C (i := 0) dX8_fits_0 rfl rfl ?_
  refine x_iload_n C (i := 2) dX8_fits_1 rfl rfl ?_
  obtain ⟨r1, er1, h⟩ := ob h
  refine x_callVr C Z mv_X8_rowAt lk_X8_51 (rv_h er1) (ct_X8_rowAt er1) (by decide) rfl rfl (Nat.le_of_ble_eq_true rfl) dX8_fits_2 ?_
  refine x_astoreQ C (i := 6) (lo' := [some (.ref t0), some (.int p1), some (.int p2), some (.int p3), some (.int p4), some (.int p5), some (va_rf r1), none, none, none]) dX8_fits_5 (by decide) rfl rfl ?_
  refine x_aload_n C (i := 0) dX8_fits_7 rfl rfl ?_
  obtain ⟨x2, ex2, h⟩ := ob h
  refine x_getR C fl_X8_25 dX8_fits_8 ex2 ?_
  refine x_iload_n C (i := 1) dX8_fits_11 rfl rfl ?_
  obtain ⟨r3, er3, h⟩ := ob h
  refine x_callVr C Z mv_X2_hasDisc lk_X8_147 (rv_h er3) (ct_X2_hasDisc er3) (by decide) rfl rfl (Nat.le_of_ble_eq_true rfl) dX8_fits_12 ?_
  refine x_if_eq C (tgt := 47) dX8_fits_15 (by decide) (fun c4 => ?_) (fun c4 => ?_)
  · have h := ifP h c4
    refine x_ldc C kc_X8_55 dX8_fits_47 ?_
    exact x_iret C E dX8_fits_49 (hE ((-1000001), σ) (Option.some.inj h).symm)
  · have h := ifN h c4
    refine x_aloadQ C (i := 6) dX8_fits_18 rfl ?_
    refine x_ifnull C (tgt := 47) dX8_fits_20 (by decide) (fun hq => ?_) (fun q5 hq => ?_)
    · subst hq
      have h := cQ_n h
      refine x_ldc C kc_X8_55 dX8_fits_47 ?_
      exact x_iret C E dX8_fits_49 (hE ((-1000001), σ) (Option.some.inj h).symm)
    · subst hq
      have h := cQ_s h
      refine x_iload C (i := 4) dX8_fits_23 rfl ?_
      refine x_iconst C (v := 1) dX8_fits_25 (by decide) ?_
      refine x_icmp_lt C (tgt := 47) dX8_fits_26 (by decide) (fun c6 => ?_) (fun c6 => ?_)
      · have h := ifP h c6
        refine x_ldc C kc_X8_55 dX8_fits_47 ?_
        exact x_iret C E dX8_fits_49 (hE ((-1000001), σ) (Option.some.inj h).symm)
      · have h := ifN h c6
        refine x_iload C (i := 4) dX8_fits_29 rfl ?_
        refine x_bipush C (v := 16) dX8_fits_31 (by decide) ?_
        refine x_icmp_gt C (tgt := 47) dX8_fits_33 (by decide) (fun c7 => ?_) (fun c7 => ?_)
        · have h := ifP h c7
          refine x_ldc C kc_X8_55 dX8_fits_47 ?_
          exact x_iret C E dX8_fits_49 (hE ((-1000001), σ) (Option.some.inj h).symm)
        · have h := ifN h c7
          refine x_iload C (i := 5) dX8_fits_36 rfl ?_
          refine x_if_lt C (tgt := 47) dX8_fits_38 (by decide) (fun c8 => ?_) (fun c8 => ?_)
          · have h := ifP h c8
            refine x_ldc C kc_X8_55 dX8_fits_47 ?_
            exact x_iret C E dX8_fits_49 (hE ((-1000001), σ) (Option.some.inj h).symm)
          · have h := ifN h c8
            refine x_iload C (i := 5) dX8_fits_41 rfl ?_
            refine x_iconst C (v := 2) dX8_fits_43 (by decide) ?_
            refine x_icmp_le C (tgt := 50) dX8_fits_44 (by decide) (fun c9 => ?_) (fun c9 => ?_)
            · have h := ifP h c9
              refine x_aload C (i := 6) dX8_fits_50 rfl ?_
              refine x_iload_n C (i := 3) dX8_fits_52 rfl rfl ?_
              refine x_iload C (i := 4) dX8_fits_53 rfl ?_
              obtain ⟨r10, er10, h⟩ := ob h
              refine x_callVr C Z mv_X5_flaw lk_X8_67 (rv_h er10) (ct_X5_flaw er10) (by decide) rfl rfl (Nat.le_of_ble_eq_true rfl) dX8_fits_55 ?_
              refine x_istore C (i := 7) (lo' := [some (.ref t0), some (.int p1), some (.int p2), some (.int p3), some (.int p4), some (.int p5), some (.ref q5), some (.int r10), none, none]) dX8_fits_58 (by decide) rfl rfl ?_
              refine x_iload C (i := 7) dX8_fits_60 rfl ?_
              refine x_if_eq C (tgt := 72) dX8_fits_62 (by decide) (fun c11 => ?_) (fun c11 => ?_)
              · have h := ifP h c11
                refine x_iconst C (v := 0) dX8_fits_72 (by decide) ?_
                refine x_istore C (i := 8) (lo' := [some (.ref t0), some (.int p1), some (.int p2), some (.int p3), some (.int p4), some (.int p5), some (.ref q5), some (.int r10), some (.int 0), none]) dX8_fits_73 (by decide) rfl rfl ?_
                refine x_iconst C (v := 0) dX8_fits_75 (by decide) ?_
                refine x_istore C (i := 9) (lo' := [some (.ref t0), some (.int p1), some (.int p2), some (.int p3), some (.int p4), some (.int p5), some (.ref q5), some (.int r10), some (.int 0), some (.int 0)]) dX8_fits_76 (by decide) rfl rfl ?_
                obtain ⟨z19, ez19, h⟩ := ob h
                refine x_wk [true, true, false, true, true, true, true, false, true, true] (lo' := [some (.ref t0), some (.int p1), none, some (.int p3), some (.int p4), some (.int p5), some (.ref q5), none, some (.int 0), some (.int 0)]) rfl ?_
                refine lp_X8_fits_78 C Z t0 p1 p3 p4 p5 q5 ?_ _ σ 0 0 ez19
                refine x_aload_n C (i := 0) dX8_fits_129 rfl rfl ?_
                refine x_iload C (i := 8) dX8_fits_130 rfl ?_
                obtain ⟨r20, er20, h⟩ := ob h
                refine x_callVr C Z mv_X8_well lk_X8_64 (rv_h er20) (ct_X8_well er20) (by decide) rfl rfl (Nat.le_of_ble_eq_true rfl) dX8_fits_132 ?_
                exact x_iret C E dX8_fits_135 (hE (r20.1, r20.2) (Option.some.inj h).symm)
              · have h := ifN h c11
                refine x_aload_n C (i := 0) dX8_fits_65 rfl rfl ?_
                refine x_iload C (i := 7) dX8_fits_66 rfl ?_
                obtain ⟨r21, er21, h⟩ := ob h
                refine x_callVr C Z mv_X8_found lk_X8_56 (rv_h er21) (ct_X8_found er21) (by decide) rfl rfl (Nat.le_of_ble_eq_true rfl) dX8_fits_68 ?_
                exact x_iret C E dX8_fits_71 (hE (r21.1, r21.2) (Option.some.inj h).symm)
            · have h := ifN h c9
              refine x_ldc C kc_X8_55 dX8_fits_47 ?_
              exact x_iret C E dX8_fits_49 (hE ((-1000001), σ) (Option.some.inj h).symm)
theorem dX8_commonOf_0 : decode cX8_commonOf 0 = .ok (.lload_n 0, 1) := by decide +kernel
theorem dX8_commonOf_1 : decode cX8_commonOf 1 = .ok (.lstore 4, 2) := by decide +kernel
theorem dX8_commonOf_3 : decode cX8_commonOf 3 = .ok (.lload_n 2, 1) := by decide +kernel
theorem dX8_commonOf_4 : decode cX8_commonOf 4 = .ok (.lstore 6, 2) := by decide +kernel
theorem dX8_commonOf_6 : decode cX8_commonOf 6 = .ok (.iconst 0, 1) := by decide +kernel
theorem dX8_commonOf_7 : decode cX8_commonOf 7 = .ok (.istore 8, 2) := by decide +kernel
theorem dX8_commonOf_9 : decode cX8_commonOf 9 = .ok (.iload 8, 2) := by decide +kernel
theorem dX8_commonOf_11 : decode cX8_commonOf 11 = .ok (.sipush 200, 3) := by decide +kernel
theorem dX8_commonOf_14 : decode cX8_commonOf 14 = .ok (.if_icmp .ge 31, 3) := by decide +kernel
theorem dX8_commonOf_17 : decode cX8_commonOf 17 = .ok (.lload 6, 2) := by decide +kernel
theorem dX8_commonOf_19 : decode cX8_commonOf 19 = .ok (.lconst 0, 1) := by decide +kernel
theorem dX8_commonOf_20 : decode cX8_commonOf 20 = .ok (.lcmp, 1) := by decide +kernel
theorem dX8_commonOf_21 : decode cX8_commonOf 21 = .ok (.ifCond .eq 24, 3) := by decide +kernel
theorem dX8_commonOf_24 : decode cX8_commonOf 24 = .ok (.lload 4, 2) := by decide +kernel
theorem dX8_commonOf_26 : decode cX8_commonOf 26 = .ok (.lload 6, 2) := by decide +kernel
theorem dX8_commonOf_28 : decode cX8_commonOf 28 = .ok (.lrem, 1) := by decide +kernel
theorem dX8_commonOf_29 : decode cX8_commonOf 29 = .ok (.lstore 9, 2) := by decide +kernel
theorem dX8_commonOf_31 : decode cX8_commonOf 31 = .ok (.lload 6, 2) := by decide +kernel
theorem dX8_commonOf_33 : decode cX8_commonOf 33 = .ok (.lstore 4, 2) := by decide +kernel
theorem dX8_commonOf_35 : decode cX8_commonOf 35 = .ok (.lload 9, 2) := by decide +kernel
theorem dX8_commonOf_37 : decode cX8_commonOf 37 = .ok (.lstore 6, 2) := by decide +kernel
theorem dX8_commonOf_39 : decode cX8_commonOf 39 = .ok (.iinc 8 1, 3) := by decide +kernel
theorem dX8_commonOf_42 : decode cX8_commonOf 42 = .ok (.goto (-33), 3) := by decide +kernel
theorem dX8_commonOf_45 : decode cX8_commonOf 45 = .ok (.lload 4, 2) := by decide +kernel
theorem dX8_commonOf_47 : decode cX8_commonOf 47 = .ok (.lreturn, 1) := by decide +kernel
def L_X8_commonOf_9  : Nat → Int64 → Int64 → Int32 → Option (Int64)
  | 0, _, _, _ => none
  | n + 1, v4, v6, v8 =>
  if 200 ≤ v8 then
   some v4
  else
   if (lg_cmp v6 0) = 0 then
   some v4
  else
   (nzJ v6).bind fun u3 =>
  L_X8_commonOf_9 n v6 (v4 - v4 / v6 * v6) (v8 + 1)
def m_X8_commonOf (p0 : Int64) (p2 : Int64) : Option (Int64) :=
  (L_X8_commonOf_9 fu p0 p2 0).bind fun z4 =>
  some z4
set_option maxHeartbeats 4000000 in
set_option maxRecDepth 100000 in
theorem lp_X8_commonOf_9 {κ : Kx} {ω : Om} (C : Cx κ 11 0 cX8_commonOf RX8 "commonOf") (Z : Zx κ ω) {σ : Hp} {r : Int64} (hk : X κ 11 ω 45 [none, none, none, none, some (.long r), none, none, none, none, none, none] [] σ) : ∀ (n : Nat) (v4 : Int64) (v6 : Int64) (v8 : Int32), L_X8_commonOf_9 n v4 v6 v8 = some r → X κ 11 ω 9 [none, none, none, none, some (.long v4), none, some (.long v6), none, some (.int v8), none, none] [] σ := by
  intro n
  induction n with
  | zero => intro v4 v6 v8 h; cases h
  | succ n ih =>
    intro v4 v6 v8 h
    rw [L_X8_commonOf_9.eq_2] at h
    refine x_iload C (i := 8) dX8_commonOf_9 rfl ?_
    refine x_sipush C (v := 200) dX8_commonOf_11 (by decide) ?_
    refine x_icmp_ge C (tgt := 45) dX8_commonOf_14 (by decide) (fun c1 => ?_) (fun c1 => ?_)
    · have h := ifP h c1
      refine x_wk [false, false, false, false, true, false, false, false, false, false, false] (lo' := [none, none, none, none, some (.long v4), none, none, none, none, none, none]) rfl ?_
      obtain rfl := Option.some.inj h
      exact hk
    · have h := ifN h c1
      refine x_lload C (i := 6) dX8_commonOf_17 rfl ?_
      refine x_lconst C (v := 0) dX8_commonOf_19 (by decide) ?_
      refine x_lcmp C dX8_commonOf_20 ?_
      refine x_if_eq C (tgt := 45) dX8_commonOf_21 (by decide) (fun c2 => ?_) (fun c2 => ?_)
      · have h := ifP h c2
        refine x_wk [false, false, false, false, true, false, false, false, false, false, false] (lo' := [none, none, none, none, some (.long v4), none, none, none, none, none, none]) rfl ?_
        obtain rfl := Option.some.inj h
        exact hk
      · have h := ifN h c2
        refine x_lload C (i := 4) dX8_commonOf_24 rfl ?_
        refine x_lload C (i := 6) dX8_commonOf_26 rfl ?_
        obtain ⟨u3, eu3, h⟩ := ob h
        refine x_lrem C dX8_commonOf_28 (nzJ_ne eu3) ?_
        refine x_lstore C (i := 9) (lo' := [none, none, none, none, some (.long v4), none, some (.long v6), none, some (.int v8), some (.long (v4 - v4 / v6 * v6)), none]) dX8_commonOf_29 (by decide) rfl rfl ?_
        refine x_lload C (i := 6) dX8_commonOf_31 rfl ?_
        refine x_lstore C (i := 4) (lo' := [none, none, none, none, some (.long v6), none, some (.long v6), none, some (.int v8), some (.long (v4 - v4 / v6 * v6)), none]) dX8_commonOf_33 (by decide) rfl rfl ?_
        refine x_lload C (i := 9) dX8_commonOf_35 rfl ?_
        refine x_lstore C (i := 6) (lo' := [none, none, none, none, some (.long v6), none, some (.long (v4 - v4 / v6 * v6)), none, some (.int v8), some (.long (v4 - v4 / v6 * v6)), none]) dX8_commonOf_37 (by decide) rfl rfl ?_
        refine x_iinc C (i := 8) (y := v8 + 1) (lo' := [none, none, none, none, some (.long v6), none, some (.long (v4 - v4 / v6 * v6)), none, some (.int (v8 + 1)), some (.long (v4 - v4 / v6 * v6)), none]) dX8_commonOf_39 rfl rfl (by decide) rfl rfl ?_
        refine x_goto C (tgt := 9) dX8_commonOf_42 (by decide) ?_
        refine x_wk [false, false, false, false, true, false, true, false, true, false, false] (lo' := [none, none, none, none, some (.long v6), none, some (.long (v4 - v4 / v6 * v6)), none, some (.int (v8 + 1)), none, none]) rfl ?_
        exact ih v6 (v4 - v4 / v6 * v6) (v8 + 1) h
set_option maxHeartbeats 4000000 in
set_option maxRecDepth 100000 in
theorem ct_X8_commonOf {l : Launch} {D : va_G} {cy : Nat → Nat} {N : Nat} {σ : Hp} {p0 : Int64} {p2 : Int64} {r : Int64} (h : m_X8_commonOf p0 p2 = some r) : Ct l D cy yX8_commonOf cX8_commonOf 11 (some .long) 0 [.long p0, .long p2] N σ (fun v s' => v = (some (.long r)) ∧ s' = σ) := by
  refine Ct.intro [some (.long p0), none, some (.long p2), none, none, none, none, none, none, none, none] (by decide) rfl (Nat.le_of_ble_eq_true rfl) ?_
  intro κ ω e1 e2 e3 e4 C Z E
  subst e1; subst e2; subst e3; subst e4
  have C : Cx κ 11 0 cX8_commonOf RX8 "commonOf" := C
  have hE : ∀ x : Int64, r = x → ((some (Value.long x)) = (some (Value.long r)) ∧ σ = σ) := fun x hx => by subst hx; exact ⟨rfl, rfl⟩
  unfold m_X8_commonOf at h
  refine x_lload_n C (i := 0) dX8_commonOf_0 rfl rfl ?_
  refine x_lstore C (i := 4) (lo' := [some (.long p0), none, some (.long p2), none, some (.long p0), none, none, none, none, none, none]) dX8_commonOf_1 (by decide) rfl rfl ?_
  refine x_lload_n C (i := 2) dX8_commonOf_3 rfl rfl ?_
  refine x_lstore C (i := 6) (lo' := [some (.long p0), none, some (.long p2), none, some (.long p0), none, some (.long p2), none, none, none, none]) dX8_commonOf_4 (by decide) rfl rfl ?_
  refine x_iconst C (v := 0) dX8_commonOf_6 (by decide) ?_
  refine x_istore C (i := 8) (lo' := [some (.long p0), none, some (.long p2), none, some (.long p0), none, some (.long p2), none, some (.int 0), none, none]) dX8_commonOf_7 (by decide) rfl rfl ?_
  obtain ⟨z4, ez4, h⟩ := ob h
  refine x_wk [false, false, false, false, true, false, true, false, true, false, false] (lo' := [none, none, none, none, some (.long p0), none, some (.long p2), none, some (.int 0), none, none]) rfl ?_
  refine lp_X8_commonOf_9 C Z  ?_ _ p0 p2 0 ez4
  refine x_lload C (i := 4) dX8_commonOf_45 rfl ?_
  exact x_lret C E dX8_commonOf_47 (hE z4 (Option.some.inj h).symm)
