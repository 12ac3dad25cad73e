theorem dX6_init_0 : decode cX6_init 0 = .ok (.aload_n 0, 1) := by decide +kernel
theorem dX6_init_1 : decode cX6_init 1 = .ok (.invokespecial 3, 3) := by decide +kernel
theorem dX6_init_4 : decode cX6_init 4 = .ok (.aload_n 0, 1) := by decide +kernel
theorem dX6_init_5 : decode cX6_init 5 = .ok (.new 9, 3) := by decide +kernel
theorem dX6_init_8 : decode cX6_init 8 = .ok (.dup, 1) := by decide +kernel
theorem dX6_init_9 : decode cX6_init 9 = .ok (.invokespecial 11, 3) := by decide +kernel
theorem dX6_init_12 : decode cX6_init 12 = .ok (.putfield 12, 3) := by decide +kernel
theorem dX6_init_15 : decode cX6_init 15 = .ok (.aload_n 0, 1) := by decide +kernel
theorem dX6_init_16 : decode cX6_init 16 = .ok (.sipush 8192, 3) := by decide +kernel
theorem dX6_init_19 : decode cX6_init 19 = .ok (.newarray .int, 2) := by decide +kernel
theorem dX6_init_21 : decode cX6_init 21 = .ok (.putfield 18, 3) := by decide +kernel
theorem dX6_init_24 : decode cX6_init 24 = .ok (.aload_n 0, 1) := by decide +kernel
theorem dX6_init_25 : decode cX6_init 25 = .ok (.sipush 8192, 3) := by decide +kernel
theorem dX6_init_28 : decode cX6_init 28 = .ok (.newarray .int, 2) := by decide +kernel
theorem dX6_init_30 : decode cX6_init 30 = .ok (.putfield 22, 3) := by decide +kernel
theorem dX6_init_33 : decode cX6_init 33 = .ok (.aload_n 0, 1) := by decide +kernel
theorem dX6_init_34 : decode cX6_init 34 = .ok (.sipush 8192, 3) := by decide +kernel
theorem dX6_init_37 : decode cX6_init 37 = .ok (.newarray .int, 2) := by decide +kernel
theorem dX6_init_39 : decode cX6_init 39 = .ok (.putfield 25, 3) := by decide +kernel
theorem dX6_init_42 : decode cX6_init 42 = .ok (.aload_n 0, 1) := by decide +kernel
theorem dX6_init_43 : decode cX6_init 43 = .ok (.sipush 8192, 3) := by decide +kernel
theorem dX6_init_46 : decode cX6_init 46 = .ok (.newarray .int, 2) := by decide +kernel
theorem dX6_init_48 : decode cX6_init 48 = .ok (.putfield 28, 3) := by decide +kernel
theorem dX6_init_51 : decode cX6_init 51 = .ok (.return_, 1) := by decide +kernel
noncomputable def m_X6_init (N : Nat) (σ : Hp) (t0 : Nat) : Option (Nat × Hp) :=
  (al N σ [t0, t0] (0 + 1) (0 + 6) 5 32774).bind fun u1 =>
  (mkc σ N (.inr (2, [.int 0, .int 0, .int 0, .int 0, .int 0, .int 0]))).bind fun σ2 =>
  (al (N + 1) σ2 [t0, N, t0] (0 + 1 + 0) (0 + 6 + 0) 5 32774).bind fun u3 =>
  (m_X2_init (N + 1) σ2 N).bind fun r5 =>
  (nb r5.1).bind fun u4 =>
  (pV r5.1 r5.2 t0 6 0 (.ref N)).bind fun σ6 =>
  (al r5.1 σ6 [t0, t0] (0 + 1 + 0 + 1) (0 + 6 + 0 + 8192) 5 32774).bind fun u7 =>
  (mkc σ6 r5.1 (.inl (0, 8192, .inl (fun _ => 0)))).bind fun σ8 =>
  (pV (r5.1 + 1) σ8 t0 6 1 (.ref r5.1)).bind fun σ9 =>
  (al (r5.1 + 1) σ9 [t0, t0] (0 + 1 + 0 + 1 + 1) (0 + 6 + 0 + 8192 + 8192) 5 32774).bind fun u10 =>
  (mkc σ9 (r5.1 + 1) (.inl (0, 8192, .inl (fun _ => 0)))).bind fun σ11 =>
  (pV (r5.1 + 1 + 1) σ11 t0 6 2 (.ref (r5.1 + 1))).bind fun σ12 =>
  (al (r5.1 + 1 + 1) σ12 [t0, t0] (0 + 1 + 0 + 1 + 1 + 1) (0 + 6 + 0 + 8192 + 8192 + 8192) 5 32774).bind fun u13 =>
  (mkc σ12 (r5.1 + 1 + 1) (.inl (0, 8192, .inl (fun _ => 0)))).bind fun σ14 =>
  (pV (r5.1 + 1 + 1 + 1) σ14 t0 6 3 (.ref (r5.1 + 1 + 1))).bind fun σ15 =>
  (al (r5.1 + 1 + 1 + 1) σ15 [t0, t0] (0 + 1 + 0 + 1 + 1 + 1 + 1) (0 + 6 + 0 + 8192 + 8192 + 8192 + 8192) 5 32774).bind fun u16 =>
  (mkc σ15 (r5.1 + 1 + 1 + 1) (.inl (0, 8192, .inl (fun _ => 0)))).bind fun σ17 =>
  (pV (r5.1 + 1 + 1 + 1 + 1) σ17 t0 6 4 (.ref (r5.1 + 1 + 1 + 1))).bind fun σ18 =>
  some (r5.1 + 1 + 1 + 1 + 1, σ18)
set_option maxHeartbeats 4000000 in
set_option maxRecDepth 100000 in
theorem ct_X6_init {l : Launch} {D : va_G} {cy : Nat → Nat} {N : Nat} {σ : Hp} {t0 : Nat} {r : Nat × Hp} (h : m_X6_init N σ t0 = some r) : CtA l D cy yX6_init cX6_init 1 none 2 5 32774 [.ref t0] N σ (fun v n' s' => v = none ∧ n' = r.1 ∧ s' = r.2) := by
  refine CtA.intro [some (.ref t0)] (by decide) rfl (Nat.le_of_ble_eq_true rfl) ?_
  intro κ ad0 e1 e2 e3 hRc hRs C Z E
  subst e1; subst e2; subst e3
  have C : Cx κ 1 2 cX6_init RX6 "<init>" := C
  have G := Ag.rf N ad0 0 0
  have hE : ∀ x : Nat × Hp, r = x → ((none : Option Value) = (none : Option Value) ∧ x.1 = r.1 ∧ x.2 = r.2) := fun x hx => by subst hx; exact ⟨rfl, rfl, rfl⟩
  unfold m_X6_init at h
  refine x_aload_n C (i := 0) dX6_init_0 rfl rfl ?_
  refine x_objInit C (by decide) oi_X6 oi_inst oi_code (Nat.le_of_ble_eq_true rfl) dX6_init_1 ?_
  refine x_aload_n C (i := 0) dX6_init_4 rfl rfl ?_
  obtain ⟨u1, eu1, h⟩ := ob h
  obtain ⟨σ2, eσ2, h⟩ := ob h
  refine g_new C Z G hRc hRs nw_X6_9 eu1 rfl eσ2 dX6_init_5 (fun ad Z G => ?_)
  refine x_dup C dX6_init_8 rfl ?_
  obtain ⟨u3, eu3, h⟩ := ob h
  obtain ⟨r5, er5, h⟩ := ob h
  obtain ⟨u4, eu4, h⟩ := ob h
  refine g_callI C Z G hRc hRs mi_X2_init lk_X6_11 (ct_X2_init er5) (by decide) rfl rfl (Nat.le_of_ble_eq_true rfl) eu3 rfl eu4 dX6_init_9 (fun ad Z G => ?_)
  obtain ⟨σ6, eσ6, h⟩ := ob h
  refine x_putF C pf_X6_12 dX6_init_12 (fun _ => ⟨rfl, rfl⟩) eσ6 ?_
  refine x_aload_n C (i := 0) dX6_init_15 rfl rfl ?_
  refine x_sipush C (v := 8192) dX6_init_16 (by decide) ?_
  obtain ⟨u7, eu7, h⟩ := ob h
  obtain ⟨σ8, eσ8, h⟩ := ob h
  refine g_newI C Z G hRc hRs 8192 wa_int (by decide) (by decide) (by decide) eu7 rfl eσ8 dX6_init_19 (fun ad Z G => ?_)
  obtain ⟨σ9, eσ9, h⟩ := ob h
  refine x_putF C pf_X6_18 dX6_init_21 (fun _ => ⟨rfl, rfl⟩) eσ9 ?_
  refine x_aload_n C (i := 0) dX6_init_24 rfl rfl ?_
  refine x_sipush C (v := 8192) dX6_init_25 (by decide) ?_
  obtain ⟨u10, eu10, h⟩ := ob h
  obtain ⟨σ11, eσ11, h⟩ := ob h
  refine g_newI C Z G hRc hRs 8192 wa_int (by decide) (by decide) (by decide) eu10 rfl eσ11 dX6_init_28 (fun ad Z G => ?_)
  obtain ⟨σ12, eσ12, h⟩ := ob h
  refine x_putF C pf_X6_22 dX6_init_30 (fun _ => ⟨rfl, rfl⟩) eσ12 ?_
  refine x_aload_n C (i := 0) dX6_init_33 rfl rfl ?_
  refine x_sipush C (v := 8192) dX6_init_34 (by decide) ?_
  obtain ⟨u13, eu13, h⟩ := ob h
  obtain ⟨σ14, eσ14, h⟩ := ob h
  refine g_newI C Z G hRc hRs 8192 wa_int (by decide) (by decide) (by decide) eu13 rfl eσ14 dX6_init_37 (fun ad Z G => ?_)
  obtain ⟨σ15, eσ15, h⟩ := ob h
  refine x_putF C pf_X6_25 dX6_init_39 (fun _ => ⟨rfl, rfl⟩) eσ15 ?_
  refine x_aload_n C (i := 0) dX6_init_42 rfl rfl ?_
  refine x_sipush C (v := 8192) dX6_init_43 (by decide) ?_
  obtain ⟨u16, eu16, h⟩ := ob h
  obtain ⟨σ17, eσ17, h⟩ := ob h
  refine g_newI C Z G hRc hRs 8192 wa_int (by decide) (by decide) (by decide) eu16 rfl eσ17 dX6_init_46 (fun ad Z G => ?_)
  obtain ⟨σ18, eσ18, h⟩ := ob h
  refine x_putF C pf_X6_28 dX6_init_48 (fun _ => ⟨rfl, rfl⟩) eσ18 ?_
  exact x_vretA C E G ⟨hRc ▸ Z.1.1, hRs ▸ Z.1.2⟩ dX6_init_51 (hE (r5.1 + 1 + 1 + 1 + 1, σ18) (Option.some.inj h).symm)
theorem dX6_begin_0 : decode cX6_begin 0 = .ok (.aload_n 0, 1) := by decide +kernel
theorem dX6_begin_1 : decode cX6_begin 1 = .ok (.getfield 12, 3) := by decide +kernel
theorem dX6_begin_4 : decode cX6_begin 4 = .ok (.aload_n 1, 1) := by decide +kernel
theorem dX6_begin_5 : decode cX6_begin 5 = .ok (.invokevirtual 31, 3) := by decide +kernel
theorem dX6_begin_8 : decode cX6_begin 8 = .ok (.aload_n 0, 1) := by decide +kernel
theorem dX6_begin_9 : decode cX6_begin 9 = .ok (.getfield 22, 3) := by decide +kernel
theorem dX6_begin_12 : decode cX6_begin 12 = .ok (.iconst (-1), 1) := by decide +kernel
theorem dX6_begin_13 : decode cX6_begin 13 = .ok (.invokestatic 35, 3) := by decide +kernel
theorem dX6_begin_16 : decode cX6_begin 16 = .ok (.aload_n 0, 1) := by decide +kernel
theorem dX6_begin_17 : decode cX6_begin 17 = .ok (.iconst 0, 1) := by decide +kernel
theorem dX6_begin_18 : decode cX6_begin 18 = .ok (.putfield 41, 3) := by decide +kernel
theorem dX6_begin_21 : decode cX6_begin 21 = .ok (.aload_n 0, 1) := by decide +kernel
theorem dX6_begin_22 : decode cX6_begin 22 = .ok (.iconst 0, 1) := by decide +kernel
theorem dX6_begin_23 : decode cX6_begin 23 = .ok (.putfield 45, 3) := by decide +kernel
theorem dX6_begin_26 : decode cX6_begin 26 = .ok (.aload_n 0, 1) := by decide +kernel
theorem dX6_begin_27 : decode cX6_begin 27 = .ok (.iconst (-1), 1) := by decide +kernel
theorem dX6_begin_28 : decode cX6_begin 28 = .ok (.putfield 48, 3) := by decide +kernel
theorem dX6_begin_31 : decode cX6_begin 31 = .ok (.aload_n 0, 1) := by decide +kernel
theorem dX6_begin_32 : decode cX6_begin 32 = .ok (.iconst 0, 1) := by decide +kernel
theorem dX6_begin_33 : decode cX6_begin 33 = .ok (.putfield 51, 3) := by decide +kernel
theorem dX6_begin_36 : decode cX6_begin 36 = .ok (.aload_n 0, 1) := by decide +kernel
theorem dX6_begin_37 : decode cX6_begin 37 = .ok (.iconst 0, 1) := by decide +kernel
theorem dX6_begin_38 : decode cX6_begin 38 = .ok (.putfield 54, 3) := by decide +kernel
theorem dX6_begin_41 : decode cX6_begin 41 = .ok (.aload_n 0, 1) := by decide +kernel
theorem dX6_begin_42 : decode cX6_begin 42 = .ok (.ldc 57, 2) := by decide +kernel
theorem dX6_begin_44 : decode cX6_begin 44 = .ok (.putfield 58, 3) := by decide +kernel
theorem dX6_begin_47 : decode cX6_begin 47 = .ok (.return_, 1) := by decide +kernel
def m_X6_begin (N : Nat) (σ : Hp) (t0 : Nat) (p1 : Nat) : Option (Hp) :=
  (rv N σ t0 6).bind fun _ =>
  (gR N σ t0 6 0).bind fun x1 =>
  (m_X2_take N σ x1 p1).bind fun r2 =>
  (gR N r2 t0 6 2).bind fun x3 =>
  (m_J7_fill_53178 N r2 x3 (-1)).bind fun r4 =>
  (pV N r4 t0 6 5 (.int 0)).bind fun σ5 =>
  (pV N σ5 t0 6 6 (.int 0)).bind fun σ6 =>
  (pV N σ6 t0 6 7 (.int (-1))).bind fun σ7 =>
  (pV N σ7 t0 6 8 (.int 0)).bind fun σ8 =>
  (pV N σ8 t0 6 9 (.int 0)).bind fun σ9 =>
  (pV N σ9 t0 6 10 (.int (-1000000))).bind fun σ10 =>
  some σ10
set_option maxHeartbeats 4000000 in
set_option maxRecDepth 100000 in
theorem ct_X6_begin {l : Launch} {D : va_G} {cy : Nat → Nat} {N : Nat} {σ : Hp} {t0 : Nat} {p1 : Nat} {r : Hp} (h : m_X6_begin N σ t0 p1 = some r) : Ct l D cy yX6_begin cX6_begin 2 none 1 [.ref t0, .ref p1] N σ (fun v s' => v = none ∧ s' = r) := by
  refine Ct.intro [some (.ref t0), some (.ref p1)] (by decide) rfl (Nat.le_of_ble_eq_true rfl) ?_
  intro κ ω e1 e2 e3 e4 C Z E
  subst e1; subst e2; subst e3; subst e4
  have C : Cx κ 2 1 cX6_begin RX6 "begin" := C
  have hE : ∀ x : Hp, r = x → ((none : Option Value) = none ∧ x = r) := fun x hx => by subst hx; exact ⟨rfl, rfl⟩
  unfold m_X6_begin at h
  obtain ⟨_, _, h⟩ := ob h
  refine x_aload_n C (i := 0) dX6_begin_0 rfl rfl ?_
  obtain ⟨x1, ex1, h⟩ := ob h
  refine x_getR C fl_X6_12 dX6_begin_1 ex1 ?_
  refine x_aload_n C (i := 1) dX6_begin_4 rfl rfl ?_
  obtain ⟨r2, er2, h⟩ := ob h
  refine x_callVn C Z mv_X2_take lk_X6_31 (rv_h er2) (ct_X2_take er2) (by decide) rfl rfl (Nat.le_of_ble_eq_true rfl) dX6_begin_5 ?_
  refine x_aload_n C (i := 0) dX6_begin_8 rfl rfl ?_
  obtain ⟨x3, ex3, h⟩ := ob h
  refine x_getR C fl_X6_22 dX6_begin_9 ex3 ?_
  refine x_iconst C (v := (-1)) dX6_begin_12 (by decide) ?_
  obtain ⟨r4, er4, h⟩ := ob h
  refine x_callSn C Z ms_J7_fill_53178 lk_X6_35 (ct_J7_fill_53178 er4) (by decide) rfl rfl (Nat.le_of_ble_eq_true rfl) dX6_begin_13 ?_
  refine x_aload_n C (i := 0) dX6_begin_16 rfl rfl ?_
  refine x_iconst C (v := 0) dX6_begin_17 (by decide) ?_
  obtain ⟨σ5, eσ5, h⟩ := ob h
  refine x_put C pl_X6_41 dX6_begin_18 (fun _ => ⟨rfl, rfl⟩) eσ5 ?_
  refine x_aload_n C (i := 0) dX6_begin_21 rfl rfl ?_
  refine x_iconst C (v := 0) dX6_begin_22 (by decide) ?_
  obtain ⟨σ6, eσ6, h⟩ := ob h
  refine x_put C pl_X6_45 dX6_begin_23 (fun _ => ⟨rfl, rfl⟩) eσ6 ?_
  refine x_aload_n C (i := 0) dX6_begin_26 rfl rfl ?_
  refine x_iconst C (v := (-1)) dX6_begin_27 (by decide) ?_
  obtain ⟨σ7, eσ7, h⟩ := ob h
  refine x_put C pl_X6_48 dX6_begin_28 (fun _ => ⟨rfl, rfl⟩) eσ7 ?_
  refine x_aload_n C (i := 0) dX6_begin_31 rfl rfl ?_
  refine x_iconst C (v := 0) dX6_begin_32 (by decide) ?_
  obtain ⟨σ8, eσ8, h⟩ := ob h
  refine x_put C pl_X6_51 dX6_begin_33 (fun _ => ⟨rfl, rfl⟩) eσ8 ?_
  refine x_aload_n C (i := 0) dX6_begin_36 rfl rfl ?_
  refine x_iconst C (v := 0) dX6_begin_37 (by decide) ?_
  obtain ⟨σ9, eσ9, h⟩ := ob h
  refine x_put C pl_X6_54 dX6_begin_38 (fun _ => ⟨rfl, rfl⟩) eσ9 ?_
  refine x_aload_n C (i := 0) dX6_begin_41 rfl rfl ?_
  refine x_ldc C kc_X6_57 dX6_begin_42 ?_
  obtain ⟨σ10, eσ10, h⟩ := ob h
  refine x_put C pl_X6_58 dX6_begin_44 (fun _ => ⟨rfl, rfl⟩) eσ10 ?_
  exact x_vret C E dX6_begin_47 (hE σ10 (Option.some.inj h).symm)
theorem dX6_noteArrangement_0 : decode cX6_noteArrangement 0 = .ok (.aload_n 0, 1) := by decide +kernel
theorem dX6_noteArrangement_1 : decode cX6_noteArrangement 1 = .ok (.getfield 22, 3) := by decide +kernel
theorem dX6_noteArrangement_4 : decode cX6_noteArrangement 4 = .ok (.iload_n 1, 1) := by decide +kernel
theorem dX6_noteArrangement_5 : decode cX6_noteArrangement 5 = .ok (.sipush 4096, 3) := by decide +kernel
theorem dX6_noteArrangement_8 : decode cX6_noteArrangement 8 = .ok (.ixor, 1) := by decide +kernel
theorem dX6_noteArrangement_9 : decode cX6_noteArrangement 9 = .ok (.iaload, 1) := by decide +kernel
theorem dX6_noteArrangement_10 : decode cX6_noteArrangement 10 = .ok (.istore_n 3, 1) := by decide +kernel
theorem dX6_noteArrangement_11 : decode cX6_noteArrangement 11 = .ok (.iload_n 3, 1) := by decide +kernel
theorem dX6_noteArrangement_12 : decode cX6_noteArrangement 12 = .ok (.iconst (-1), 1) := by decide +kernel
theorem dX6_noteArrangement_13 : decode cX6_noteArrangement 13 = .ok (.if_icmp .eq 14, 3) := by decide +kernel
theorem dX6_noteArrangement_16 : decode cX6_noteArrangement 16 = .ok (.iload_n 3, 1) := by decide +kernel
theorem dX6_noteArrangement_17 : decode cX6_noteArrangement 17 = .ok (.aload_n 0, 1) := by decide +kernel
theorem dX6_noteArrangement_18 : decode cX6_noteArrangement 18 = .ok (.getfield 22, 3) := by decide +kernel
theorem dX6_noteArrangement_21 : decode cX6_noteArrangement 21 = .ok (.iload_n 1, 1) := by decide +kernel
theorem dX6_noteArrangement_22 : decode cX6_noteArrangement 22 = .ok (.iaload, 1) := by decide +kernel
theorem dX6_noteArrangement_23 : decode cX6_noteArrangement 23 = .ok (.if_icmp .ge 4, 3) := by decide +kernel
theorem dX6_noteArrangement_26 : decode cX6_noteArrangement 26 = .ok (.return_, 1) := by decide +kernel
theorem dX6_noteArrangement_27 : decode cX6_noteArrangement 27 = .ok (.iload_n 1, 1) := by decide +kernel
theorem dX6_noteArrangement_28 : decode cX6_noteArrangement 28 = .ok (.sipush 4095, 3) := by decide +kernel
theorem dX6_noteArrangement_31 : decode cX6_noteArrangement 31 = .ok (.iand, 1) := by decide +kernel
theorem dX6_noteArrangement_32 : decode cX6_noteArrangement 32 = .ok (.istore 4, 2) := by decide +kernel
theorem dX6_noteArrangement_34 : decode cX6_noteArrangement 34 = .ok (.aload_n 0, 1) := by decide +kernel
theorem dX6_noteArrangement_35 : decode cX6_noteArrangement 35 = .ok (.dup, 1) := by decide +kernel
theorem dX6_noteArrangement_36 : decode cX6_noteArrangement 36 = .ok (.getfield 45, 3) := by decide +kernel
theorem dX6_noteArrangement_39 : decode cX6_noteArrangement 39 = .ok (.iconst 1, 1) := by decide +kernel
theorem dX6_noteArrangement_40 : decode cX6_noteArrangement 40 = .ok (.iadd, 1) := by decide +kernel
theorem dX6_noteArrangement_41 : decode cX6_noteArrangement 41 = .ok (.putfield 45, 3) := by decide +kernel
theorem dX6_noteArrangement_44 : decode cX6_noteArrangement 44 = .ok (.iload_n 2, 1) := by decide +kernel
theorem dX6_noteArrangement_45 : decode cX6_noteArrangement 45 = .ok (.ifCond .ne 13, 3) := by decide +kernel
theorem dX6_noteArrangement_48 : decode cX6_noteArrangement 48 = .ok (.aload_n 0, 1) := by decide +kernel
theorem dX6_noteArrangement_49 : decode cX6_noteArrangement 49 = .ok (.dup, 1) := by decide +kernel
theorem dX6_noteArrangement_50 : decode cX6_noteArrangement 50 = .ok (.getfield 54, 3) := by decide +kernel
theorem dX6_noteArrangement_53 : decode cX6_noteArrangement 53 = .ok (.iconst 1, 1) := by decide +kernel
theorem dX6_noteArrangement_54 : decode cX6_noteArrangement 54 = .ok (.iadd, 1) := by decide +kernel
theorem dX6_noteArrangement_55 : decode cX6_noteArrangement 55 = .ok (.putfield 54, 3) := by decide +kernel
theorem dX6_noteArrangement_58 : decode cX6_noteArrangement 58 = .ok (.aload_n 0, 1) := by decide +kernel
theorem dX6_noteArrangement_59 : decode cX6_noteArrangement 59 = .ok (.getfield 22, 3) := by decide +kernel
theorem dX6_noteArrangement_62 : decode cX6_noteArrangement 62 = .ok (.iload_n 1, 1) := by decide +kernel
theorem dX6_noteArrangement_63 : decode cX6_noteArrangement 63 = .ok (.iaload, 1) := by decide +kernel
theorem dX6_noteArrangement_64 : decode cX6_noteArrangement 64 = .ok (.aload_n 0, 1) := by decide +kernel
theorem dX6_noteArrangement_65 : decode cX6_noteArrangement 65 = .ok (.getfield 48, 3) := by decide +kernel
theorem dX6_noteArrangement_68 : decode cX6_noteArrangement 68 = .ok (.if_icmp .gt 25, 3) := by decide +kernel
theorem dX6_noteArrangement_71 : decode cX6_noteArrangement 71 = .ok (.aload_n 0, 1) := by decide +kernel
theorem dX6_noteArrangement_72 : decode cX6_noteArrangement 72 = .ok (.getfield 22, 3) := by decide +kernel
theorem dX6_noteArrangement_75 : decode cX6_noteArrangement 75 = .ok (.iload_n 1, 1) := by decide +kernel
theorem dX6_noteArrangement_76 : decode cX6_noteArrangement 76 = .ok (.iaload, 1) := by decide +kernel
theorem dX6_noteArrangement_77 : decode cX6_noteArrangement 77 = .ok (.aload_n 0, 1) := by decide +kernel
theorem dX6_noteArrangement_78 : decode cX6_noteArrangement 78 = .ok (.getfield 48, 3) := by decide +kernel
theorem dX6_noteArrangement_81 : decode cX6_noteArrangement 81 = .ok (.if_icmp .ne 28, 3) := by decide +kernel
theorem dX6_noteArrangement_84 : decode cX6_noteArrangement 84 = .ok (.iload 4, 2) := by decide +kernel
theorem dX6_noteArrangement_86 : decode cX6_noteArrangement 86 = .ok (.aload_n 0, 1) := by decide +kernel
theorem dX6_noteArrangement_87 : decode cX6_noteArrangement 87 = .ok (.getfield 51, 3) := by decide +kernel
theorem dX6_noteArrangement_90 : decode cX6_noteArrangement 90 = .ok (.if_icmp .ge 19, 3) := by decide +kernel
theorem dX6_noteArrangement_93 : decode cX6_noteArrangement 93 = .ok (.aload_n 0, 1) := by decide +kernel
theorem dX6_noteArrangement_94 : decode cX6_noteArrangement 94 = .ok (.aload_n 0, 1) := by decide +kernel
theorem dX6_noteArrangement_95 : decode cX6_noteArrangement 95 = .ok (.getfield 22, 3) := by decide +kernel
theorem dX6_noteArrangement_98 : decode cX6_noteArrangement 98 = .ok (.iload_n 1, 1) := by decide +kernel
theorem dX6_noteArrangement_99 : decode cX6_noteArrangement 99 = .ok (.iaload, 1) := by decide +kernel
theorem dX6_noteArrangement_100 : decode cX6_noteArrangement 100 = .ok (.putfield 48, 3) := by decide +kernel
theorem dX6_noteArrangement_103 : decode cX6_noteArrangement 103 = .ok (.aload_n 0, 1) := by decide +kernel
theorem dX6_noteArrangement_104 : decode cX6_noteArrangement 104 = .ok (.iload 4, 2) := by decide +kernel
theorem dX6_noteArrangement_106 : decode cX6_noteArrangement 106 = .ok (.putfield 51, 3) := by decide +kernel
theorem dX6_noteArrangement_109 : decode cX6_noteArrangement 109 = .ok (.return_, 1) := by decide +kernel
def m_X6_noteArrangement (N : Nat) (σ : Hp) (t0 : Nat) (p1 : Int32) (p2 : Int32) : Option (Hp) :=
  (rv N σ t0 6).bind fun _ =>
  (gR N σ t0 6 2).bind fun x1 =>
  (aI 0 N σ x1 (p1 ^^^ 4096)).bind fun x2 =>
  ((if x2 = (-1) then
   some (.inl ())
  else
   (gR N σ t0 6 2).bind fun x34 =>
  (aI 0 N σ x34 p1).bind fun x35 =>
  if x35 ≤ x2 then
   some (.inl ())
  else
   some (.inr σ)) : Option ((Unit) ⊕ (Hp))).bind fun z3 =>
  cS z3 (fun w4 => (gI N σ t0 6 6).bind fun x5 =>
  (pV N σ t0 6 6 (.int (x5 + 1))).bind fun σ6 =>
  ((if p2 = 0 then
   (gI N σ6 t0 6 9).bind fun x29 =>
  (pV N σ6 t0 6 9 (.int (x29 + 1))).bind fun σ30 =>
  some σ30
  else
   some σ6) : Option (Hp)).bind fun z7 =>
  (gR N z7 t0 6 2).bind fun x8 =>
  (aI 0 N z7 x8 p1).bind fun x9 =>
  (gI N z7 t0 6 7).bind fun x10 =>
  if x10 < x9 then
   (gR N z7 t0 6 2).bind fun x12 =>
  (aI 0 N z7 x12 p1).bind fun x13 =>
  (pV N z7 t0 6 7 (.int x13)).bind fun σ14 =>
  (pV N σ14 t0 6 8 (.int (p1 &&& 4095))).bind fun σ15 =>
  some σ15
  else
   (gR N z7 t0 6 2).bind fun x16 =>
  (aI 0 N z7 x16 p1).bind fun x17 =>
  (gI N z7 t0 6 7).bind fun x18 =>
  if x17 = x18 then
   (gI N z7 t0 6 8).bind fun x20 =>
  if x20 ≤ (p1 &&& 4095) then
   some z7
  else
   (gR N z7 t0 6 2).bind fun x22 =>
  (aI 0 N z7 x22 p1).bind fun x23 =>
  (pV N z7 t0 6 7 (.int x23)).bind fun σ24 =>
  (pV N σ24 t0 6 8 (.int (p1 &&& 4095))).bind fun σ25 =>
  some σ25
  else
   some z7) (fun q37 => some q37)
set_option maxHeartbeats 4000000 in
set_option maxRecDepth 100000 in
theorem ct_X6_noteArrangement {l : Launch} {D : va_G} {cy : Nat → Nat} {N : Nat} {σ : Hp} {t0 : Nat} {p1 : Int32} {p2 : Int32} {r : Hp} (h : m_X6_noteArrangement N σ t0 p1 p2 = some r) : Ct l D cy yX6_noteArrangement cX6_noteArrangement 5 none 0 [.ref t0, .int p1, .int p2] N σ (fun v s' => v = none ∧ s' = r) := by
  refine Ct.intro [some (.ref t0), some (.int p1), some (.int p2), none, none] (by decide) rfl (Nat.le_of_ble_eq_true rfl) ?_
  intro κ ω e1 e2 e3 e4 C Z E
  subst e1; subst e2; subst e3; subst e4
  have C : Cx κ 5 0 cX6_noteArrangement RX6 "noteArrangement" := C
  have hE : ∀ x : Hp, r = x → ((none : Option Value) = none ∧ x = r) := fun x hx => by subst hx; exact ⟨rfl, rfl⟩
  unfold m_X6_noteArrangement at h
  obtain ⟨_, _, h⟩ := ob h
  refine x_aload_n C (i := 0) dX6_noteArrangement_0 rfl rfl ?_
  obtain ⟨x1, ex1, h⟩ := ob h
  refine x_getR C fl_X6_22 dX6_noteArrangement_1 ex1 ?_
  refine x_iload_n C (i := 1) dX6_noteArrangement_4 rfl rfl ?_
  refine x_sipush C (v := 4096) dX6_noteArrangement_5 (by decide) ?_
  refine x_ixor C dX6_noteArrangement_8 ?_
  obtain ⟨x2, ex2, h⟩ := ob h
  refine x_iald C dX6_noteArrangement_9 ex2 ?_
  refine x_istore_n C (i := 3) (lo' := [some (.ref t0), some (.int p1), some (.int p2), some (.int x2), none]) dX6_noteArrangement_10 rfl (by decide) rfl rfl ?_
  refine x_iload_n C (i := 3) dX6_noteArrangement_11 rfl rfl ?_
  refine x_iconst C (v := (-1)) dX6_noteArrangement_12 (by decide) ?_
  obtain ⟨z3, hz3, hO32⟩ := ob h
  have hJ31 : ∀ w4, z3 = .inl w4 → X κ 5 ω 27 [some (.ref t0), some (.int p1), some (.int p2), none, none] [] σ := by
    intro w4 hu
    subst hu
    have h := cS_l hO32
    refine x_iload_n C (i := 1) dX6_noteArrangement_27 rfl rfl ?_
    refine x_sipush C (v := 4095) dX6_noteArrangement_28 (by decide) ?_
    refine x_iand C dX6_noteArrangement_31 ?_
    refine x_istore C (i := 4) (lo' := [some (.ref t0), some (.int p1), some (.int p2), none, some (.int (p1 &&& 4095))]) dX6_noteArrangement_32 (by decide) rfl rfl ?_
    refine x_aload_n C (i := 0) dX6_noteArrangement_34 rfl rfl ?_
    refine x_dup C dX6_noteArrangement_35 rfl ?_
    obtain ⟨x5, ex5, h⟩ := ob h
    refine x_getI C fl_X6_45 dX6_noteArrangement_36 ex5 ?_
    refine x_iconst C (v := 1) dX6_noteArrangement_39 (by decide) ?_
    refine x_iadd C dX6_noteArrangement_40 ?_
    obtain ⟨σ6, eσ6, h⟩ := ob h
    refine x_put C pl_X6_45 dX6_noteArrangement_41 (fun _ => ⟨rfl, rfl⟩) eσ6 ?_
    refine x_iload_n C (i := 2) dX6_noteArrangement_44 rfl rfl ?_
    obtain ⟨z7, hz7, h⟩ := ob h
    have hJ26 : X κ 5 ω 58 [some (.ref t0), some (.int p1), none, none, some (.int (p1 &&& 4095))] [] z7 := by
      refine x_aload_n C (i := 0) dX6_noteArrangement_58 rfl rfl ?_
      obtain ⟨x8, ex8, h⟩ := ob h
      refine x_getR C fl_X6_22 dX6_noteArrangement_59 ex8 ?_
      refine x_iload_n C (i := 1) dX6_noteArrangement_62 rfl rfl ?_
      obtain ⟨x9, ex9, h⟩ := ob h
      refine x_iald C dX6_noteArrangement_63 ex9 ?_
      refine x_aload_n C (i := 0) dX6_noteArrangement_64 rfl rfl ?_
      obtain ⟨x10, ex10, h⟩ := ob h
      refine x_getI C fl_X6_48 dX6_noteArrangement_65 ex10 ?_
      refine x_icmp_gt C (tgt := 93) dX6_noteArrangement_68 (by decide) (fun c11 => ?_) (fun c11 => ?_)
      · have h := ifP h c11
        refine x_aload_n C (i := 0) dX6_noteArrangement_93 rfl rfl ?_
        refine x_aload_n C (i := 0) dX6_noteArrangement_94 rfl rfl ?_
        obtain ⟨x12, ex12, h⟩ := ob h
        refine x_getR C fl_X6_22 dX6_noteArrangement_95 ex12 ?_
        refine x_iload_n C (i := 1) dX6_noteArrangement_98 rfl rfl ?_
        obtain ⟨x13, ex13, h⟩ := ob h
        refine x_iald C dX6_noteArrangement_99 ex13 ?_
        obtain ⟨σ14, eσ14, h⟩ := ob h
        refine x_put C pl_X6_48 dX6_noteArrangement_100 (fun _ => ⟨rfl, rfl⟩) eσ14 ?_
        refine x_aload_n C (i := 0) dX6_noteArrangement_103 rfl rfl ?_
        refine x_iload C (i := 4) dX6_noteArrangement_104 rfl ?_
        obtain ⟨σ15, eσ15, h⟩ := ob h
        refine x_put C pl_X6_51 dX6_noteArrangement_106 (fun _ => ⟨rfl, rfl⟩) eσ15 ?_
        exact x_vret C E dX6_noteArrangement_109 (hE σ15 (Option.some.inj h).symm)
      · have h := ifN h c11
        refine x_aload_n C (i := 0) dX6_noteArrangement_71 rfl rfl ?_
        obtain ⟨x16, ex16, h⟩ := ob h
        refine x_getR C fl_X6_22 dX6_noteArrangement_72 ex16 ?_
        refine x_iload_n C (i := 1) dX6_noteArrangement_75 rfl rfl ?_
        obtain ⟨x17, ex17, h⟩ := ob h
        refine x_iald C dX6_noteArrangement_76 ex17 ?_
        refine x_aload_n C (i := 0) dX6_noteArrangement_77 rfl rfl ?_
        obtain ⟨x18, ex18, h⟩ := ob h
        refine x_getI C fl_X6_48 dX6_noteArrangement_78 ex18 ?_
        refine x_icmp_ne C (tgt := 109) dX6_noteArrangement_81 (by decide) (fun c19 => ?_) (fun c19 => ?_)
        · have h := ifN h c19
          exact x_vret C E dX6_noteArrangement_109 (hE z7 (Option.some.inj h).symm)
        · have h := ifP h c19
          refine x_iload C (i := 4) dX6_noteArrangement_84 rfl ?_
          refine x_aload_n C (i := 0) dX6_noteArrangement_86 rfl rfl ?_
          obtain ⟨x20, ex20, h⟩ := ob h
          refine x_getI C fl_X6_51 dX6_noteArrangement_87 ex20 ?_
          refine x_icmp_ge C (tgt := 109) dX6_noteArrangement_90 (by decide) (fun c21 => ?_) (fun c21 => ?_)
          · have h := ifP h c21
            exact x_vret C E dX6_noteArrangement_109 (hE z7 (Option.some.inj h).symm)
          · have h := ifN h c21
            refine x_aload_n C (i := 0) dX6_noteArrangement_93 rfl rfl ?_
            refine x_aload_n C (i := 0) dX6_noteArrangement_94 rfl rfl ?_
            obtain ⟨x22, ex22, h⟩ := ob h
            refine x_getR C fl_X6_22 dX6_noteArrangement_95 ex22 ?_
            refine x_iload_n C (i := 1) dX6_noteArrangement_98 rfl rfl ?_
            obtain ⟨x23, ex23, h⟩ := ob h
            refine x_iald C dX6_noteArrangement_99 ex23 ?_
            obtain ⟨σ24, eσ24, h⟩ := ob h
            refine x_put C pl_X6_48 dX6_noteArrangement_100 (fun _ => ⟨rfl, rfl⟩) eσ24 ?_
            refine x_aload_n C (i := 0) dX6_noteArrangement_103 rfl rfl ?_
            refine x_iload C (i := 4) dX6_noteArrangement_104 rfl ?_
            obtain ⟨σ25, eσ25, h⟩ := ob h
            refine x_put C pl_X6_51 dX6_noteArrangement_106 (fun _ => ⟨rfl, rfl⟩) eσ25 ?_
            exact x_vret C E dX6_noteArrangement_109 (hE σ25 (Option.some.inj h).symm)
    clear h
    have h := hz7
    refine x_if_ne C (tgt := 58) dX6_noteArrangement_45 (by decide) (fun c28 => ?_) (fun c28 => ?_)
    · have h := ifN h c28
      refine x_wk [true, true, false, false, true] (lo' := [some (.ref t0), some (.int p1), none, none, some (.int (p1 &&& 4095))]) rfl ?_
      obtain rfl := Option.some.inj h
      exact hJ26
    · have h := ifP h c28
      refine x_aload_n C (i := 0) dX6_noteArrangement_48 rfl rfl ?_
      refine x_dup C dX6_noteArrangement_49 rfl ?_
      obtain ⟨x29, ex29, h⟩ := ob h
      refine x_getI C fl_X6_54 dX6_noteArrangement_50 ex29 ?_
      refine x_iconst C (v := 1) dX6_noteArrangement_53 (by decide) ?_
      refine x_iadd C dX6_noteArrangement_54 ?_
      obtain ⟨σ30, eσ30, h⟩ := ob h
      refine x_put C pl_X6_54 dX6_noteArrangement_55 (fun _ => ⟨rfl, rfl⟩) eσ30 ?_
      refine x_wk [true, true, false, false, true] (lo' := [some (.ref t0), some (.int p1), none, none, some (.int (p1 &&& 4095))]) rfl ?_
      obtain rfl := Option.some.inj h
      exact hJ26
  have h := hz3
  refine x_icmp_eq C (tgt := 27) dX6_noteArrangement_13 (by decide) (fun c33 => ?_) (fun c33 => ?_)
  · have h := ifP h c33
    refine x_wk [true, true, true, false, false] (lo' := [some (.ref t0), some (.int p1), some (.int p2), none, none]) rfl ?_
    exact hJ31 _ (Option.some.inj h).symm
  · have h := ifN h c33
    refine x_iload_n C (i := 3) dX6_noteArrangement_16 rfl rfl ?_
    refine x_aload_n C (i := 0) dX6_noteArrangement_17 rfl rfl ?_
    obtain ⟨x34, ex34, h⟩ := ob h
    refine x_getR C fl_X6_22 dX6_noteArrangement_18 ex34 ?_
    refine x_iload_n C (i := 1) dX6_noteArrangement_21 rfl rfl ?_
    obtain ⟨x35, ex35, h⟩ := ob h
    refine x_iald C dX6_noteArrangement_22 ex35 ?_
    refine x_icmp_ge C (tgt := 27) dX6_noteArrangement_23 (by decide) (fun c36 => ?_) (fun c36 => ?_)
    · have h := ifP h c36
      refine x_wk [true, true, true, false, false] (lo' := [some (.ref t0), some (.int p1), some (.int p2), none, none]) rfl ?_
      exact hJ31 _ (Option.some.inj h).symm
    · have h := ifN h c36
      have h := esc h hO32
      exact x_vret C E dX6_noteArrangement_26 (hE σ (Option.some.inj h).symm)
theorem dX6_comeTo_0 : decode cX6_comeTo 0 = .ok (.aload_n 0, 1) := by decide +kernel
theorem dX6_comeTo_1 : decode cX6_comeTo 1 = .ok (.getfield 58, 3) := by decide +kernel
theorem dX6_comeTo_4 : decode cX6_comeTo 4 = .ok (.ldc 57, 2) := by decide +kernel
theorem dX6_comeTo_6 : decode cX6_comeTo 6 = .ok (.if_icmp .ne 30, 3) := by decide +kernel
theorem dX6_comeTo_9 : decode cX6_comeTo 9 = .ok (.iload_n 1, 1) := by decide +kernel
theorem dX6_comeTo_10 : decode cX6_comeTo 10 = .ok (.sipush 4095, 3) := by decide +kernel
theorem dX6_comeTo_13 : decode cX6_comeTo 13 = .ok (.iand, 1) := by decide +kernel
theorem dX6_comeTo_14 : decode cX6_comeTo 14 = .ok (.aload_n 0, 1) := by decide +kernel
theorem dX6_comeTo_15 : decode cX6_comeTo 15 = .ok (.getfield 12, 3) := by decide +kernel
theorem dX6_comeTo_18 : decode cX6_comeTo 18 = .ok (.getfield 83, 3) := by decide +kernel
theorem dX6_comeTo_21 : decode cX6_comeTo 21 = .ok (.if_icmp .ne 15, 3) := by decide +kernel
theorem dX6_comeTo_24 : decode cX6_comeTo 24 = .ok (.aload_n 0, 1) := by decide +kernel
theorem dX6_comeTo_25 : decode cX6_comeTo 25 = .ok (.aload_n 0, 1) := by decide +kernel
theorem dX6_comeTo_26 : decode cX6_comeTo 26 = .ok (.getfield 22, 3) := by decide +kernel
theorem dX6_comeTo_29 : decode cX6_comeTo 29 = .ok (.iload_n 2, 1) := by decide +kernel
theorem dX6_comeTo_30 : decode cX6_comeTo 30 = .ok (.iaload, 1) := by decide +kernel
theorem dX6_comeTo_31 : decode cX6_comeTo 31 = .ok (.iconst 1, 1) := by decide +kernel
theorem dX6_comeTo_32 : decode cX6_comeTo 32 = .ok (.iadd, 1) := by decide +kernel
theorem dX6_comeTo_33 : decode cX6_comeTo 33 = .ok (.putfield 58, 3) := by decide +kernel
theorem dX6_comeTo_36 : decode cX6_comeTo 36 = .ok (.aload_n 0, 1) := by decide +kernel
theorem dX6_comeTo_37 : decode cX6_comeTo 37 = .ok (.getfield 22, 3) := by decide +kernel
theorem dX6_comeTo_40 : decode cX6_comeTo 40 = .ok (.iload_n 1, 1) := by decide +kernel
theorem dX6_comeTo_41 : decode cX6_comeTo 41 = .ok (.iaload, 1) := by decide +kernel
theorem dX6_comeTo_42 : decode cX6_comeTo 42 = .ok (.iconst (-1), 1) := by decide +kernel
theorem dX6_comeTo_43 : decode cX6_comeTo 43 = .ok (.if_icmp .ne 61, 3) := by decide +kernel
theorem dX6_comeTo_46 : decode cX6_comeTo 46 = .ok (.aload_n 0, 1) := by decide +kernel
theorem dX6_comeTo_47 : decode cX6_comeTo 47 = .ok (.getfield 41, 3) := by decide +kernel
theorem dX6_comeTo_50 : decode cX6_comeTo 50 = .ok (.sipush 8192, 3) := by decide +kernel
theorem dX6_comeTo_53 : decode cX6_comeTo 53 = .ok (.if_icmp .ge 51, 3) := by decide +kernel
theorem dX6_comeTo_56 : decode cX6_comeTo 56 = .ok (.aload_n 0, 1) := by decide +kernel
theorem dX6_comeTo_57 : decode cX6_comeTo 57 = .ok (.getfield 22, 3) := by decide +kernel
theorem dX6_comeTo_60 : decode cX6_comeTo 60 = .ok (.iload_n 1, 1) := by decide +kernel
theorem dX6_comeTo_61 : decode cX6_comeTo 61 = .ok (.aload_n 0, 1) := by decide +kernel
theorem dX6_comeTo_62 : decode cX6_comeTo 62 = .ok (.getfield 22, 3) := by decide +kernel
theorem dX6_comeTo_65 : decode cX6_comeTo 65 = .ok (.iload_n 2, 1) := by decide +kernel
theorem dX6_comeTo_66 : decode cX6_comeTo 66 = .ok (.iaload, 1) := by decide +kernel
theorem dX6_comeTo_67 : decode cX6_comeTo 67 = .ok (.iconst 1, 1) := by decide +kernel
theorem dX6_comeTo_68 : decode cX6_comeTo 68 = .ok (.iadd, 1) := by decide +kernel
theorem dX6_comeTo_69 : decode cX6_comeTo 69 = .ok (.iastore, 1) := by decide +kernel
theorem dX6_comeTo_70 : decode cX6_comeTo 70 = .ok (.aload_n 0, 1) := by decide +kernel
theorem dX6_comeTo_71 : decode cX6_comeTo 71 = .ok (.getfield 25, 3) := by decide +kernel
theorem dX6_comeTo_74 : decode cX6_comeTo 74 = .ok (.iload_n 1, 1) := by decide +kernel
theorem dX6_comeTo_75 : decode cX6_comeTo 75 = .ok (.iload_n 3, 1) := by decide +kernel
theorem dX6_comeTo_76 : decode cX6_comeTo 76 = .ok (.iastore, 1) := by decide +kernel
theorem dX6_comeTo_77 : decode cX6_comeTo 77 = .ok (.aload_n 0, 1) := by decide +kernel
theorem dX6_comeTo_78 : decode cX6_comeTo 78 = .ok (.getfield 28, 3) := by decide +kernel
theorem dX6_comeTo_81 : decode cX6_comeTo 81 = .ok (.iload_n 1, 1) := by decide +kernel
theorem dX6_comeTo_82 : decode cX6_comeTo 82 = .ok (.iload_n 2, 1) := by decide +kernel
theorem dX6_comeTo_83 : decode cX6_comeTo 83 = .ok (.iastore, 1) := by decide +kernel
theorem dX6_comeTo_84 : decode cX6_comeTo 84 = .ok (.aload_n 0, 1) := by decide +kernel
theorem dX6_comeTo_85 : decode cX6_comeTo 85 = .ok (.getfield 18, 3) := by decide +kernel
theorem dX6_comeTo_88 : decode cX6_comeTo 88 = .ok (.aload_n 0, 1) := by decide +kernel
theorem dX6_comeTo_89 : decode cX6_comeTo 89 = .ok (.getfield 41, 3) := by decide +kernel
theorem dX6_comeTo_92 : decode cX6_comeTo 92 = .ok (.iload_n 1, 1) := by decide +kernel
theorem dX6_comeTo_93 : decode cX6_comeTo 93 = .ok (.iastore, 1) := by decide +kernel
theorem dX6_comeTo_94 : decode cX6_comeTo 94 = .ok (.aload_n 0, 1) := by decide +kernel
theorem dX6_comeTo_95 : decode cX6_comeTo 95 = .ok (.dup, 1) := by decide +kernel
theorem dX6_comeTo_96 : decode cX6_comeTo 96 = .ok (.getfield 41, 3) := by decide +kernel
theorem dX6_comeTo_99 : decode cX6_comeTo 99 = .ok (.iconst 1, 1) := by decide +kernel
theorem dX6_comeTo_100 : decode cX6_comeTo 100 = .ok (.iadd, 1) := by decide +kernel
theorem dX6_comeTo_101 : decode cX6_comeTo 101 = .ok (.putfield 41, 3) := by decide +kernel
theorem dX6_comeTo_104 : decode cX6_comeTo 104 = .ok (.return_, 1) := by decide +kernel
def m_X6_comeTo (N : Nat) (σ : Hp) (t0 : Nat) (p1 : Int32) (p2 : Int32) (p3 : Int32) : Option (Hp) :=
  (rv N σ t0 6).bind fun _ =>
  (gI N σ t0 6 10).bind fun x1 =>
  ((if x1 = (-1000000) then
   (gR N σ t0 6 0).bind fun x24 =>
  (gI N σ x24 2 5).bind fun x25 =>
  if (p1 &&& 4095) = x25 then
   (gR N σ t0 6 2).bind fun x27 =>
  (aI 0 N σ x27 p2).bind fun x28 =>
  (pV N σ t0 6 10 (.int (x28 + 1))).bind fun σ29 =>
  some σ29
  else
   some σ
  else
   some σ) : Option (Hp)).bind fun z2 =>
  (gR N z2 t0 6 2).bind fun x3 =>
  (aI 0 N z2 x3 p1).bind fun x4 =>
  if x4 = (-1) then
   (gI N z2 t0 6 5).bind fun x6 =>
  if 8192 ≤ x6 then
   some z2
  else
   (gR N z2 t0 6 2).bind fun x8 =>
  (gR N z2 t0 6 2).bind fun x9 =>
  (aI 0 N z2 x9 p2).bind fun x10 =>
  (sI 0 N z2 x8 p1 (x10 + 1)).bind fun σ11 =>
  (gR N σ11 t0 6 3).bind fun x12 =>
  (sI 0 N σ11 x12 p1 p3).bind fun σ13 =>
  (gR N σ13 t0 6 4).bind fun x14 =>
  (sI 0 N σ13 x14 p1 p2).bind fun σ15 =>
  (gR N σ15 t0 6 1).bind fun x16 =>
  (gI N σ15 t0 6 5).bind fun x17 =>
  (sI 0 N σ15 x16 x17 p1).bind fun σ18 =>
  (gI N σ18 t0 6 5).bind fun x19 =>
  (pV N σ18 t0 6 5 (.int (x19 + 1))).bind fun σ20 =>
  some σ20
  else
   some z2
set_option maxHeartbeats 4000000 in
set_option maxRecDepth 100000 in
theorem ct_X6_comeTo {l : Launch} {D : va_G} {cy : Nat → Nat} {N : Nat} {σ : Hp} {t0 : Nat} {p1 : Int32} {p2 : Int32} {p3 : Int32} {r : Hp} (h : m_X6_comeTo N σ t0 p1 p2 p3 = some r) : Ct l D cy yX6_comeTo cX6_comeTo 4 none 0 [.ref t0, .int p1, .int p2, .int p3] N σ (fun v s' => v = none ∧ s' = r) := by
  refine Ct.intro [some (.ref t0), some (.int p1), some (.int p2), some (.int p3)] (by decide) rfl (Nat.le_of_ble_eq_true rfl) ?_
  intro κ ω e1 e2 e3 e4 C Z E
  subst e1; subst e2; subst e3; subst e4
  have C : Cx κ 4 0 cX6_comeTo RX6 "comeTo" := C
  have hE : ∀ x : Hp, r = x → ((none : Option Value) = none ∧ x = r) := fun x hx => by subst hx; exact ⟨rfl, rfl⟩
  unfold m_X6_comeTo at h
  obtain ⟨_, _, h⟩ := ob h
  refine x_aload_n C (i := 0) dX6_comeTo_0 rfl rfl ?_
  obtain ⟨x1, ex1, h⟩ := ob h
  refine x_getI C fl_X6_58 dX6_comeTo_1 ex1 ?_
  refine x_ldc C kc_X6_57 dX6_comeTo_4 ?_
  obtain ⟨z2, hz2, h⟩ := ob h
  have hJ21 : X κ 4 ω 36 [some (.ref t0), some (.int p1), some (.int p2), some (.int p3)] [] z2 := by
    refine x_aload_n C (i := 0) dX6_comeTo_36 rfl rfl ?_
    obtain ⟨x3, ex3, h⟩ := ob h
    refine x_getR C fl_X6_22 dX6_comeTo_37 ex3 ?_
    refine x_iload_n C (i := 1) dX6_comeTo_40 rfl rfl ?_
    obtain ⟨x4, ex4, h⟩ := ob h
    refine x_iald C dX6_comeTo_41 ex4 ?_
    refine x_iconst C (v := (-1)) dX6_comeTo_42 (by decide) ?_
    refine x_icmp_ne C (tgt := 104) dX6_comeTo_43 (by decide) (fun c5 => ?_) (fun c5 => ?_)
    · have h := ifN h c5
      exact x_vret C E dX6_comeTo_104 (hE z2 (Option.some.inj h).symm)
    · have h := ifP h c5
      refine x_aload_n C (i := 0) dX6_comeTo_46 rfl rfl ?_
      obtain ⟨x6, ex6, h⟩ := ob h
      refine x_getI C fl_X6_41 dX6_comeTo_47 ex6 ?_
      refine x_sipush C (v := 8192) dX6_comeTo_50 (by decide) ?_
      refine x_icmp_ge C (tgt := 104) dX6_comeTo_53 (by decide) (fun c7 => ?_) (fun c7 => ?_)
      · have h := ifP h c7
        exact x_vret C E dX6_comeTo_104 (hE z2 (Option.some.inj h).symm)
      · have h := ifN h c7
        refine x_aload_n C (i := 0) dX6_comeTo_56 rfl rfl ?_
        obtain ⟨x8, ex8, h⟩ := ob h
        refine x_getR C fl_X6_22 dX6_comeTo_57 ex8 ?_
        refine x_iload_n C (i := 1) dX6_comeTo_60 rfl rfl ?_
        refine x_aload_n C (i := 0) dX6_comeTo_61 rfl rfl ?_
        obtain ⟨x9, ex9, h⟩ := ob h
        refine x_getR C fl_X6_22 dX6_comeTo_62 ex9 ?_
        refine x_iload_n C (i := 2) dX6_comeTo_65 rfl rfl ?_
        obtain ⟨x10, ex10, h⟩ := ob h
        refine x_iald C dX6_comeTo_66 ex10 ?_
        refine x_iconst C (v := 1) dX6_comeTo_67 (by decide) ?_
        refine x_iadd C dX6_comeTo_68 ?_
        obtain ⟨σ11, eσ11, h⟩ := ob h
        refine x_iast C dX6_comeTo_69 eσ11 ?_
        refine x_aload_n C (i := 0) dX6_comeTo_70 rfl rfl ?_
        obtain ⟨x12, ex12, h⟩ := ob h
        refine x_getR C fl_X6_25 dX6_comeTo_71 ex12 ?_
        refine x_iload_n C (i := 1) dX6_comeTo_74 rfl rfl ?_
        refine x_iload_n C (i := 3) dX6_comeTo_75 rfl rfl ?_
        obtain ⟨σ13, eσ13, h⟩ := ob h
        refine x_iast C dX6_comeTo_76 eσ13 ?_
        refine x_aload_n C (i := 0) dX6_comeTo_77 rfl rfl ?_
        obtain ⟨x14, ex14, h⟩ := ob h
        refine x_getR C fl_X6_28 dX6_comeTo_78 ex14 ?_
        refine x_iload_n C (i := 1) dX6_comeTo_81 rfl rfl ?_
        refine x_iload_n C (i := 2) dX6_comeTo_82 rfl rfl ?_
        obtain ⟨σ15, eσ15, h⟩ := ob h
        refine x_iast C dX6_comeTo_83 eσ15 ?_
        refine x_aload_n C (i := 0) dX6_comeTo_84 rfl rfl ?_
        obtain ⟨x16, ex16, h⟩ := ob h
        refine x_getR C fl_X6_18 dX6_comeTo_85 ex16 ?_
        refine x_aload_n C (i := 0) dX6_comeTo_88 rfl rfl ?_
        obtain ⟨x17, ex17, h⟩ := ob h
        refine x_getI C fl_X6_41 dX6_comeTo_89 ex17 ?_
        refine x_iload_n C (i := 1) dX6_comeTo_92 rfl rfl ?_
        obtain ⟨σ18, eσ18, h⟩ := ob h
        refine x_iast C dX6_comeTo_93 eσ18 ?_
        refine x_aload_n C (i := 0) dX6_comeTo_94 rfl rfl ?_
        refine x_dup C dX6_comeTo_95 rfl ?_
        obtain ⟨x19, ex19, h⟩ := ob h
        refine x_getI C fl_X6_41 dX6_comeTo_96 ex19 ?_
        refine x_iconst C (v := 1) dX6_comeTo_99 (by decide) ?_
        refine x_iadd C dX6_comeTo_100 ?_
        obtain ⟨σ20, eσ20, h⟩ := ob h
        refine x_put C pl_X6_41 dX6_comeTo_101 (fun _ => ⟨rfl, rfl⟩) eσ20 ?_
        exact x_vret C E dX6_comeTo_104 (hE σ20 (Option.some.inj h).symm)
  clear h
  have h := hz2
  refine x_icmp_ne C (tgt := 36) dX6_comeTo_6 (by decide) (fun c23 => ?_) (fun c23 => ?_)
  · have h := ifN h c23
    refine x_wk [true, true, true, true] (lo' := [some (.ref t0), some (.int p1), some (.int p2), some (.int p3)]) rfl ?_
    obtain rfl := Option.some.inj h
    exact hJ21
  · have h := ifP h c23
    refine x_iload_n C (i := 1) dX6_comeTo_9 rfl rfl ?_
    refine x_sipush C (v := 4095) dX6_comeTo_10 (by decide) ?_
    refine x_iand C dX6_comeTo_13 ?_
    refine x_aload_n C (i := 0) dX6_comeTo_14 rfl rfl ?_
    obtain ⟨x24, ex24, h⟩ := ob h
    refine x_getR C fl_X6_12 dX6_comeTo_15 ex24 ?_
    obtain ⟨x25, ex25, h⟩ := ob h
    refine x_getI C fl_X6_83 dX6_comeTo_18 ex25 ?_
    refine x_icmp_ne C (tgt := 36) dX6_comeTo_21 (by decide) (fun c26 => ?_) (fun c26 => ?_)
    · have h := ifN h c26
      refine x_wk [true, true, true, true] (lo' := [some (.ref t0), some (.int p1), some (.int p2), some (.int p3)]) rfl ?_
      obtain rfl := Option.some.inj h
      exact hJ21
    · have h := ifP h c26
      refine x_aload_n C (i := 0) dX6_comeTo_24 rfl rfl ?_
      refine x_aload_n C (i := 0) dX6_comeTo_25 rfl rfl ?_
      obtain ⟨x27, ex27, h⟩ := ob h
      refine x_getR C fl_X6_22 dX6_comeTo_26 ex27 ?_
      refine x_iload_n C (i := 2) dX6_comeTo_29 rfl rfl ?_
      obtain ⟨x28, ex28, h⟩ := ob h
      refine x_iald C dX6_comeTo_30 ex28 ?_
      refine x_iconst C (v := 1) dX6_comeTo_31 (by decide) ?_
      refine x_iadd C dX6_comeTo_32 ?_
      obtain ⟨σ29, eσ29, h⟩ := ob h
      refine x_put C pl_X6_58 dX6_comeTo_33 (fun _ => ⟨rfl, rfl⟩) eσ29 ?_
      refine x_wk [true, true, true, true] (lo' := [some (.ref t0), some (.int p1), some (.int p2), some (.int p3)]) rfl ?_
      obtain rfl := Option.some.inj h
      exact hJ21
theorem dX6_spread_0 : decode cX6_spread 0 = .ok (.aload_n 1, 1) := by decide +kernel
theorem dX6_spread_1 : decode cX6_spread 1 = .ok (.invokevirtual 61, 3) := by decide +kernel
theorem dX6_spread_4 : decode cX6_spread 4 = .ok (.sipush 8191, 3) := by decide +kernel
theorem dX6_spread_7 : decode cX6_spread 7 = .ok (.iand, 1) := by decide +kernel
theorem dX6_spread_8 : decode cX6_spread 8 = .ok (.istore_n 2, 1) := by decide +kernel
theorem dX6_spread_9 : decode cX6_spread 9 = .ok (.aload_n 0, 1) := by decide +kernel
theorem dX6_spread_10 : decode cX6_spread 10 = .ok (.getfield 22, 3) := by decide +kernel
theorem dX6_spread_13 : decode cX6_spread 13 = .ok (.iload_n 2, 1) := by decide +kernel
theorem dX6_spread_14 : decode cX6_spread 14 = .ok (.iconst 0, 1) := by decide +kernel
theorem dX6_spread_15 : decode cX6_spread 15 = .ok (.iastore, 1) := by decide +kernel
theorem dX6_spread_16 : decode cX6_spread 16 = .ok (.aload_n 0, 1) := by decide +kernel
theorem dX6_spread_17 : decode cX6_spread 17 = .ok (.getfield 18, 3) := by decide +kernel
theorem dX6_spread_20 : decode cX6_spread 20 = .ok (.iconst 0, 1) := by decide +kernel
theorem dX6_spread_21 : decode cX6_spread 21 = .ok (.iload_n 2, 1) := by decide +kernel
theorem dX6_spread_22 : decode cX6_spread 22 = .ok (.iastore, 1) := by decide +kernel
theorem dX6_spread_23 : decode cX6_spread 23 = .ok (.aload_n 0, 1) := by decide +kernel
theorem dX6_spread_24 : decode cX6_spread 24 = .ok (.iconst 1, 1) := by decide +kernel
theorem dX6_spread_25 : decode cX6_spread 25 = .ok (.putfield 41, 3) := by decide +kernel
theorem dX6_spread_28 : decode cX6_spread 28 = .ok (.iconst 0, 1) := by decide +kernel
theorem dX6_spread_29 : decode cX6_spread 29 = .ok (.istore_n 3, 1) := by decide +kernel
theorem dX6_spread_30 : decode cX6_spread 30 = .ok (.iload_n 3, 1) := by decide +kernel
theorem dX6_spread_31 : decode cX6_spread 31 = .ok (.sipush 8192, 3) := by decide +kernel
theorem dX6_spread_34 : decode cX6_spread 34 = .ok (.if_icmp .ge 91, 3) := by decide +kernel
theorem dX6_spread_37 : decode cX6_spread 37 = .ok (.iload_n 3, 1) := by decide +kernel
theorem dX6_spread_38 : decode cX6_spread 38 = .ok (.aload_n 0, 1) := by decide +kernel
theorem dX6_spread_39 : decode cX6_spread 39 = .ok (.getfield 41, 3) := by decide +kernel
theorem dX6_spread_42 : decode cX6_spread 42 = .ok (.if_icmp .ge 83, 3) := by decide +kernel
theorem dX6_spread_45 : decode cX6_spread 45 = .ok (.aload_n 0, 1) := by decide +kernel
theorem dX6_spread_46 : decode cX6_spread 46 = .ok (.getfield 18, 3) := by decide +kernel
theorem dX6_spread_49 : decode cX6_spread 49 = .ok (.iload_n 3, 1) := by decide +kernel
theorem dX6_spread_50 : decode cX6_spread 50 = .ok (.iaload, 1) := by decide +kernel
theorem dX6_spread_51 : decode cX6_spread 51 = .ok (.sipush 8191, 3) := by decide +kernel
theorem dX6_spread_54 : decode cX6_spread 54 = .ok (.iand, 1) := by decide +kernel
theorem dX6_spread_55 : decode cX6_spread 55 = .ok (.istore 4, 2) := by decide +kernel
theorem dX6_spread_57 : decode cX6_spread 57 = .ok (.aload_n 1, 1) := by decide +kernel
theorem dX6_spread_58 : decode cX6_spread 58 = .ok (.iload 4, 2) := by decide +kernel
theorem dX6_spread_60 : decode cX6_spread 60 = .ok (.invokevirtual 67, 3) := by decide +kernel
theorem dX6_spread_63 : decode cX6_spread 63 = .ok (.istore 5, 2) := by decide +kernel
theorem dX6_spread_65 : decode cX6_spread 65 = .ok (.aload_n 0, 1) := by decide +kernel
theorem dX6_spread_66 : decode cX6_spread 66 = .ok (.iload 4, 2) := by decide +kernel
theorem dX6_spread_68 : decode cX6_spread 68 = .ok (.iload 5, 2) := by decide +kernel
theorem dX6_spread_70 : decode cX6_spread 70 = .ok (.invokevirtual 71, 3) := by decide +kernel
theorem dX6_spread_73 : decode cX6_spread 73 = .ok (.iconst 0, 1) := by decide +kernel
theorem dX6_spread_74 : decode cX6_spread 74 = .ok (.istore 6, 2) := by decide +kernel
theorem dX6_spread_76 : decode cX6_spread 76 = .ok (.iload 6, 2) := by decide +kernel
theorem dX6_spread_78 : decode cX6_spread 78 = .ok (.bipush 16, 2) := by decide +kernel
theorem dX6_spread_80 : decode cX6_spread 80 = .ok (.if_icmp .ge 39, 3) := by decide +kernel
theorem dX6_spread_83 : decode cX6_spread 83 = .ok (.iload 5, 2) := by decide +kernel
theorem dX6_spread_85 : decode cX6_spread 85 = .ok (.iload 6, 2) := by decide +kernel
theorem dX6_spread_87 : decode cX6_spread 87 = .ok (.ishr, 1) := by decide +kernel
theorem dX6_spread_88 : decode cX6_spread 88 = .ok (.iconst 1, 1) := by decide +kernel
theorem dX6_spread_89 : decode cX6_spread 89 = .ok (.iand, 1) := by decide +kernel
theorem dX6_spread_90 : decode cX6_spread 90 = .ok (.ifCond .eq 23, 3) := by decide +kernel
theorem dX6_spread_93 : decode cX6_spread 93 = .ok (.aload_n 0, 1) := by decide +kernel
theorem dX6_spread_94 : decode cX6_spread 94 = .ok (.aload_n 1, 1) := by decide +kernel
theorem dX6_spread_95 : decode cX6_spread 95 = .ok (.iload 4, 2) := by decide +kernel
theorem dX6_spread_97 : decode cX6_spread 97 = .ok (.iload 6, 2) := by decide +kernel
theorem dX6_spread_99 : decode cX6_spread 99 = .ok (.invokevirtual 75, 3) := by decide +kernel
theorem dX6_spread_102 : decode cX6_spread 102 = .ok (.sipush 8191, 3) := by decide +kernel
theorem dX6_spread_105 : decode cX6_spread 105 = .ok (.iand, 1) := by decide +kernel
theorem dX6_spread_106 : decode cX6_spread 106 = .ok (.iload 4, 2) := by decide +kernel
theorem dX6_spread_108 : decode cX6_spread 108 = .ok (.iload 6, 2) := by decide +kernel
theorem dX6_spread_110 : decode cX6_spread 110 = .ok (.invokevirtual 79, 3) := by decide +kernel
theorem dX6_spread_113 : decode cX6_spread 113 = .ok (.iinc 6 1, 3) := by decide +kernel
theorem dX6_spread_116 : decode cX6_spread 116 = .ok (.goto (-40), 3) := by decide +kernel
theorem dX6_spread_119 : decode cX6_spread 119 = .ok (.iinc 3 1, 3) := by decide +kernel
theorem dX6_spread_122 : decode cX6_spread 122 = .ok (.goto (-92), 3) := by decide +kernel
theorem dX6_spread_125 : decode cX6_spread 125 = .ok (.return_, 1) := by decide +kernel
def L_X6_spread_76 (N : Nat) (v0 : Nat) (v1 : Nat) (v3 : Int32) (v4 : Int32) (v5 : Int32) : Nat → Hp → Int32 → Option (Hp)
  | 0, _, _ => none
  | n + 1, σ, v6 =>
  if 16 ≤ v6 then
   some σ
  else
   if ((v5 >>> (v6 &&& 31)) &&& 1) = 0 then
   L_X6_spread_76 N v0 v1 v3 v4 v5 n σ (v6 + 1)
  else
   (m_X4_stateBehind N σ v1 v4 v6).bind fun r16 =>
  (m_X6_comeTo N σ v0 (r16 &&& 8191) v4 v6).bind fun r17 =>
  L_X6_spread_76 N v0 v1 v3 v4 v5 n r17 (v6 + 1)
def L_X6_spread_30 (N : Nat) (v0 : Nat) (v1 : Nat) : Nat → Hp → Int32 → Option (Hp)
  | 0, _, _ => none
  | n + 1, σ, v3 =>
  if 8192 ≤ v3 then
   some σ
  else
   (gI N σ v0 6 5).bind fun x8 =>
  if x8 ≤ v3 then
   some σ
  else
   (gR N σ v0 6 1).bind fun x10 =>
  (aI 0 N σ x10 v3).bind fun x11 =>
  (m_X4_movesAt N σ v1 (x11 &&& 8191)).bind fun r12 =>
  (m_X6_noteArrangement N r12.2 v0 (x11 &&& 8191) r12.1).bind fun r13 =>
  (L_X6_spread_76 N v0 v1 v3 (x11 &&& 8191) r12.1 fu r13 0).bind fun z18 =>
  L_X6_spread_30 N v0 v1 n z18 (v3 + 1)
def m_X6_spread (N : Nat) (σ : Hp) (t0 : Nat) (p1 : Nat) : Option (Hp) :=
  (rv N σ t0 6).bind fun _ =>
  (m_X4_start N σ p1).bind fun r1 =>
  (gR N σ t0 6 2).bind fun x2 =>
  (sI 0 N σ x2 (r1 &&& 8191) 0).bind fun σ3 =>
  (gR N σ3 t0 6 1).bind fun x4 =>
  (sI 0 N σ3 x4 0 (r1 &&& 8191)).bind fun σ5 =>
  (pV N σ5 t0 6 5 (.int 1)).bind fun σ6 =>
  (L_X6_spread_30 N t0 p1 fu σ6 0).bind fun z19 =>
  some z19
set_option maxHeartbeats 4000000 in
set_option maxRecDepth 100000 in
theorem lp_X6_spread_76 {κ : Kx} {ω : Om} (C : Cx κ 7 4 cX6_spread RX6 "spread") (Z : Zx κ ω) (v0 : Nat) (v1 : Nat) (v3 : Int32) (v4 : Int32) (v5 : Int32) {r : Hp} (hk : X κ 7 ω 119 [some (.ref v0), some (.ref v1), none, some (.int v3), none, none, none] [] r) : ∀ (n : Nat) (σ : Hp) (v6 : Int32), L_X6_spread_76 ω.1 v0 v1 v3 v4 v5 n σ v6 = some r → X κ 7 ω 76 [some (.ref v0), some (.ref v1), none, some (.int v3), some (.int v4), some (.int v5), some (.int v6)] [] σ := by
  intro n
  induction n with
  | zero => intro σ v6 h; cases h
  | succ n ih =>
    intro σ v6 h
    rw [L_X6_spread_76.eq_2] at h
    refine x_iload C (i := 6) dX6_spread_76 rfl ?_
    refine x_bipush C (v := 16) dX6_spread_78 (by decide) ?_
    refine x_icmp_ge C (tgt := 119) dX6_spread_80 (by decide) (fun c14 => ?_) (fun c14 => ?_)
    · have h := ifP h c14
      refine x_wk [true, true, false, true, false, false, false] (lo' := [some (.ref v0), some (.ref v1), none, some (.int v3), none, none, none]) rfl ?_
      obtain rfl := Option.some.inj h
      exact hk
    · have h := ifN h c14
      refine x_iload C (i := 5) dX6_spread_83 rfl ?_
      refine x_iload C (i := 6) dX6_spread_85 rfl ?_
      refine x_ishr C dX6_spread_87 ?_
      refine x_iconst C (v := 1) dX6_spread_88 (by decide) ?_
      refine x_iand C dX6_spread_89 ?_
      refine x_if_eq C (tgt := 113) dX6_spread_90 (by decide) (fun c15 => ?_) (fun c15 => ?_)
      · have h := ifP h c15
        refine x_iinc C (i := 6) (y := v6 + 1) (lo' := [some (.ref v0), some (.ref v1), none, some (.int v3), some (.int v4), some (.int v5), some (.int (v6 + 1))]) dX6_spread_113 rfl rfl (by decide) rfl rfl ?_
        refine x_goto C (tgt := 76) dX6_spread_116 (by decide) ?_
        refine x_wk [true, true, false, true, true, true, true] (lo' := [some (.ref v0), some (.ref v1), none, some (.int v3), some (.int v4), some (.int v5), some (.int (v6 + 1))]) rfl ?_
        exact ih σ (v6 + 1) h
      · have h := ifN h c15
        refine x_aload_n C (i := 0) dX6_spread_93 rfl rfl ?_
        refine x_aload_n C (i := 1) dX6_spread_94 rfl rfl ?_
        refine x_iload C (i := 4) dX6_spread_95 rfl ?_
        refine x_iload C (i := 6) dX6_spread_97 rfl ?_
        obtain ⟨r16, er16, h⟩ := ob h
        refine x_callVr C Z mv_X4_stateBehind lk_X6_75 (rv_h er16) (ct_X4_stateBehind er16) (by decide) rfl rfl (Nat.le_of_ble_eq_true rfl) dX6_spread_99 ?_
        refine x_sipush C (v := 8191) dX6_spread_102 (by decide) ?_
        refine x_iand C dX6_spread_105 ?_
        refine x_iload C (i := 4) dX6_spread_106 rfl ?_
        refine x_iload C (i := 6) dX6_spread_108 rfl ?_
        obtain ⟨r17, er17, h⟩ := ob h
        refine x_callVn C Z mv_X6_comeTo lk_X6_79 (rv_h er17) (ct_X6_comeTo er17) (by decide) rfl rfl (Nat.le_of_ble_eq_true rfl) dX6_spread_110 ?_
        refine x_iinc C (i := 6) (y := v6 + 1) (lo' := [some (.ref v0), some (.ref v1), none, some (.int v3), some (.int v4), some (.int v5), some (.int (v6 + 1))]) dX6_spread_113 rfl rfl (by decide) rfl rfl ?_
        refine x_goto C (tgt := 76) dX6_spread_116 (by decide) ?_
        refine x_wk [true, true, false, true, true, true, true] (lo' := [some (.ref v0), some (.ref v1), none, some (.int v3), some (.int v4), some (.int v5), some (.int (v6 + 1))]) rfl ?_
        exact ih r17 (v6 + 1) h
set_option maxHeartbeats 4000000 in
set_option maxRecDepth 100000 in
theorem lp_X6_spread_30 {κ : Kx} {ω : Om} (C : Cx κ 7 4 cX6_spread RX6 "spread") (Z : Zx κ ω) (v0 : Nat) (v1 : Nat) {r : Hp} (hk : X κ 7 ω 125 [none, none, none, none, none, none, none] [] r) : ∀ (n : Nat) (σ : Hp) (v3 : Int32), L_X6_spread_30 ω.1 v0 v1 n σ v3 = some r → X κ 7 ω 30 [some (.ref v0), some (.ref v1), none, some (.int v3), none, none, none] [] σ := by
  intro n
  induction n with
  | zero => intro σ v3 h; cases h
  | succ n ih =>
    intro σ v3 h
    rw [L_X6_spread_30.eq_2] at h
    refine x_iload_n C (i := 3) dX6_spread_30 rfl rfl ?_
    refine x_sipush C (v := 8192) dX6_spread_31 (by decide) ?_
    refine x_icmp_ge C (tgt := 125) dX6_spread_34 (by decide) (fun c7 => ?_) (fun c7 => ?_)
    · have h := ifP h c7
      refine x_wk [false, false, false, false, false, false, false] (lo' := [none, none, none, none, none, none, none]) rfl ?_
      obtain rfl := Option.some.inj h
      exact hk
    · have h := ifN h c7
      refine x_iload_n C (i := 3) dX6_spread_37 rfl rfl ?_
      refine x_aload_n C (i := 0) dX6_spread_38 rfl rfl ?_
      obtain ⟨x8, ex8, h⟩ := ob h
      refine x_getI C fl_X6_41 dX6_spread_39 ex8 ?_
      refine x_icmp_ge C (tgt := 125) dX6_spread_42 (by decide) (fun c9 => ?_) (fun c9 => ?_)
      · have h := ifP h c9
        refine x_wk [false, false, false, false, false, false, false] (lo' := [none, none, none, none, none, none, none]) rfl ?_
        obtain rfl := Option.some.inj h
        exact hk
      · have h := ifN h c9
        refine x_aload_n C (i := 0) dX6_spread_45 rfl rfl ?_
        obtain ⟨x10, ex10, h⟩ := ob h
        refine x_getR C fl_X6_18 dX6_spread_46 ex10 ?_
        refine x_iload_n C (i := 3) dX6_spread_49 rfl rfl ?_
        obtain ⟨x11, ex11, h⟩ := ob h
        refine x_iald C dX6_spread_50 ex11 ?_
        refine x_sipush C (v := 8191) dX6_spread_51 (by decide) ?_
        refine x_iand C dX6_spread_54 ?_
        refine x_istore C (i := 4) (lo' := [some (.ref v0), some (.ref v1), none, some (.int v3), some (.int (x11 &&& 8191)), none, none]) dX6_spread_55 (by decide) rfl rfl ?_
        refine x_aload_n C (i := 1) dX6_spread_57 rfl rfl ?_
        refine x_iload C (i := 4) dX6_spread_58 rfl ?_
        obtain ⟨r12, er12, h⟩ := ob h
        refine x_callVr C Z mv_X4_movesAt lk_X6_67 (rv_h er12) (ct_X4_movesAt er12) (by decide) rfl rfl (Nat.le_of_ble_eq_true rfl) dX6_spread_60 ?_
        refine x_istore C (i := 5) (lo' := [some (.ref v0), some (.ref v1), none, some (.int v3), some (.int (x11 &&& 8191)), some (.int r12.1), none]) dX6_spread_63 (by decide) rfl rfl ?_
        refine x_aload_n C (i := 0) dX6_spread_65 rfl rfl ?_
        refine x_iload C (i := 4) dX6_spread_66 rfl ?_
        refine x_iload C (i := 5) dX6_spread_68 rfl ?_
        obtain ⟨r13, er13, h⟩ := ob h
        refine x_callVn C Z mv_X6_noteArrangement lk_X6_71 (rv_h er13) (ct_X6_noteArrangement er13) (by decide) rfl rfl (Nat.le_of_ble_eq_true rfl) dX6_spread_70 ?_
        refine x_iconst C (v := 0) dX6_spread_73 (by decide) ?_
        refine x_istore C (i := 6) (lo' := [some (.ref v0), some (.ref v1), none, some (.int v3), some (.int (x11 &&& 8191)), some (.int r12.1), some (.int 0)]) dX6_spread_74 (by decide) rfl rfl ?_
        obtain ⟨z18, ez18, h⟩ := ob h
        refine x_wk [true, true, false, true, true, true, true] (lo' := [some (.ref v0), some (.ref v1), none, some (.int v3), some (.int (x11 &&& 8191)), some (.int r12.1), some (.int 0)]) rfl ?_
        refine lp_X6_spread_76 C Z v0 v1 v3 (x11 &&& 8191) r12.1 ?_ _ r13 0 ez18
        refine x_iinc C (i := 3) (y := v3 + 1) (lo' := [some (.ref v0), some (.ref v1), none, some (.int (v3 + 1)), none, none, none]) dX6_spread_119 rfl rfl (by decide) rfl rfl ?_
        refine x_goto C (tgt := 30) dX6_spread_122 (by decide) ?_
        refine x_wk [true, true, false, true, false, false, false] (lo' := [some (.ref v0), some (.ref v1), none, some (.int (v3 + 1)), none, none, none]) rfl ?_
        exact ih z18 (v3 + 1) h
set_option maxHeartbeats 4000000 in
set_option maxRecDepth 100000 in
theorem ct_X6_spread {l : Launch} {D : va_G} {cy : Nat → Nat} {N : Nat} {σ : Hp} {t0 : Nat} {p1 : Nat} {r : Hp} (h : m_X6_spread N σ t0 p1 = some r) : Ct l D cy yX6_spread cX6_spread 7 none 4 [.ref t0, .ref p1] N σ (fun v s' => v = none ∧ s' = r) := by
  refine Ct.intro [some (.ref t0), some (.ref p1), none, none, none, none, none] (by decide) rfl (Nat.le_of_ble_eq_true rfl) ?_
  intro κ ω e1 e2 e3 e4 C Z E
  subst e1; subst e2; subst e3; subst e4
  have C : Cx κ 7 4 cX6_spread RX6 "spread" := C
  have hE : ∀ x : Hp, r = x → ((none : Option Value) = none ∧ x = r) := fun x hx => by subst hx; exact ⟨rfl, rfl⟩
  unfold m_X6_spread at h
  obtain ⟨_, _, h⟩ := ob h
  refine x_aload_n C (i := 1) dX6_spread_0 rfl rfl ?_
  obtain ⟨r1, er1, h⟩ := ob h
  refine x_callVr C Z mv_X4_start lk_X6_61 (rv_h er1) (ct_X4_start er1) (by decide) rfl rfl (Nat.le_of_ble_eq_true rfl) dX6_spread_1 ?_
  refine x_sipush C (v := 8191) dX6_spread_4 (by decide) ?_
  refine x_iand C dX6_spread_7 ?_
  refine x_istore_n C (i := 2) (lo' := [some (.ref t0), some (.ref p1), some (.int (r1 &&& 8191)), none, none, none, none]) dX6_spread_8 rfl (by decide) rfl rfl ?_
  refine x_aload_n C (i := 0) dX6_spread_9 rfl rfl ?_
  obtain ⟨x2, ex2, h⟩ := ob h
  refine x_getR C fl_X6_22 dX6_spread_10 ex2 ?_
  refine x_iload_n C (i := 2) dX6_spread_13 rfl rfl ?_
  refine x_iconst C (v := 0) dX6_spread_14 (by decide) ?_
  obtain ⟨σ3, eσ3, h⟩ := ob h
  refine x_iast C dX6_spread_15 eσ3 ?_
  refine x_aload_n C (i := 0) dX6_spread_16 rfl rfl ?_
  obtain ⟨x4, ex4, h⟩ := ob h
  refine x_getR C fl_X6_18 dX6_spread_17 ex4 ?_
  refine x_iconst C (v := 0) dX6_spread_20 (by decide) ?_
  refine x_iload_n C (i := 2) dX6_spread_21 rfl rfl ?_
  obtain ⟨σ5, eσ5, h⟩ := ob h
  refine x_iast C dX6_spread_22 eσ5 ?_
  refine x_aload_n C (i := 0) dX6_spread_23 rfl rfl ?_
  refine x_iconst C (v := 1) dX6_spread_24 (by decide) ?_
  obtain ⟨σ6, eσ6, h⟩ := ob h
  refine x_put C pl_X6_41 dX6_spread_25 (fun _ => ⟨rfl, rfl⟩) eσ6 ?_
  refine x_iconst C (v := 0) dX6_spread_28 (by decide) ?_
  refine x_istore_n C (i := 3) (lo' := [some (.ref t0), some (.ref p1), some (.int (r1 &&& 8191)), some (.int 0), none, none, none]) dX6_spread_29 rfl (by decide) rfl rfl ?_
  obtain ⟨z19, ez19, h⟩ := ob h
  refine x_wk [true, true, false, true, false, false, false] (lo' := [some (.ref t0), some (.ref p1), none, some (.int 0), none, none, none]) rfl ?_
  refine lp_X6_spread_30 C Z t0 p1 ?_ _ σ6 0 ez19
  exact x_vret C E dX6_spread_125 (hE z19 (Option.some.inj h).symm)
theorem dX6_soonestOf_0 : decode cX6_soonestOf 0 = .ok (.aload_n 0, 1) := by decide +kernel
theorem dX6_soonestOf_1 : decode cX6_soonestOf 1 = .ok (.getfield 22, 3) := by decide +kernel
theorem dX6_soonestOf_4 : decode cX6_soonestOf 4 = .ok (.iload_n 1, 1) := by decide +kernel
theorem dX6_soonestOf_5 : decode cX6_soonestOf 5 = .ok (.iaload, 1) := by decide +kernel
theorem dX6_soonestOf_6 : decode cX6_soonestOf 6 = .ok (.istore_n 2, 1) := by decide +kernel
theorem dX6_soonestOf_7 : decode cX6_soonestOf 7 = .ok (.aload_n 0, 1) := by decide +kernel
theorem dX6_soonestOf_8 : decode cX6_soonestOf 8 = .ok (.getfield 22, 3) := by decide +kernel
theorem dX6_soonestOf_11 : decode cX6_soonestOf 11 = .ok (.iload_n 1, 1) := by decide +kernel
theorem dX6_soonestOf_12 : decode cX6_soonestOf 12 = .ok (.sipush 4096, 3) := by decide +kernel
theorem dX6_soonestOf_15 : decode cX6_soonestOf 15 = .ok (.ior, 1) := by decide +kernel
theorem dX6_soonestOf_16 : decode cX6_soonestOf 16 = .ok (.iaload, 1) := by decide +kernel
theorem dX6_soonestOf_17 : decode cX6_soonestOf 17 = .ok (.istore_n 3, 1) := by decide +kernel
theorem dX6_soonestOf_18 : decode cX6_soonestOf 18 = .ok (.iload_n 3, 1) := by decide +kernel
theorem dX6_soonestOf_19 : decode cX6_soonestOf 19 = .ok (.iconst (-1), 1) := by decide +kernel
theorem dX6_soonestOf_20 : decode cX6_soonestOf 20 = .ok (.if_icmp .eq 17, 3) := by decide +kernel
theorem dX6_soonestOf_23 : decode cX6_soonestOf 23 = .ok (.iload_n 2, 1) := by decide +kernel
theorem dX6_soonestOf_24 : decode cX6_soonestOf 24 = .ok (.iconst (-1), 1) := by decide +kernel
theorem dX6_soonestOf_25 : decode cX6_soonestOf 25 = .ok (.if_icmp .eq 8, 3) := by decide +kernel
theorem dX6_soonestOf_28 : decode cX6_soonestOf 28 = .ok (.iload_n 3, 1) := by decide +kernel
theorem dX6_soonestOf_29 : decode cX6_soonestOf 29 = .ok (.iload_n 2, 1) := by decide +kernel
theorem dX6_soonestOf_30 : decode cX6_soonestOf 30 = .ok (.if_icmp .ge 7, 3) := by decide +kernel
theorem dX6_soonestOf_33 : decode cX6_soonestOf 33 = .ok (.iconst 1, 1) := by decide +kernel
theorem dX6_soonestOf_34 : decode cX6_soonestOf 34 = .ok (.goto 4, 3) := by decide +kernel
theorem dX6_soonestOf_37 : decode cX6_soonestOf 37 = .ok (.iconst 0, 1) := by decide +kernel
theorem dX6_soonestOf_38 : decode cX6_soonestOf 38 = .ok (.istore 4, 2) := by decide +kernel
theorem dX6_soonestOf_40 : decode cX6_soonestOf 40 = .ok (.iload 4, 2) := by decide +kernel
theorem dX6_soonestOf_42 : decode cX6_soonestOf 42 = .ok (.ifCond .eq 11, 3) := by decide +kernel
theorem dX6_soonestOf_45 : decode cX6_soonestOf 45 = .ok (.iload_n 1, 1) := by decide +kernel
theorem dX6_soonestOf_46 : decode cX6_soonestOf 46 = .ok (.sipush 4096, 3) := by decide +kernel
theorem dX6_soonestOf_49 : decode cX6_soonestOf 49 = .ok (.ior, 1) := by decide +kernel
theorem dX6_soonestOf_50 : decode cX6_soonestOf 50 = .ok (.goto 4, 3) := by decide +kernel
theorem dX6_soonestOf_53 : decode cX6_soonestOf 53 = .ok (.iload_n 1, 1) := by decide +kernel
theorem dX6_soonestOf_54 : decode cX6_soonestOf 54 = .ok (.ireturn, 1) := by decide +kernel
def m_X6_soonestOf (N : Nat) (σ : Hp) (t0 : Nat) (p1 : Int32) : Option (Int32) :=
  (rv N σ t0 6).bind fun _ =>
  (gR N σ t0 6 2).bind fun x1 =>
  (aI 0 N σ x1 p1).bind fun x2 =>
  (gR N σ t0 6 2).bind fun x3 =>
  (aI 0 N σ x3 (p1 ||| 4096)).bind fun x4 =>
  ((if x4 = (-1) then
   some 0
  else
   if x2 = (-1) then
   some 1
  else
   if x2 ≤ x4 then
   some 0
  else
   some 1) : Option (Int32)).bind fun z5 =>
  if z5 = 0 then
   some p1
  else
   some (p1 ||| 4096)
set_option maxHeartbeats 4000000 in
set_option maxRecDepth 100000 in
theorem ct_X6_soonestOf {l : Launch} {D : va_G} {cy : Nat → Nat} {N : Nat} {σ : Hp} {t0 : Nat} {p1 : Int32} {r : Int32} (h : m_X6_soonestOf N σ t0 p1 = some r) : Ct l D cy yX6_soonestOf cX6_soonestOf 5 (some .int) 0 [.ref t0, .int p1] N σ (fun v s' => v = (some (.int r)) ∧ s' = σ) := by
  refine Ct.intro [some (.ref t0), some (.int p1), none, none, none] (by decide) rfl (Nat.le_of_ble_eq_true rfl) ?_
  intro κ ω e1 e2 e3 e4 C Z E
  subst e1; subst e2; subst e3; subst e4
  have C : Cx κ 5 0 cX6_soonestOf RX6 "soonestOf" := C
  have hE : ∀ x : Int32, r = x → ((some (Value.int x)) = (some (Value.int r)) ∧ σ = σ) := fun x hx => by subst hx; exact ⟨rfl, rfl⟩
  unfold m_X6_soonestOf at h
  obtain ⟨_, _, h⟩ := ob h
  refine x_aload_n C (i := 0) dX6_soonestOf_0 rfl rfl ?_
  obtain ⟨x1, ex1, h⟩ := ob h
  refine x_getR C fl_X6_22 dX6_soonestOf_1 ex1 ?_
  refine x_iload_n C (i := 1) dX6_soonestOf_4 rfl rfl ?_
  obtain ⟨x2, ex2, h⟩ := ob h
  refine x_iald C dX6_soonestOf_5 ex2 ?_
  refine x_istore_n C (i := 2) (lo' := [some (.ref t0), some (.int p1), some (.int x2), none, none]) dX6_soonestOf_6 rfl (by decide) rfl rfl ?_
  refine x_aload_n C (i := 0) dX6_soonestOf_7 rfl rfl ?_
  obtain ⟨x3, ex3, h⟩ := ob h
  refine x_getR C fl_X6_22 dX6_soonestOf_8 ex3 ?_
  refine x_iload_n C (i := 1) dX6_soonestOf_11 rfl rfl ?_
  refine x_sipush C (v := 4096) dX6_soonestOf_12 (by decide) ?_
  refine x_ior C dX6_soonestOf_15 ?_
  obtain ⟨x4, ex4, h⟩ := ob h
  refine x_iald C dX6_soonestOf_16 ex4 ?_
  refine x_istore_n C (i := 3) (lo' := [some (.ref t0), some (.int p1), some (.int x2), some (.int x4), none]) dX6_soonestOf_17 rfl (by decide) rfl rfl ?_
  refine x_iload_n C (i := 3) dX6_soonestOf_18 rfl rfl ?_
  refine x_iconst C (v := (-1)) dX6_soonestOf_19 (by decide) ?_
  obtain ⟨z5, hz5, h⟩ := ob h
  have hJ7 : X κ 5 ω 38 [none, some (.int p1), none, none, none] [.int z5] σ := by
    refine x_istore C (i := 4) (lo' := [none, some (.int p1), none, none, some (.int z5)]) dX6_soonestOf_38 (by decide) rfl rfl ?_
    refine x_iload C (i := 4) dX6_soonestOf_40 rfl ?_
    refine x_if_eq C (tgt := 53) dX6_soonestOf_42 (by decide) (fun c6 => ?_) (fun c6 => ?_)
    · have h := ifP h c6
      refine x_iload_n C (i := 1) dX6_soonestOf_53 rfl rfl ?_
      exact x_iret C E dX6_soonestOf_54 (hE p1 (Option.some.inj h).symm)
    · have h := ifN h c6
      refine x_iload_n C (i := 1) dX6_soonestOf_45 rfl rfl ?_
      refine x_sipush C (v := 4096) dX6_soonestOf_46 (by decide) ?_
      refine x_ior C dX6_soonestOf_49 ?_
      refine x_goto C (tgt := 54) dX6_soonestOf_50 (by decide) ?_
      exact x_iret C E dX6_soonestOf_54 (hE (p1 ||| 4096) (Option.some.inj h).symm)
  clear h
  have h := hz5
  refine x_icmp_eq C (tgt := 37) dX6_soonestOf_20 (by decide) (fun c9 => ?_) (fun c9 => ?_)
  · have h := ifP h c9
    refine x_iconst C (v := 0) dX6_soonestOf_37 (by decide) ?_
    refine x_wk [false, true, false, false, false] (lo' := [none, some (.int p1), none, none, none]) rfl ?_
    obtain rfl := Option.some.inj h
    exact hJ7
  · have h := ifN h c9
    refine x_iload_n C (i := 2) dX6_soonestOf_23 rfl rfl ?_
    refine x_iconst C (v := (-1)) dX6_soonestOf_24 (by decide) ?_
    refine x_icmp_eq C (tgt := 33) dX6_soonestOf_25 (by decide) (fun c10 => ?_) (fun c10 => ?_)
    · have h := ifP h c10
      refine x_iconst C (v := 1) dX6_soonestOf_33 (by decide) ?_
      refine x_goto C (tgt := 38) dX6_soonestOf_34 (by decide) ?_
      refine x_wk [false, true, false, false, false] (lo' := [none, some (.int p1), none, none, none]) rfl ?_
      obtain rfl := Option.some.inj h
      exact hJ7
    · have h := ifN h c10
      refine x_iload_n C (i := 3) dX6_soonestOf_28 rfl rfl ?_
      refine x_iload_n C (i := 2) dX6_soonestOf_29 rfl rfl ?_
      refine x_icmp_ge C (tgt := 37) dX6_soonestOf_30 (by decide) (fun c11 => ?_) (fun c11 => ?_)
      · have h := ifP h c11
        refine x_iconst C (v := 0) dX6_soonestOf_37 (by decide) ?_
        refine x_wk [false, true, false, false, false] (lo' := [none, some (.int p1), none, none, none]) rfl ?_
        obtain rfl := Option.some.inj h
        exact hJ7
      · have h := ifN h c11
        refine x_iconst C (v := 1) dX6_soonestOf_33 (by decide) ?_
        refine x_goto C (tgt := 38) dX6_soonestOf_34 (by decide) ?_
        refine x_wk [false, true, false, false, false] (lo' := [none, some (.int p1), none, none, none]) rfl ?_
        obtain rfl := Option.some.inj h
        exact hJ7
theorem dX6_fewest_0 : decode cX6_fewest 0 = .ok (.aload_n 0, 1) := by decide +kernel
theorem dX6_fewest_1 : decode cX6_fewest 1 = .ok (.iload_n 1, 1) := by decide +kernel
theorem dX6_fewest_2 : decode cX6_fewest 2 = .ok (.sipush 4095, 3) := by decide +kernel
theorem dX6_fewest_5 : decode cX6_fewest 5 = .ok (.iand, 1) := by decide +kernel
theorem dX6_fewest_6 : decode cX6_fewest 6 = .ok (.invokevirtual 86, 3) := by decide +kernel
theorem dX6_fewest_9 : decode cX6_fewest 9 = .ok (.istore_n 3, 1) := by decide +kernel
theorem dX6_fewest_10 : decode cX6_fewest 10 = .ok (.aload_n 0, 1) := by decide +kernel
theorem dX6_fewest_11 : decode cX6_fewest 11 = .ok (.getfield 22, 3) := by decide +kernel
theorem dX6_fewest_14 : decode cX6_fewest 14 = .ok (.iload_n 3, 1) := by decide +kernel
theorem dX6_fewest_15 : decode cX6_fewest 15 = .ok (.iaload, 1) := by decide +kernel
theorem dX6_fewest_16 : decode cX6_fewest 16 = .ok (.istore 4, 2) := by decide +kernel
theorem dX6_fewest_18 : decode cX6_fewest 18 = .ok (.iload 4, 2) := by decide +kernel
theorem dX6_fewest_20 : decode cX6_fewest 20 = .ok (.iconst (-1), 1) := by decide +kernel
theorem dX6_fewest_21 : decode cX6_fewest 21 = .ok (.if_icmp .eq 9, 3) := by decide +kernel
theorem dX6_fewest_24 : decode cX6_fewest 24 = .ok (.iload_n 2, 1) := by decide +kernel
theorem dX6_fewest_25 : decode cX6_fewest 25 = .ok (.iload 4, 2) := by decide +kernel
theorem dX6_fewest_27 : decode cX6_fewest 27 = .ok (.if_icmp .lt 6, 3) := by decide +kernel
theorem dX6_fewest_30 : decode cX6_fewest 30 = .ok (.ldc 57, 2) := by decide +kernel
theorem dX6_fewest_32 : decode cX6_fewest 32 = .ok (.ireturn, 1) := by decide +kernel
theorem dX6_fewest_33 : decode cX6_fewest 33 = .ok (.iload_n 2, 1) := by decide +kernel
theorem dX6_fewest_34 : decode cX6_fewest 34 = .ok (.ifCond .ge 6, 3) := by decide +kernel
theorem dX6_fewest_37 : decode cX6_fewest 37 = .ok (.iload 4, 2) := by decide +kernel
theorem dX6_fewest_39 : decode cX6_fewest 39 = .ok (.ireturn, 1) := by decide +kernel
theorem dX6_fewest_40 : decode cX6_fewest 40 = .ok (.iload 4, 2) := by decide +kernel
theorem dX6_fewest_42 : decode cX6_fewest 42 = .ok (.iconst 1, 1) := by decide +kernel
theorem dX6_fewest_43 : decode cX6_fewest 43 = .ok (.isub, 1) := by decide +kernel
theorem dX6_fewest_44 : decode cX6_fewest 44 = .ok (.istore 5, 2) := by decide +kernel
theorem dX6_fewest_46 : decode cX6_fewest 46 = .ok (.iload 5, 2) := by decide +kernel
theorem dX6_fewest_48 : decode cX6_fewest 48 = .ok (.iload_n 2, 1) := by decide +kernel
theorem dX6_fewest_49 : decode cX6_fewest 49 = .ok (.if_icmp .le 16, 3) := by decide +kernel
theorem dX6_fewest_52 : decode cX6_fewest 52 = .ok (.aload_n 0, 1) := by decide +kernel
theorem dX6_fewest_53 : decode cX6_fewest 53 = .ok (.getfield 28, 3) := by decide +kernel
theorem dX6_fewest_56 : decode cX6_fewest 56 = .ok (.iload_n 3, 1) := by decide +kernel
theorem dX6_fewest_57 : decode cX6_fewest 57 = .ok (.iaload, 1) := by decide +kernel
theorem dX6_fewest_58 : decode cX6_fewest 58 = .ok (.istore_n 3, 1) := by decide +kernel
theorem dX6_fewest_59 : decode cX6_fewest 59 = .ok (.iinc 5 (-1), 3) := by decide +kernel
theorem dX6_fewest_62 : decode cX6_fewest 62 = .ok (.goto (-16), 3) := by decide +kernel
theorem dX6_fewest_65 : decode cX6_fewest 65 = .ok (.aload_n 0, 1) := by decide +kernel
theorem dX6_fewest_66 : decode cX6_fewest 66 = .ok (.getfield 25, 3) := by decide +kernel
theorem dX6_fewest_69 : decode cX6_fewest 69 = .ok (.iload_n 3, 1) := by decide +kernel
theorem dX6_fewest_70 : decode cX6_fewest 70 = .ok (.iaload, 1) := by decide +kernel
theorem dX6_fewest_71 : decode cX6_fewest 71 = .ok (.istore 5, 2) := by decide +kernel
theorem dX6_fewest_73 : decode cX6_fewest 73 = .ok (.bipush 10, 2) := by decide +kernel
theorem dX6_fewest_75 : decode cX6_fewest 75 = .ok (.iload 5, 2) := by decide +kernel
theorem dX6_fewest_77 : decode cX6_fewest 77 = .ok (.iconst 2, 1) := by decide +kernel
theorem dX6_fewest_78 : decode cX6_fewest 78 = .ok (.ishr, 1) := by decide +kernel
theorem dX6_fewest_79 : decode cX6_fewest 79 = .ok (.imul, 1) := by decide +kernel
theorem dX6_fewest_80 : decode cX6_fewest 80 = .ok (.iload 5, 2) := by decide +kernel
theorem dX6_fewest_82 : decode cX6_fewest 82 = .ok (.iconst 3, 1) := by decide +kernel
theorem dX6_fewest_83 : decode cX6_fewest 83 = .ok (.iand, 1) := by decide +kernel
theorem dX6_fewest_84 : decode cX6_fewest 84 = .ok (.iadd, 1) := by decide +kernel
theorem dX6_fewest_85 : decode cX6_fewest 85 = .ok (.ireturn, 1) := by decide +kernel
def L_X6_fewest_46 (N : Nat) (σ : Hp) (v0 : Nat) (v2 : Int32) : Nat → Int32 → Int32 → Option (Int32)
  | 0, _, _ => none
  | n + 1, v3, v5 =>
  if v5 ≤ v2 then
   some v3
  else
   (gR N σ v0 6 4).bind fun x8 =>
  (aI 0 N σ x8 v3).bind fun x9 =>
  L_X6_fewest_46 N σ v0 v2 n x9 (v5 + (-1))
def m_X6_fewest (N : Nat) (σ : Hp) (t0 : Nat) (p1 : Int32) (p2 : Int32) : Option (Int32) :=
  (rv N σ t0 6).bind fun _ =>
  (m_X6_soonestOf N σ t0 (p1 &&& 4095)).bind fun r1 =>
  (gR N σ t0 6 2).bind fun x2 =>
  (aI 0 N σ x2 r1).bind fun x3 =>
  if x3 = (-1) then
   some (-1000000)
  else
   if p2 < x3 then
   if 0 ≤ p2 then
   (L_X6_fewest_46 N σ t0 p2 fu r1 (x3 - 1)).bind fun z10 =>
  (gR N σ t0 6 3).bind fun x11 =>
  (aI 0 N σ x11 z10).bind fun x12 =>
  some (((10 : Int32) * (x12 >>> (2 &&& 31))) + (x12 &&& 3))
  else
   some x3
  else
   some (-1000000)
set_option maxHeartbeats 4000000 in
set_option maxRecDepth 100000 in
theorem lp_X6_fewest_46 {κ : Kx} {ω : Om} (C : Cx κ 6 1 cX6_fewest RX6 "fewest") (Z : Zx κ ω) (σ : Hp) (v0 : Nat) (v2 : Int32) {r : Int32} (hk : X κ 6 ω 65 [some (.ref v0), none, none, some (.int r), none, none] [] σ) : ∀ (n : Nat) (v3 : Int32) (v5 : Int32), L_X6_fewest_46 ω.1 σ v0 v2 n v3 v5 = some r → X κ 6 ω 46 [some (.ref v0), none, some (.int v2), some (.int v3), none, some (.int v5)] [] σ := by
  intro n
  induction n with
  | zero => intro v3 v5 h; cases h
  | succ n ih =>
    intro v3 v5 h
    rw [L_X6_fewest_46.eq_2] at h
    refine x_iload C (i := 5) dX6_fewest_46 rfl ?_
    refine x_iload_n C (i := 2) dX6_fewest_48 rfl rfl ?_
    refine x_icmp_le C (tgt := 65) dX6_fewest_49 (by decide) (fun c7 => ?_) (fun c7 => ?_)
    · have h := ifP h c7
      refine x_wk [true, false, false, true, false, false] (lo' := [some (.ref v0), none, none, some (.int v3), none, none]) rfl ?_
      obtain rfl := Option.some.inj h
      exact hk
    · have h := ifN h c7
      refine x_aload_n C (i := 0) dX6_fewest_52 rfl rfl ?_
      obtain ⟨x8, ex8, h⟩ := ob h
      refine x_getR C fl_X6_28 dX6_fewest_53 ex8 ?_
      refine x_iload_n C (i := 3) dX6_fewest_56 rfl rfl ?_
      obtain ⟨x9, ex9, h⟩ := ob h
      refine x_iald C dX6_fewest_57 ex9 ?_
      refine x_istore_n C (i := 3) (lo' := [some (.ref v0), none, some (.int v2), some (.int x9), none, some (.int v5)]) dX6_fewest_58 rfl (by decide) rfl rfl ?_
      refine x_iinc C (i := 5) (y := v5 + (-1)) (lo' := [some (.ref v0), none, some (.int v2), some (.int x9), none, some (.int (v5 + (-1)))]) dX6_fewest_59 rfl rfl (by decide) rfl rfl ?_
      refine x_goto C (tgt := 46) dX6_fewest_62 (by decide) ?_
      refine x_wk [true, false, true, true, false, true] (lo' := [some (.ref v0), none, some (.int v2), some (.int x9), none, some (.int (v5 + (-1)))]) rfl ?_
      exact ih x9 (v5 + (-1)) h
set_option maxHeartbeats 4000000 in
set_option maxRecDepth 100000 in
theorem ct_X6_fewest {l : Launch} {D : va_G} {cy : Nat → Nat} {N : Nat} {σ : Hp} {t0 : Nat} {p1 : Int32} {p2 : Int32} {r : Int32} (h : m_X6_fewest N σ t0 p1 p2 = some r) : Ct l D cy yX6_fewest cX6_fewest 6 (some .int) 1 [.ref t0, .int p1, .int p2] N σ (fun v s' => v = (some (.int r)) ∧ s' = σ) := by
  refine Ct.intro [some (.ref t0), some (.int p1), some (.int p2), none, none, none] (by decide) rfl (Nat.le_of_ble_eq_true rfl) ?_
  intro κ ω e1 e2 e3 e4 C Z E
  subst e1; subst e2; subst e3; subst e4
  have C : Cx κ 6 1 cX6_fewest RX6 "fewest" := C
  have hE : ∀ x : Int32, r = x → ((some (Value.int x)) = (some (Value.int r)) ∧ σ = σ) := fun x hx => by subst hx; exact ⟨rfl, rfl⟩
  unfold m_X6_fewest at h
  obtain ⟨_, _, h⟩ := ob h
  refine x_aload_n C (i := 0) dX6_fewest_0 rfl rfl ?_
  refine x_iload_n C (i := 1) dX6_fewest_1 rfl rfl ?_
  refine x_sipush C (v := 4095) dX6_fewest_2 (by decide) ?_
  refine x_iand C dX6_fewest_5 ?_
  obtain ⟨r1, er1, h⟩ := ob h
  refine x_callVr C Z mv_X6_soonestOf lk_X6_86 (rv_h er1) (ct_X6_soonestOf er1) (by decide) rfl rfl (Nat.le_of_ble_eq_true rfl) dX6_fewest_6 ?_
  refine x_istore_n C (i := 3) (lo' := [some (.ref t0), some (.int p1), some (.int p2), some (.int r1), none, none]) dX6_fewest_9 rfl (by decide) rfl rfl ?_
  refine x_aload_n C (i := 0) dX6_fewest_10 rfl rfl ?_
  obtain ⟨x2, ex2, h⟩ := ob h
  refine x_getR C fl_X6_22 dX6_fewest_11 ex2 ?_
  refine x_iload_n C (i := 3) dX6_fewest_14 rfl rfl ?_
  obtain ⟨x3, ex3, h⟩ := ob h
  refine x_iald C dX6_fewest_15 ex3 ?_
  refine x_istore C (i := 4) (lo' := [some (.ref t0), some (.int p1), some (.int p2), some (.int r1), some (.int x3), none]) dX6_fewest_16 (by decide) rfl rfl ?_
  refine x_iload C (i := 4) dX6_fewest_18 rfl ?_
  refine x_iconst C (v := (-1)) dX6_fewest_20 (by decide) ?_
  refine x_icmp_eq C (tgt := 30) dX6_fewest_21 (by decide) (fun c4 => ?_) (fun c4 => ?_)
  · have h := ifP h c4
    refine x_ldc C kc_X6_57 dX6_fewest_30 ?_
    exact x_iret C E dX6_fewest_32 (hE (-1000000) (Option.some.inj h).symm)
  · have h := ifN h c4
    refine x_iload_n C (i := 2) dX6_fewest_24 rfl rfl ?_
    refine x_iload C (i := 4) dX6_fewest_25 rfl ?_
    refine x_icmp_lt C (tgt := 33) dX6_fewest_27 (by decide) (fun c5 => ?_) (fun c5 => ?_)
    · have h := ifP h c5
      refine x_iload_n C (i := 2) dX6_fewest_33 rfl rfl ?_
      refine x_if_ge C (tgt := 40) dX6_fewest_34 (by decide) (fun c6 => ?_) (fun c6 => ?_)
      · have h := ifP h c6
        refine x_iload C (i := 4) dX6_fewest_40 rfl ?_
        refine x_iconst C (v := 1) dX6_fewest_42 (by decide) ?_
        refine x_isub C dX6_fewest_43 ?_
        refine x_istore C (i := 5) (lo' := [some (.ref t0), some (.int p1), some (.int p2), some (.int r1), some (.int x3), some (.int (x3 - 1))]) dX6_fewest_44 (by decide) rfl rfl ?_
        obtain ⟨z10, ez10, h⟩ := ob h
        refine x_wk [true, false, true, true, false, true] (lo' := [some (.ref t0), none, some (.int p2), some (.int r1), none, some (.int (x3 - 1))]) rfl ?_
        refine lp_X6_fewest_46 C Z σ t0 p2 ?_ _ r1 (x3 - 1) ez10
        refine x_aload_n C (i := 0) dX6_fewest_65 rfl rfl ?_
        obtain ⟨x11, ex11, h⟩ := ob h
        refine x_getR C fl_X6_25 dX6_fewest_66 ex11 ?_
        refine x_iload_n C (i := 3) dX6_fewest_69 rfl rfl ?_
        obtain ⟨x12, ex12, h⟩ := ob h
        refine x_iald C dX6_fewest_70 ex12 ?_
        refine x_istore C (i := 5) (lo' := [some (.ref t0), none, none, some (.int z10), none, some (.int x12)]) dX6_fewest_71 (by decide) rfl rfl ?_
        refine x_bipush C (v := 10) dX6_fewest_73 (by decide) ?_
        refine x_iload C (i := 5) dX6_fewest_75 rfl ?_
        refine x_iconst C (v := 2) dX6_fewest_77 (by decide) ?_
        refine x_ishr C dX6_fewest_78 ?_
        refine x_imul C dX6_fewest_79 ?_
        refine x_iload C (i := 5) dX6_fewest_80 rfl ?_
        refine x_iconst C (v := 3) dX6_fewest_82 (by decide) ?_
        refine x_iand C dX6_fewest_83 ?_
        refine x_iadd C dX6_fewest_84 ?_
        exact x_iret C E dX6_fewest_85 (hE (((10 : Int32) * (x12 >>> (2 &&& 31))) + (x12 &&& 3)) (Option.some.inj h).symm)
      · have h := ifN h c6
        refine x_iload C (i := 4) dX6_fewest_37 rfl ?_
        exact x_iret C E dX6_fewest_39 (hE x3 (Option.some.inj h).symm)
    · have h := ifN h c5
      refine x_ldc C kc_X6_57 dX6_fewest_30 ?_
      exact x_iret C E dX6_fewest_32 (hE (-1000000) (Option.some.inj h).symm)
theorem dX7_init_0 : decode cX7_init 0 = .ok (.aload_n 0, 1) := by decide +kernel
theorem dX7_init_1 : decode cX7_init 1 = .ok (.invokespecial 3, 3) := by decide +kernel
theorem dX7_init_4 : decode cX7_init 4 = .ok (.aload_n 0, 1) := by decide +kernel
theorem dX7_init_5 : decode cX7_init 5 = .ok (.bipush 60, 2) := by decide +kernel
theorem dX7_init_7 : decode cX7_init 7 = .ok (.newarray .int, 2) := by decide +kernel
theorem dX7_init_9 : decode cX7_init 9 = .ok (.putfield 9, 3) := by decide +kernel
theorem dX7_init_12 : decode cX7_init 12 = .ok (.return_, 1) := by decide +kernel
noncomputable def m_X7_init (N : Nat) (σ : Hp) (t0 : Nat) : Option (Nat × Hp) :=
  (al N σ [t0, t0] (0 + 1) (0 + 60) 1 60).bind fun u1 =>
  (mkc σ N (.inl (0, 60, .inl (fun _ => 0)))).bind fun σ2 =>
  (pV (N + 1) σ2 t0 7 0 (.ref N)).bind fun σ3 =>
  some (N + 1, σ3)
set_option maxHeartbeats 4000000 in
set_option maxRecDepth 100000 in
theorem ct_X7_init {l : Launch} {D : va_G} {cy : Nat → Nat} {N : Nat} {σ : Hp} {t0 : Nat} {r : Nat × Hp} (h : m_X7_init N σ t0 = some r) : CtA l D cy yX7_init cX7_init 1 none 1 1 60 [.ref t0] N σ (fun v n' s' => v = none ∧ n' = r.1 ∧ s' = r.2) := by
  refine CtA.intro [some (.ref t0)] (by decide) rfl (Nat.le_of_ble_eq_true rfl) ?_
  intro κ ad0 e1 e2 e3 hRc hRs C Z E
  subst e1; subst e2; subst e3
  have C : Cx κ 1 1 cX7_init RX7 "<init>" := C
  have G := Ag.rf N ad0 0 0
  have hE : ∀ x : Nat × Hp, r = x → ((none : Option Value) = (none : Option Value) ∧ x.1 = r.1 ∧ x.2 = r.2) := fun x hx => by subst hx; exact ⟨rfl, rfl, rfl⟩
  unfold m_X7_init at h
  refine x_aload_n C (i := 0) dX7_init_0 rfl rfl ?_
  refine x_objInit C (by decide) oi_X7 oi_inst oi_code (Nat.le_of_ble_eq_true rfl) dX7_init_1 ?_
  refine x_aload_n C (i := 0) dX7_init_4 rfl rfl ?_
  refine x_bipush C (v := 60) dX7_init_5 (by decide) ?_
  obtain ⟨u1, eu1, h⟩ := ob h
  obtain ⟨σ2, eσ2, h⟩ := ob h
  refine g_newI C Z G hRc hRs 60 wa_int (by decide) (by decide) (by decide) eu1 rfl eσ2 dX7_init_7 (fun ad Z G => ?_)
  obtain ⟨σ3, eσ3, h⟩ := ob h
  refine x_putF C pf_X7_9 dX7_init_9 (fun _ => ⟨rfl, rfl⟩) eσ3 ?_
  exact x_vretA C E G ⟨hRc ▸ Z.1.1, hRs ▸ Z.1.2⟩ dX7_init_12 (hE (N + 1, σ3) (Option.some.inj h).symm)
theorem dX7_take_0 : decode cX7_take 0 = .ok (.aload_n 0, 1) := by decide +kernel
theorem dX7_take_1 : decode cX7_take 1 = .ok (.getfield 15, 3) := by decide +kernel
theorem dX7_take_4 : decode cX7_take 4 = .ok (.bipush 60, 2) := by decide +kernel
theorem dX7_take_6 : decode cX7_take 6 = .ok (.if_icmp .lt 5, 3) := by decide +kernel
theorem dX7_take_9 : decode cX7_take 9 = .ok (.iconst 0, 1) := by decide +kernel
theorem dX7_take_10 : decode cX7_take 10 = .ok (.ireturn, 1) := by decide +kernel
theorem dX7_take_11 : decode cX7_take 11 = .ok (.aload_n 0, 1) := by decide +kernel
theorem dX7_take_12 : decode cX7_take 12 = .ok (.getfield 9, 3) := by decide +kernel
theorem dX7_take_15 : decode cX7_take 15 = .ok (.aload_n 0, 1) := by decide +kernel
theorem dX7_take_16 : decode cX7_take 16 = .ok (.getfield 15, 3) := by decide +kernel
theorem dX7_take_19 : decode cX7_take 19 = .ok (.iload_n 1, 1) := by decide +kernel
theorem dX7_take_20 : decode cX7_take 20 = .ok (.iastore, 1) := by decide +kernel
theorem dX7_take_21 : decode cX7_take 21 = .ok (.aload_n 0, 1) := by decide +kernel
theorem dX7_take_22 : decode cX7_take 22 = .ok (.dup, 1) := by decide +kernel
theorem dX7_take_23 : decode cX7_take 23 = .ok (.getfield 15, 3) := by decide +kernel
theorem dX7_take_26 : decode cX7_take 26 = .ok (.iconst 1, 1) := by decide +kernel
theorem dX7_take_27 : decode cX7_take 27 = .ok (.iadd, 1) := by decide +kernel
theorem dX7_take_28 : decode cX7_take 28 = .ok (.putfield 15, 3) := by decide +kernel
theorem dX7_take_31 : decode cX7_take 31 = .ok (.iconst 1, 1) := by decide +kernel
theorem dX7_take_32 : decode cX7_take 32 = .ok (.ireturn, 1) := by decide +kernel
def m_X7_take (N : Nat) (σ : Hp) (t0 : Nat) (p1 : Int32) : Option (Int32 × Hp) :=
  (rv N σ t0 7).bind fun _ =>
  (gI N σ t0 7 1).bind fun x1 =>
  if x1 < 60 then
   (gR N σ t0 7 0).bind fun x3 =>
  (gI N σ t0 7 1).bind fun x4 =>
  (sI 0 N σ x3 x4 p1).bind fun σ5 =>
  (gI N σ5 t0 7 1).bind fun x6 =>
  (pV N σ5 t0 7 1 (.int (x6 + 1))).bind fun σ7 =>
  some (1, σ7)
  else
   some (0, σ)
set_option maxHeartbeats 4000000 in
set_option maxRecDepth 100000 in
theorem ct_X7_take {l : Launch} {D : va_G} {cy : Nat → Nat} {N : Nat} {σ : Hp} {t0 : Nat} {p1 : Int32} {r : Int32 × Hp} (h : m_X7_take N σ t0 p1 = some r) : Ct l D cy yX7_take cX7_take 2 (some .boolean) 0 [.ref t0, .int p1] N σ (fun v s' => v = (some (.int r.1)) ∧ s' = r.2) := by
  refine Ct.intro [some (.ref t0), some (.int p1)] (by decide) rfl (Nat.le_of_ble_eq_true rfl) ?_
  intro κ ω e1 e2 e3 e4 C Z E
  subst e1; subst e2; subst e3; subst e4
  have C : Cx κ 2 0 cX7_take RX7 "take" := C
  have hE : ∀ x : Int32 × Hp, r = x → ((some (Value.int x.1)) = (some (Value.int r.1)) ∧ x.2 = r.2) := fun x hx => by subst hx; exact ⟨rfl, rfl⟩
  unfold m_X7_take at h
  obtain ⟨_, _, h⟩ := ob h
  refine x_aload_n C (i := 0) dX7_take_0 rfl rfl ?_
  obtain ⟨x1, ex1, h⟩ := ob h
  refine x_getI C fl_X7_15 dX7_take_1 ex1 ?_
  refine x_bipush C (v := 60) dX7_take_4 (by decide) ?_
  refine x_icmp_lt C (tgt := 11) dX7_take_6 (by decide) (fun c2 => ?_) (fun c2 => ?_)
  · have h := ifP h c2
    refine x_aload_n C (i := 0) dX7_take_11 rfl rfl ?_
    obtain ⟨x3, ex3, h⟩ := ob h
    refine x_getR C fl_X7_9 dX7_take_12 ex3 ?_
    refine x_aload_n C (i := 0) dX7_take_15 rfl rfl ?_
    obtain ⟨x4, ex4, h⟩ := ob h
    refine x_getI C fl_X7_15 dX7_take_16 ex4 ?_
    refine x_iload_n C (i := 1) dX7_take_19 rfl rfl ?_
    obtain ⟨σ5, eσ5, h⟩ := ob h
    refine x_iast C dX7_take_20 eσ5 ?_
    refine x_aload_n C (i := 0) dX7_take_21 rfl rfl ?_
    refine x_dup C dX7_take_22 rfl ?_
    obtain ⟨x6, ex6, h⟩ := ob h
    refine x_getI C fl_X7_15 dX7_take_23 ex6 ?_
    refine x_iconst C (v := 1) dX7_take_26 (by decide) ?_
    refine x_iadd C dX7_take_27 ?_
    obtain ⟨σ7, eσ7, h⟩ := ob h
    refine x_put C pl_X7_15 dX7_take_28 (fun _ => ⟨rfl, rfl⟩) eσ7 ?_
    refine x_iconst C (v := 1) dX7_take_31 (by decide) ?_
    exact x_zret C E (by decide +kernel) dX7_take_32 (hE (1, σ7) (Option.some.inj h).symm)
  · have h := ifN h c2
    refine x_iconst C (v := 0) dX7_take_9 (by decide) ?_
    exact x_zret C E (by decide +kernel) dX7_take_10 (hE (0, σ) (Option.some.inj h).symm)
theorem dX7_byteAt_0 : decode cX7_byteAt 0 = .ok (.iload_n 1, 1) := by decide +kernel
theorem dX7_byteAt_1 : decode cX7_byteAt 1 = .ok (.ifCond .lt 11, 3) := by decide +kernel
theorem dX7_byteAt_4 : decode cX7_byteAt 4 = .ok (.iload_n 1, 1) := by decide +kernel
theorem dX7_byteAt_5 : decode cX7_byteAt 5 = .ok (.aload_n 0, 1) := by decide +kernel
theorem dX7_byteAt_6 : decode cX7_byteAt 6 = .ok (.getfield 15, 3) := by decide +kernel
theorem dX7_byteAt_9 : decode cX7_byteAt 9 = .ok (.if_icmp .lt 7, 3) := by decide +kernel
theorem dX7_byteAt_12 : decode cX7_byteAt 12 = .ok (.iconst (-1), 1) := by decide +kernel
theorem dX7_byteAt_13 : decode cX7_byteAt 13 = .ok (.goto 9, 3) := by decide +kernel
theorem dX7_byteAt_16 : decode cX7_byteAt 16 = .ok (.aload_n 0, 1) := by decide +kernel
theorem dX7_byteAt_17 : decode cX7_byteAt 17 = .ok (.getfield 9, 3) := by decide +kernel
theorem dX7_byteAt_20 : decode cX7_byteAt 20 = .ok (.iload_n 1, 1) := by decide +kernel
theorem dX7_byteAt_21 : decode cX7_byteAt 21 = .ok (.iaload, 1) := by decide +kernel
theorem dX7_byteAt_22 : decode cX7_byteAt 22 = .ok (.ireturn, 1) := by decide +kernel
def m_X7_byteAt (N : Nat) (σ : Hp) (t0 : Nat) (p1 : Int32) : Option (Int32) :=
  (rv N σ t0 7).bind fun _ =>
  if p1 < 0 then
   some (-1)
  else
   (gI N σ t0 7 1).bind fun x2 =>
  if p1 < x2 then
   (gR N σ t0 7 0).bind fun x4 =>
  (aI 0 N σ x4 p1).bind fun x5 =>
  some x5
  else
   some (-1)
set_option maxHeartbeats 4000000 in
set_option maxRecDepth 100000 in
theorem ct_X7_byteAt {l : Launch} {D : va_G} {cy : Nat → Nat} {N : Nat} {σ : Hp} {t0 : Nat} {p1 : Int32} {r : Int32} (h : m_X7_byteAt N σ t0 p1 = some r) : Ct l D cy yX7_byteAt cX7_byteAt 2 (some .int) 0 [.ref t0, .int p1] N σ (fun v s' => v = (some (.int r)) ∧ s' = σ) := by
  refine Ct.intro [some (.ref t0), some (.int p1)] (by decide) rfl (Nat.le_of_ble_eq_true rfl) ?_
  intro κ ω e1 e2 e3 e4 C Z E
  subst e1; subst e2; subst e3; subst e4
  have C : Cx κ 2 0 cX7_byteAt RX7 "byteAt" := C
  have hE : ∀ x : Int32, r = x → ((some (Value.int x)) = (some (Value.int r)) ∧ σ = σ) := fun x hx => by subst hx; exact ⟨rfl, rfl⟩
  unfold m_X7_byteAt at h
  obtain ⟨_, _, h⟩ := ob h
  refine x_iload_n C (i := 1) dX7_byteAt_0 rfl rfl ?_
  refine x_if_lt C (tgt := 12) dX7_byteAt_1 (by decide) (fun c1 => ?_) (fun c1 => ?_)
  · have h := ifP h c1
    refine x_iconst C (v := (-1)) dX7_byteAt_12 (by decide) ?_
    refine x_goto C (tgt := 22) dX7_byteAt_13 (by decide) ?_
    exact x_iret C E dX7_byteAt_22 (hE (-1) (Option.some.inj h).symm)
  · have h := ifN h c1
    refine x_iload_n C (i := 1) dX7_byteAt_4 rfl rfl ?_
    refine x_aload_n C (i := 0) dX7_byteAt_5 rfl rfl ?_
    obtain ⟨x2, ex2, h⟩ := ob h
    refine x_getI C fl_X7_15 dX7_byteAt_6 ex2 ?_
    refine x_icmp_lt C (tgt := 16) dX7_byteAt_9 (by decide) (fun c3 => ?_) (fun c3 => ?_)
    · have h := ifP h c3
      refine x_aload_n C (i := 0) dX7_byteAt_16 rfl rfl ?_
      obtain ⟨x4, ex4, h⟩ := ob h
      refine x_getR C fl_X7_9 dX7_byteAt_17 ex4 ?_
      refine x_iload_n C (i := 1) dX7_byteAt_20 rfl rfl ?_
      obtain ⟨x5, ex5, h⟩ := ob h
      refine x_iald C dX7_byteAt_21 ex5 ?_
      exact x_iret C E dX7_byteAt_22 (hE x5 (Option.some.inj h).symm)
    · have h := ifN h c3
      refine x_iconst C (v := (-1)) dX7_byteAt_12 (by decide) ?_
      refine x_goto C (tgt := 22) dX7_byteAt_13 (by decide) ?_
      exact x_iret C E dX7_byteAt_22 (hE (-1) (Option.some.inj h).symm)
theorem dX7_faulty_0 : decode cX7_faulty 0 = .ok (.aload_n 0, 1) := by decide +kernel
theorem dX7_faulty_1 : decode cX7_faulty 1 = .ok (.iload_n 1, 1) := by decide +kernel
theorem dX7_faulty_2 : decode cX7_faulty 2 = .ok (.putfield 74, 3) := by decide +kernel
theorem dX7_faulty_5 : decode cX7_faulty 5 = .ok (.iconst 0, 1) := by decide +kernel
theorem dX7_faulty_6 : decode cX7_faulty 6 = .ok (.ireturn, 1) := by decide +kernel
def m_X7_faulty (N : Nat) (σ : Hp) (t0 : Nat) (p1 : Int32) : Option (Int32 × Hp) :=
  (rv N σ t0 7).bind fun _ =>
  (pV N σ t0 7 3 (.int p1)).bind fun σ1 =>
  some (0, σ1)
set_option maxHeartbeats 4000000 in
set_option maxRecDepth 100000 in
theorem ct_X7_faulty {l : Launch} {D : va_G} {cy : Nat → Nat} {N : Nat} {σ : Hp} {t0 : Nat} {p1 : Int32} {r : Int32 × Hp} (h : m_X7_faulty N σ t0 p1 = some r) : Ct l D cy yX7_faulty cX7_faulty 2 (some .boolean) 0 [.ref t0, .int p1] N σ (fun v s' => v = (some (.int r.1)) ∧ s' = r.2) := by
  refine Ct.intro [some (.ref t0), some (.int p1)] (by decide) rfl (Nat.le_of_ble_eq_true rfl) ?_
  intro κ ω e1 e2 e3 e4 C Z E
  subst e1; subst e2; subst e3; subst e4
  have C : Cx κ 2 0 cX7_faulty RX7 "faulty" := C
  have hE : ∀ x : Int32 × Hp, r = x → ((some (Value.int x.1)) = (some (Value.int r.1)) ∧ x.2 = r.2) := fun x hx => by subst hx; exact ⟨rfl, rfl⟩
  unfold m_X7_faulty at h
  obtain ⟨_, _, h⟩ := ob h
  refine x_aload_n C (i := 0) dX7_faulty_0 rfl rfl ?_
  refine x_iload_n C (i := 1) dX7_faulty_1 rfl rfl ?_
  obtain ⟨σ1, eσ1, h⟩ := ob h
  refine x_put C pl_X7_74 dX7_faulty_2 (fun _ => ⟨rfl, rfl⟩) eσ1 ?_
  refine x_iconst C (v := 0) dX7_faulty_5 (by decide) ?_
  exact x_zret C E (by decide +kernel) dX7_faulty_6 (hE (0, σ1) (Option.some.inj h).symm)
theorem dX7_passes_0 : decode cX7_passes 0 = .ok (.aload_n 0, 1) := by decide +kernel
theorem dX7_passes_1 : decode cX7_passes 1 = .ok (.aload_n 0, 1) := by decide +kernel
theorem dX7_passes_2 : decode cX7_passes 2 = .ok (.getfield 19, 3) := by decide +kernel
theorem dX7_passes_5 : decode cX7_passes 5 = .ok (.invokevirtual 51, 3) := by decide +kernel
theorem dX7_passes_8 : decode cX7_passes 8 = .ok (.iload_n 1, 1) := by decide +kernel
theorem dX7_passes_9 : decode cX7_passes 9 = .ok (.if_icmp .eq 9, 3) := by decide +kernel
theorem dX7_passes_12 : decode cX7_passes 12 = .ok (.aload_n 0, 1) := by decide +kernel
theorem dX7_passes_13 : decode cX7_passes 13 = .ok (.iconst 1, 1) := by decide +kernel
theorem dX7_passes_14 : decode cX7_passes 14 = .ok (.invokevirtual 58, 3) := by decide +kernel
theorem dX7_passes_17 : decode cX7_passes 17 = .ok (.ireturn, 1) := by decide +kernel
theorem dX7_passes_18 : decode cX7_passes 18 = .ok (.aload_n 0, 1) := by decide +kernel
theorem dX7_passes_19 : decode cX7_passes 19 = .ok (.dup, 1) := by decide +kernel
theorem dX7_passes_20 : decode cX7_passes 20 = .ok (.getfield 19, 3) := by decide +kernel
theorem dX7_passes_23 : decode cX7_passes 23 = .ok (.iconst 1, 1) := by decide +kernel
theorem dX7_passes_24 : decode cX7_passes 24 = .ok (.iadd, 1) := by decide +kernel
theorem dX7_passes_25 : decode cX7_passes 25 = .ok (.putfield 19, 3) := by decide +kernel
theorem dX7_passes_28 : decode cX7_passes 28 = .ok (.iconst 1, 1) := by decide +kernel
theorem dX7_passes_29 : decode cX7_passes 29 = .ok (.ireturn, 1) := by decide +kernel
def m_X7_passes (N : Nat) (σ : Hp) (t0 : Nat) (p1 : Int32) : Option (Int32 × Hp) :=
  (rv N σ t0 7).bind fun _ =>
  (gI N σ t0 7 2).bind fun x1 =>
  (m_X7_byteAt N σ t0 x1).bind fun r2 =>
  if r2 = p1 then
   (gI N σ t0 7 2).bind fun x4 =>
  (pV N σ t0 7 2 (.int (x4 + 1))).bind fun σ5 =>
  some (1, σ5)
  else
   (m_X7_faulty N σ t0 1).bind fun r6 =>
  (zb r6.1).bind fun u7 =>
  some (r6.1, r6.2)
set_option maxHeartbeats 4000000 in
set_option maxRecDepth 100000 in
theorem ct_X7_passes {l : Launch} {D : va_G} {cy : Nat → Nat} {N : Nat} {σ : Hp} {t0 : Nat} {p1 : Int32} {r : Int32 × Hp} (h : m_X7_passes N σ t0 p1 = some r) : Ct l D cy yX7_passes cX7_passes 2 (some .boolean) 1 [.ref t0, .int p1] N σ (fun v s' => v = (some (.int r.1)) ∧ s' = r.2) := by
  refine Ct.intro [some (.ref t0), some (.int p1)] (by decide) rfl (Nat.le_of_ble_eq_true rfl) ?_
  intro κ ω e1 e2 e3 e4 C Z E
  subst e1; subst e2; subst e3; subst e4
  have C : Cx κ 2 1 cX7_passes RX7 "passes" := C
  have hE : ∀ x : Int32 × Hp, r = x → ((some (Value.int x.1)) = (some (Value.int r.1)) ∧ x.2 = r.2) := fun x hx => by subst hx; exact ⟨rfl, rfl⟩
  unfold m_X7_passes at h
  obtain ⟨_, _, h⟩ := ob h
  refine x_aload_n C (i := 0) dX7_passes_0 rfl rfl ?_
  refine x_aload_n C (i := 0) dX7_passes_1 rfl rfl ?_
  obtain ⟨x1, ex1, h⟩ := ob h
  refine x_getI C fl_X7_19 dX7_passes_2 ex1 ?_
  obtain ⟨r2, er2, h⟩ := ob h
  refine x_callVr C Z mv_X7_byteAt lk_X7_51 (rv_h er2) (ct_X7_byteAt er2) (by decide) rfl rfl (Nat.le_of_ble_eq_true rfl) dX7_passes_5 ?_
  refine x_iload_n C (i := 1) dX7_passes_8 rfl rfl ?_
  refine x_icmp_eq C (tgt := 18) dX7_passes_9 (by decide) (fun c3 => ?_) (fun c3 => ?_)
  · have h := ifP h c3
    refine x_aload_n C (i := 0) dX7_passes_18 rfl rfl ?_
    refine x_dup C dX7_passes_19 rfl ?_
    obtain ⟨x4, ex4, h⟩ := ob h
    refine x_getI C fl_X7_19 dX7_passes_20 ex4 ?_
    refine x_iconst C (v := 1) dX7_passes_23 (by decide) ?_
    refine x_iadd C dX7_passes_24 ?_
    obtain ⟨σ5, eσ5, h⟩ := ob h
    refine x_put C pl_X7_19 dX7_passes_25 (fun _ => ⟨rfl, rfl⟩) eσ5 ?_
    refine x_iconst C (v := 1) dX7_passes_28 (by decide) ?_
    exact x_zret C E (by decide +kernel) dX7_passes_29 (hE (1, σ5) (Option.some.inj h).symm)
  · have h := ifN h c3
    refine x_aload_n C (i := 0) dX7_passes_12 rfl rfl ?_
    refine x_iconst C (v := 1) dX7_passes_13 (by decide) ?_
    obtain ⟨r6, er6, h⟩ := ob h
    refine x_callVr C Z mv_X7_faulty lk_X7_58 (rv_h er6) (ct_X7_faulty er6) (by decide) rfl rfl (Nat.le_of_ble_eq_true rfl) dX7_passes_14 ?_
    obtain ⟨u7, eu7, h⟩ := ob h
    exact x_zret C E (zb_n eu7) dX7_passes_17 (hE (r6.1, r6.2) (Option.some.inj h).symm)
theorem dX7_isFigure_0 : decode cX7_isFigure 0 = .ok (.iload_n 0, 1) := by decide +kernel
theorem dX7_isFigure_1 : decode cX7_isFigure 1 = .ok (.bipush 48, 2) := by decide +kernel
theorem dX7_isFigure_3 : decode cX7_isFigure 3 = .ok (.if_icmp .lt 13, 3) := by decide +kernel
theorem dX7_isFigure_6 : decode cX7_isFigure 6 = .ok (.iload_n 0, 1) := by decide +kernel
theorem dX7_isFigure_7 : decode cX7_isFigure 7 = .ok (.bipush 57, 2) := by decide +kernel
theorem dX7_isFigure_9 : decode cX7_isFigure 9 = .ok (.if_icmp .gt 7, 3) := by decide +kernel
theorem dX7_isFigure_12 : decode cX7_isFigure 12 = .ok (.iconst 1, 1) := by decide +kernel
theorem dX7_isFigure_13 : decode cX7_isFigure 13 = .ok (.goto 4, 3) := by decide +kernel
theorem dX7_isFigure_16 : decode cX7_isFigure 16 = .ok (.iconst 0, 1) := by decide +kernel
theorem dX7_isFigure_17 : decode cX7_isFigure 17 = .ok (.ireturn, 1) := by decide +kernel
def m_X7_isFigure (p0 : Int32) : Option (Int32) :=
  if p0 < 48 then
   some 0
  else
   if 57 < p0 then
   some 0
  else
   some 1
set_option maxHeartbeats 4000000 in
set_option maxRecDepth 100000 in
theorem ct_X7_isFigure {l : Launch} {D : va_G} {cy : Nat → Nat} {N : Nat} {σ : Hp} {p0 : Int32} {r : Int32} (h : m_X7_isFigure p0 = some r) : Ct l D cy yX7_isFigure cX7_isFigure 1 (some .boolean) 0 [.int p0] N σ (fun v s' => v = (some (.int r)) ∧ s' = σ) := by
  refine Ct.intro [some (.int p0)] (by decide) rfl (Nat.le_of_ble_eq_true rfl) ?_
  intro κ ω e1 e2 e3 e4 C Z E
  subst e1; subst e2; subst e3; subst e4
  have C : Cx κ 1 0 cX7_isFigure RX7 "isFigure" := C
  have hE : ∀ x : Int32, r = x → ((some (Value.int x)) = (some (Value.int r)) ∧ σ = σ) := fun x hx => by subst hx; exact ⟨rfl, rfl⟩
  unfold m_X7_isFigure at h
  refine x_iload_n C (i := 0) dX7_isFigure_0 rfl rfl ?_
  refine x_bipush C (v := 48) dX7_isFigure_1 (by decide) ?_
  refine x_icmp_lt C (tgt := 16) dX7_isFigure_3 (by decide) (fun c1 => ?_) (fun c1 => ?_)
  · have h := ifP h c1
    refine x_iconst C (v := 0) dX7_isFigure_16 (by decide) ?_
    exact x_zret C E (by decide +kernel) dX7_isFigure_17 (hE 0 (Option.some.inj h).symm)
  · have h := ifN h c1
    refine x_iload_n C (i := 0) dX7_isFigure_6 rfl rfl ?_
    refine x_bipush C (v := 57) dX7_isFigure_7 (by decide) ?_
    refine x_icmp_gt C (tgt := 16) dX7_isFigure_9 (by decide) (fun c2 => ?_) (fun c2 => ?_)
    · have h := ifP h c2
      refine x_iconst C (v := 0) dX7_isFigure_16 (by decide) ?_
      exact x_zret C E (by decide +kernel) dX7_isFigure_17 (hE 0 (Option.some.inj h).symm)
    · have h := ifN h c2
      refine x_iconst C (v := 1) dX7_isFigure_12 (by decide) ?_
      refine x_goto C (tgt := 17) dX7_isFigure_13 (by decide) ?_
      exact x_zret C E (by decide +kernel) dX7_isFigure_17 (hE 1 (Option.some.inj h).symm)
theorem dX7_readNumber_0 : decode cX7_readNumber 0 = .ok (.iconst 0, 1) := by decide +kernel
theorem dX7_readNumber_1 : decode cX7_readNumber 1 = .ok (.istore_n 3, 1) := by decide +kernel
theorem dX7_readNumber_2 : decode cX7_readNumber 2 = .ok (.aload_n 0, 1) := by decide +kernel
theorem dX7_readNumber_3 : decode cX7_readNumber 3 = .ok (.iconst 0, 1) := by decide +kernel
theorem dX7_readNumber_4 : decode cX7_readNumber 4 = .ok (.putfield 42, 3) := by decide +kernel
theorem dX7_readNumber_7 : decode cX7_readNumber 7 = .ok (.iload_n 3, 1) := by decide +kernel
theorem dX7_readNumber_8 : decode cX7_readNumber 8 = .ok (.iconst 3, 1) := by decide +kernel
theorem dX7_readNumber_9 : decode cX7_readNumber 9 = .ok (.if_icmp .ge 50, 3) := by decide +kernel
theorem dX7_readNumber_12 : decode cX7_readNumber 12 = .ok (.aload_n 0, 1) := by decide +kernel
theorem dX7_readNumber_13 : decode cX7_readNumber 13 = .ok (.aload_n 0, 1) := by decide +kernel
theorem dX7_readNumber_14 : decode cX7_readNumber 14 = .ok (.getfield 19, 3) := by decide +kernel
theorem dX7_readNumber_17 : decode cX7_readNumber 17 = .ok (.iload_n 3, 1) := by decide +kernel
theorem dX7_readNumber_18 : decode cX7_readNumber 18 = .ok (.iadd, 1) := by decide +kernel
theorem dX7_readNumber_19 : decode cX7_readNumber 19 = .ok (.invokevirtual 51, 3) := by decide +kernel
theorem dX7_readNumber_22 : decode cX7_readNumber 22 = .ok (.invokestatic 71, 3) := by decide +kernel
theorem dX7_readNumber_25 : decode cX7_readNumber 25 = .ok (.ifCond .eq 34, 3) := by decide +kernel
theorem dX7_readNumber_28 : decode cX7_readNumber 28 = .ok (.aload_n 0, 1) := by decide +kernel
theorem dX7_readNumber_29 : decode cX7_readNumber 29 = .ok (.bipush 10, 2) := by decide +kernel
theorem dX7_readNumber_31 : decode cX7_readNumber 31 = .ok (.aload_n 0, 1) := by decide +kernel
theorem dX7_readNumber_32 : decode cX7_readNumber 32 = .ok (.getfield 42, 3) := by decide +kernel
theorem dX7_readNumber_35 : decode cX7_readNumber 35 = .ok (.imul, 1) := by decide +kernel
theorem dX7_readNumber_36 : decode cX7_readNumber 36 = .ok (.aload_n 0, 1) := by decide +kernel
theorem dX7_readNumber_37 : decode cX7_readNumber 37 = .ok (.aload_n 0, 1) := by decide +kernel
theorem dX7_readNumber_38 : decode cX7_readNumber 38 = .ok (.getfield 19, 3) := by decide +kernel
theorem dX7_readNumber_41 : decode cX7_readNumber 41 = .ok (.iload_n 3, 1) := by decide +kernel
theorem dX7_readNumber_42 : decode cX7_readNumber 42 = .ok (.iadd, 1) := by decide +kernel
theorem dX7_readNumber_43 : decode cX7_readNumber 43 = .ok (.invokevirtual 51, 3) := by decide +kernel
theorem dX7_readNumber_46 : decode cX7_readNumber 46 = .ok (.iadd, 1) := by decide +kernel
theorem dX7_readNumber_47 : decode cX7_readNumber 47 = .ok (.bipush 48, 2) := by decide +kernel
theorem dX7_readNumber_49 : decode cX7_readNumber 49 = .ok (.isub, 1) := by decide +kernel
theorem dX7_readNumber_50 : decode cX7_readNumber 50 = .ok (.putfield 42, 3) := by decide +kernel
theorem dX7_readNumber_53 : decode cX7_readNumber 53 = .ok (.iinc 3 1, 3) := by decide +kernel
theorem dX7_readNumber_56 : decode cX7_readNumber 56 = .ok (.goto (-49), 3) := by decide +kernel
theorem dX7_readNumber_59 : decode cX7_readNumber 59 = .ok (.iload_n 3, 1) := by decide +kernel
theorem dX7_readNumber_60 : decode cX7_readNumber 60 = .ok (.ifCond .eq 8, 3) := by decide +kernel
theorem dX7_readNumber_63 : decode cX7_readNumber 63 = .ok (.iload_n 3, 1) := by decide +kernel
theorem dX7_readNumber_64 : decode cX7_readNumber 64 = .ok (.iconst 3, 1) := by decide +kernel
theorem dX7_readNumber_65 : decode cX7_readNumber 65 = .ok (.if_icmp .ne 9, 3) := by decide +kernel
theorem dX7_readNumber_68 : decode cX7_readNumber 68 = .ok (.aload_n 0, 1) := by decide +kernel
theorem dX7_readNumber_69 : decode cX7_readNumber 69 = .ok (.iconst 1, 1) := by decide +kernel
theorem dX7_readNumber_70 : decode cX7_readNumber 70 = .ok (.invokevirtual 58, 3) := by decide +kernel
theorem dX7_readNumber_73 : decode cX7_readNumber 73 = .ok (.ireturn, 1) := by decide +kernel
theorem dX7_readNumber_74 : decode cX7_readNumber 74 = .ok (.aload_n 0, 1) := by decide +kernel
theorem dX7_readNumber_75 : decode cX7_readNumber 75 = .ok (.getfield 42, 3) := by decide +kernel
theorem dX7_readNumber_78 : decode cX7_readNumber 78 = .ok (.iload_n 1, 1) := by decide +kernel
theorem dX7_readNumber_79 : decode cX7_readNumber 79 = .ok (.if_icmp .lt 11, 3) := by decide +kernel
theorem dX7_readNumber_82 : decode cX7_readNumber 82 = .ok (.aload_n 0, 1) := by decide +kernel
theorem dX7_readNumber_83 : decode cX7_readNumber 83 = .ok (.getfield 42, 3) := by decide +kernel
theorem dX7_readNumber_86 : decode cX7_readNumber 86 = .ok (.iload_n 2, 1) := by decide +kernel
theorem dX7_readNumber_87 : decode cX7_readNumber 87 = .ok (.if_icmp .le 9, 3) := by decide +kernel
theorem dX7_readNumber_90 : decode cX7_readNumber 90 = .ok (.aload_n 0, 1) := by decide +kernel
theorem dX7_readNumber_91 : decode cX7_readNumber 91 = .ok (.iconst 2, 1) := by decide +kernel
theorem dX7_readNumber_92 : decode cX7_readNumber 92 = .ok (.invokevirtual 58, 3) := by decide +kernel
theorem dX7_readNumber_95 : decode cX7_readNumber 95 = .ok (.ireturn, 1) := by decide +kernel
theorem dX7_readNumber_96 : decode cX7_readNumber 96 = .ok (.aload_n 0, 1) := by decide +kernel
theorem dX7_readNumber_97 : decode cX7_readNumber 97 = .ok (.dup, 1) := by decide +kernel
theorem dX7_readNumber_98 : decode cX7_readNumber 98 = .ok (.getfield 19, 3) := by decide +kernel
theorem dX7_readNumber_101 : decode cX7_readNumber 101 = .ok (.iload_n 3, 1) := by decide +kernel
theorem dX7_readNumber_102 : decode cX7_readNumber 102 = .ok (.iadd, 1) := by decide +kernel
theorem dX7_readNumber_103 : decode cX7_readNumber 103 = .ok (.putfield 19, 3) := by decide +kernel
theorem dX7_readNumber_106 : decode cX7_readNumber 106 = .ok (.iconst 1, 1) := by decide +kernel
theorem dX7_readNumber_107 : decode cX7_readNumber 107 = .ok (.ireturn, 1) := by decide +kernel
def L_X7_readNumber_7 (N : Nat) (v0 : Nat) (v1 : Int32) (v2 : Int32) : Nat → Hp → Int32 → Option (Int32 × Hp)
  | 0, _, _ => none
  | n + 1, σ, v3 =>
  if 3 ≤ v3 then
   some (v3, σ)
  else
   (gI N σ v0 7 2).bind fun x3 =>
  (m_X7_byteAt N σ v0 (x3 + v3)).bind fun r4 =>
  (m_X7_isFigure r4).bind fun r5 =>
  if r5 = 0 then
   some (v3, σ)
  else
   (gI N σ v0 7 4).bind fun x7 =>
  (gI N σ v0 7 2).bind fun x8 =>
  (m_X7_byteAt N σ v0 (x8 + v3)).bind fun r9 =>
  (pV N σ v0 7 4 (.int ((((10 : Int32) * x7) + r9) - 48))).bind fun σ10 =>
  L_X7_readNumber_7 N v0 v1 v2 n σ10 (v3 + 1)
def m_X7_readNumber (N : Nat) (σ : Hp) (t0 : Nat) (p1 : Int32) (p2 : Int32) : Option (Int32 × Hp) :=
  (rv N σ t0 7).bind fun _ =>
  (pV N σ t0 7 4 (.int 0)).bind fun σ1 =>
  (L_X7_readNumber_7 N t0 p1 p2 fu σ1 0).bind fun z11 =>
  if z11.1 = 0 then
   (m_X7_faulty N z11.2 t0 1).bind fun r13 =>
  (zb r13.1).bind fun u14 =>
  some (r13.1, r13.2)
  else
   if z11.1 = 3 then
   (m_X7_faulty N z11.2 t0 1).bind fun r26 =>
  (zb r26.1).bind fun u27 =>
  some (r26.1, r26.2)
  else
   (gI N z11.2 t0 7 4).bind fun x16 =>
  if x16 < p1 then
   (m_X7_faulty N z11.2 t0 2).bind fun r18 =>
  (zb r18.1).bind fun u19 =>
  some (r18.1, r18.2)
  else
   (gI N z11.2 t0 7 4).bind fun x20 =>
  if x20 ≤ p2 then
   (gI N z11.2 t0 7 2).bind fun x22 =>
  (pV N z11.2 t0 7 2 (.int (x22 + z11.1))).bind fun σ23 =>
  some (1, σ23)
  else
   (m_X7_faulty N z11.2 t0 2).bind fun r24 =>
  (zb r24.1).bind fun u25 =>
  some (r24.1, r24.2)
set_option maxHeartbeats 4000000 in
set_option maxRecDepth 100000 in
theorem lp_X7_readNumber_7 {κ : Kx} {ω : Om} (C : Cx κ 4 1 cX7_readNumber RX7 "readNumber") (Z : Zx κ ω) (v0 : Nat) (v1 : Int32) (v2 : Int32) {r : Int32 × Hp} (hk : X κ 4 ω 59 [some (.ref v0), some (.int v1), some (.int v2), some (.int r.1)] [] r.2) : ∀ (n : Nat) (σ : Hp) (v3 : Int32), L_X7_readNumber_7 ω.1 v0 v1 v2 n σ v3 = some r → X κ 4 ω 7 [some (.ref v0), some (.int v1), some (.int v2), some (.int v3)] [] σ := by
  intro n
  induction n with
  | zero => intro σ v3 h; cases h
  | succ n ih =>
    intro σ v3 h
    rw [L_X7_readNumber_7.eq_2] at h
    refine x_iload_n C (i := 3) dX7_readNumber_7 rfl rfl ?_
    refine x_iconst C (v := 3) dX7_readNumber_8 (by decide) ?_
    refine x_icmp_ge C (tgt := 59) dX7_readNumber_9 (by decide) (fun c2 => ?_) (fun c2 => ?_)
    · have h := ifP h c2
      refine x_wk [true, true, true, true] (lo' := [some (.ref v0), some (.int v1), some (.int v2), some (.int v3)]) rfl ?_
      obtain rfl := Option.some.inj h
      exact hk
    · have h := ifN h c2
      refine x_aload_n C (i := 0) dX7_readNumber_12 rfl rfl ?_
      refine x_aload_n C (i := 0) dX7_readNumber_13 rfl rfl ?_
      obtain ⟨x3, ex3, h⟩ := ob h
      refine x_getI C fl_X7_19 dX7_readNumber_14 ex3 ?_
      refine x_iload_n C (i := 3) dX7_readNumber_17 rfl rfl ?_
      refine x_iadd C dX7_readNumber_18 ?_
      obtain ⟨r4, er4, h⟩ := ob h
      refine x_callVr C Z mv_X7_byteAt lk_X7_51 (rv_h er4) (ct_X7_byteAt er4) (by decide) rfl rfl (Nat.le_of_ble_eq_true rfl) dX7_readNumber_19 ?_
      obtain ⟨r5, er5, h⟩ := ob h
      refine x_callSr C Z ms_X7_isFigure lk_X7_71 (ct_X7_isFigure (N := ω.1) (σ := σ) er5) (by decide) rfl rfl (Nat.le_of_ble_eq_true rfl) dX7_readNumber_22 ?_
      refine x_if_eq C (tgt := 59) dX7_readNumber_25 (by decide) (fun c6 => ?_) (fun c6 => ?_)
      · have h := ifP h c6
        refine x_wk [true, true, true, true] (lo' := [some (.ref v0), some (.int v1), some (.int v2), some (.int v3)]) rfl ?_
        obtain rfl := Option.some.inj h
        exact hk
      · have h := ifN h c6
        refine x_aload_n C (i := 0) dX7_readNumber_28 rfl rfl ?_
        refine x_bipush C (v := 10) dX7_readNumber_29 (by decide) ?_
        refine x_aload_n C (i := 0) dX7_readNumber_31 rfl rfl ?_
        obtain ⟨x7, ex7, h⟩ := ob h
        refine x_getI C fl_X7_42 dX7_readNumber_32 ex7 ?_
        refine x_imul C dX7_readNumber_35 ?_
        refine x_aload_n C (i := 0) dX7_readNumber_36 rfl rfl ?_
        refine x_aload_n C (i := 0) dX7_readNumber_37 rfl rfl ?_
        obtain ⟨x8, ex8, h⟩ := ob h
        refine x_getI C fl_X7_19 dX7_readNumber_38 ex8 ?_
        refine x_iload_n C (i := 3) dX7_readNumber_41 rfl rfl ?_
        refine x_iadd C dX7_readNumber_42 ?_
        obtain ⟨r9, er9, h⟩ := ob h
        refine x_callVr C Z mv_X7_byteAt lk_X7_51 (rv_h er9) (ct_X7_byteAt er9) (by decide) rfl rfl (Nat.le_of_ble_eq_true rfl) dX7_readNumber_43 ?_
        refine x_iadd C dX7_readNumber_46 ?_
        refine x_bipush C (v := 48) dX7_readNumber_47 (by decide) ?_
        refine x_isub C dX7_readNumber_49 ?_
        obtain ⟨σ10, eσ10, h⟩ := ob h
        refine x_put C pl_X7_42 dX7_readNumber_50 (fun _ => ⟨rfl, rfl⟩) eσ10 ?_
        refine x_iinc C (i := 3) (y := v3 + 1) (lo' := [some (.ref v0), some (.int v1), some (.int v2), some (.int (v3 + 1))]) dX7_readNumber_53 rfl rfl (by decide) rfl rfl ?_
        refine x_goto C (tgt := 7) dX7_readNumber_56 (by decide) ?_
        refine x_wk [true, true, true, true] (lo' := [some (.ref v0), some (.int v1), some (.int v2), some (.int (v3 + 1))]) rfl ?_
        exact ih σ10 (v3 + 1) h
set_option maxHeartbeats 4000000 in
set_option maxRecDepth 100000 in
theorem ct_X7_readNumber {l : Launch} {D : va_G} {cy : Nat → Nat} {N : Nat} {σ : Hp} {t0 : Nat} {p1 : Int32} {p2 : Int32} {r : Int32 × Hp} (h : m_X7_readNumber N σ t0 p1 p2 = some r) : Ct l D cy yX7_readNumber cX7_readNumber 4 (some .boolean) 1 [.ref t0, .int p1, .int p2] N σ (fun v s' => v = (some (.int r.1)) ∧ s' = r.2) := by
  refine Ct.intro [some (.ref t0), some (.int p1), some (.int p2), none] (by decide) rfl (Nat.le_of_ble_eq_true rfl) ?_
  intro κ ω e1 e2 e3 e4 C Z E
  subst e1; subst e2; subst e3; subst e4
  have C : Cx κ 4 1 cX7_readNumber RX7 "readNumber" := C
  have hE : ∀ x : Int32 × Hp, r = x → ((some (Value.int x.1)) = (some (Value.int r.1)) ∧ x.2 = r.2) := fun x hx => by subst hx; exact ⟨rfl, rfl⟩
  unfold m_X7_readNumber at h
  obtain ⟨_, _, h⟩ := ob h
  refine x_iconst C (v := 0) dX7_readNumber_0 (by decide) ?_
  refine x_istore_n C (i := 3) (lo' := [some (.ref t0), some (.int p1), some (.int p2), some (.int 0)]) dX7_readNumber_1 rfl (by decide) rfl rfl ?_
  refine x_aload_n C (i := 0) dX7_readNumber_2 rfl rfl ?_
  refine x_iconst C (v := 0) dX7_readNumber_3 (by decide) ?_
  obtain ⟨σ1, eσ1, h⟩ := ob h
  refine x_put C pl_X7_42 dX7_readNumber_4 (fun _ => ⟨rfl, rfl⟩) eσ1 ?_
  obtain ⟨z11, ez11, h⟩ := ob h
  refine x_wk [true, true, true, true] (lo' := [some (.ref t0), some (.int p1), some (.int p2), some (.int 0)]) rfl ?_
  refine lp_X7_readNumber_7 C Z t0 p1 p2 ?_ _ σ1 0 ez11
  refine x_iload_n C (i := 3) dX7_readNumber_59 rfl rfl ?_
  refine x_if_eq C (tgt := 68) dX7_readNumber_60 (by decide) (fun c12 => ?_) (fun c12 => ?_)
  · have h := ifP h c12
    refine x_aload_n C (i := 0) dX7_readNumber_68 rfl rfl ?_
    refine x_iconst C (v := 1) dX7_readNumber_69 (by decide) ?_
    obtain ⟨r13, er13, h⟩ := ob h
    refine x_callVr C Z mv_X7_faulty lk_X7_58 (rv_h er13) (ct_X7_faulty er13) (by decide) rfl rfl (Nat.le_of_ble_eq_true rfl) dX7_readNumber_70 ?_
    obtain ⟨u14, eu14, h⟩ := ob h
    exact x_zret C E (zb_n eu14) dX7_readNumber_73 (hE (r13.1, r13.2) (Option.some.inj h).symm)
  · have h := ifN h c12
    refine x_iload_n C (i := 3) dX7_readNumber_63 rfl rfl ?_
    refine x_iconst C (v := 3) dX7_readNumber_64 (by decide) ?_
    refine x_icmp_ne C (tgt := 74) dX7_readNumber_65 (by decide) (fun c15 => ?_) (fun c15 => ?_)
    · have h := ifN h c15
      refine x_aload_n C (i := 0) dX7_readNumber_74 rfl rfl ?_
      obtain ⟨x16, ex16, h⟩ := ob h
      refine x_getI C fl_X7_42 dX7_readNumber_75 ex16 ?_
      refine x_iload_n C (i := 1) dX7_readNumber_78 rfl rfl ?_
      refine x_icmp_lt C (tgt := 90) dX7_readNumber_79 (by decide) (fun c17 => ?_) (fun c17 => ?_)
      · have h := ifP h c17
        refine x_aload_n C (i := 0) dX7_readNumber_90 rfl rfl ?_
        refine x_iconst C (v := 2) dX7_readNumber_91 (by decide) ?_
        obtain ⟨r18, er18, h⟩ := ob h
        refine x_callVr C Z mv_X7_faulty lk_X7_58 (rv_h er18) (ct_X7_faulty er18) (by decide) rfl rfl (Nat.le_of_ble_eq_true rfl) dX7_readNumber_92 ?_
        obtain ⟨u19, eu19, h⟩ := ob h
        exact x_zret C E (zb_n eu19) dX7_readNumber_95 (hE (r18.1, r18.2) (Option.some.inj h).symm)
      · have h := ifN h c17
        refine x_aload_n C (i := 0) dX7_readNumber_82 rfl rfl ?_
        obtain ⟨x20, ex20, h⟩ := ob h
        refine x_getI C fl_X7_42 dX7_readNumber_83 ex20 ?_
        refine x_iload_n C (i := 2) dX7_readNumber_86 rfl rfl ?_
        refine x_icmp_le C (tgt := 96) dX7_readNumber_87 (by decide) (fun c21 => ?_) (fun c21 => ?_)
        · have h := ifP h c21
          refine x_aload_n C (i := 0) dX7_readNumber_96 rfl rfl ?_
          refine x_dup C dX7_readNumber_97 rfl ?_
          obtain ⟨x22, ex22, h⟩ := ob h
          refine x_getI C fl_X7_19 dX7_readNumber_98 ex22 ?_
          refine x_iload_n C (i := 3) dX7_readNumber_101 rfl rfl ?_
          refine x_iadd C dX7_readNumber_102 ?_
          obtain ⟨σ23, eσ23, h⟩ := ob h
          refine x_put C pl_X7_19 dX7_readNumber_103 (fun _ => ⟨rfl, rfl⟩) eσ23 ?_
          refine x_iconst C (v := 1) dX7_readNumber_106 (by decide) ?_
          exact x_zret C E (by decide +kernel) dX7_readNumber_107 (hE (1, σ23) (Option.some.inj h).symm)
        · have h := ifN h c21
          refine x_aload_n C (i := 0) dX7_readNumber_90 rfl rfl ?_
          refine x_iconst C (v := 2) dX7_readNumber_91 (by decide) ?_
          obtain ⟨r24, er24, h⟩ := ob h
          refine x_callVr C Z mv_X7_faulty lk_X7_58 (rv_h er24) (ct_X7_faulty er24) (by decide) rfl rfl (Nat.le_of_ble_eq_true rfl) dX7_readNumber_92 ?_
          obtain ⟨u25, eu25, h⟩ := ob h
          exact x_zret C E (zb_n eu25) dX7_readNumber_95 (hE (r24.1, r24.2) (Option.some.inj h).symm)
    · have h := ifP h c15
      refine x_aload_n C (i := 0) dX7_readNumber_68 rfl rfl ?_
      refine x_iconst C (v := 1) dX7_readNumber_69 (by decide) ?_
      obtain ⟨r26, er26, h⟩ := ob h
      refine x_callVr C Z mv_X7_faulty lk_X7_58 (rv_h er26) (ct_X7_faulty er26) (by decide) rfl rfl (Nat.le_of_ble_eq_true rfl) dX7_readNumber_70 ?_
      obtain ⟨u27, eu27, h⟩ := ob h
      exact x_zret C E (zb_n eu27) dX7_readNumber_73 (hE (r26.1, r26.2) (Option.some.inj h).symm)
theorem dX7_readLaw_0 : decode cX7_readLaw 0 = .ok (.aload_n 0, 1) := by decide +kernel
theorem dX7_readLaw_1 : decode cX7_readLaw 1 = .ok (.bipush 116, 2) := by decide +kernel
theorem dX7_readLaw_3 : decode cX7_readLaw 3 = .ok (.invokevirtual 34, 3) := by decide +kernel
theorem dX7_readLaw_6 : decode cX7_readLaw 6 = .ok (.ifCond .eq 12, 3) := by decide +kernel
theorem dX7_readLaw_9 : decode cX7_readLaw 9 = .ok (.aload_n 0, 1) := by decide +kernel
theorem dX7_readLaw_10 : decode cX7_readLaw 10 = .ok (.iconst 3, 1) := by decide +kernel
theorem dX7_readLaw_11 : decode cX7_readLaw 11 = .ok (.iconst 4, 1) := by decide +kernel
theorem dX7_readLaw_12 : decode cX7_readLaw 12 = .ok (.invokevirtual 38, 3) := by decide +kernel
theorem dX7_readLaw_15 : decode cX7_readLaw 15 = .ok (.ifCond .ne 5, 3) := by decide +kernel
theorem dX7_readLaw_18 : decode cX7_readLaw 18 = .ok (.iconst 0, 1) := by decide +kernel
theorem dX7_readLaw_19 : decode cX7_readLaw 19 = .ok (.ireturn, 1) := by decide +kernel
theorem dX7_readLaw_20 : decode cX7_readLaw 20 = .ok (.aload_n 1, 1) := by decide +kernel
theorem dX7_readLaw_21 : decode cX7_readLaw 21 = .ok (.aload_n 0, 1) := by decide +kernel
theorem dX7_readLaw_22 : decode cX7_readLaw 22 = .ok (.getfield 42, 3) := by decide +kernel
theorem dX7_readLaw_25 : decode cX7_readLaw 25 = .ok (.putfield 45, 3) := by decide +kernel
theorem dX7_readLaw_28 : decode cX7_readLaw 28 = .ok (.aload_n 0, 1) := by decide +kernel
theorem dX7_readLaw_29 : decode cX7_readLaw 29 = .ok (.bipush 44, 2) := by decide +kernel
theorem dX7_readLaw_31 : decode cX7_readLaw 31 = .ok (.invokevirtual 34, 3) := by decide +kernel
theorem dX7_readLaw_34 : decode cX7_readLaw 34 = .ok (.ifCond .eq 13, 3) := by decide +kernel
theorem dX7_readLaw_37 : decode cX7_readLaw 37 = .ok (.aload_n 0, 1) := by decide +kernel
theorem dX7_readLaw_38 : decode cX7_readLaw 38 = .ok (.iconst 1, 1) := by decide +kernel
theorem dX7_readLaw_39 : decode cX7_readLaw 39 = .ok (.bipush 6, 2) := by decide +kernel
theorem dX7_readLaw_41 : decode cX7_readLaw 41 = .ok (.invokevirtual 38, 3) := by decide +kernel
theorem dX7_readLaw_44 : decode cX7_readLaw 44 = .ok (.ifCond .ne 5, 3) := by decide +kernel
theorem dX7_readLaw_47 : decode cX7_readLaw 47 = .ok (.iconst 0, 1) := by decide +kernel
theorem dX7_readLaw_48 : decode cX7_readLaw 48 = .ok (.ireturn, 1) := by decide +kernel
theorem dX7_readLaw_49 : decode cX7_readLaw 49 = .ok (.aload_n 1, 1) := by decide +kernel
theorem dX7_readLaw_50 : decode cX7_readLaw 50 = .ok (.aload_n 0, 1) := by decide +kernel
theorem dX7_readLaw_51 : decode cX7_readLaw 51 = .ok (.getfield 42, 3) := by decide +kernel
theorem dX7_readLaw_54 : decode cX7_readLaw 54 = .ok (.putfield 48, 3) := by decide +kernel
theorem dX7_readLaw_57 : decode cX7_readLaw 57 = .ok (.aload_n 0, 1) := by decide +kernel
theorem dX7_readLaw_58 : decode cX7_readLaw 58 = .ok (.bipush 59, 2) := by decide +kernel
theorem dX7_readLaw_60 : decode cX7_readLaw 60 = .ok (.invokevirtual 34, 3) := by decide +kernel
theorem dX7_readLaw_63 : decode cX7_readLaw 63 = .ok (.ireturn, 1) := by decide +kernel
def m_X7_readLaw (N : Nat) (σ : Hp) (t0 : Nat) (p1 : Nat) : Option (Int32 × Hp) :=
  (rv N σ t0 7).bind fun _ =>
  (m_X7_passes N σ t0 116).bind fun r1 =>
  if r1.1 = 0 then
   some (0, r1.2)
  else
   (m_X7_readNumber N r1.2 t0 3 4).bind fun r3 =>
  if r3.1 = 0 then
   some (0, r3.2)
  else
   (gI N r3.2 t0 7 4).bind fun x5 =>
  (pV N r3.2 p1 2 0 (.int x5)).bind fun σ6 =>
  (m_X7_passes N σ6 t0 44).bind fun r7 =>
  if r7.1 = 0 then
   some (0, r7.2)
  else
   (m_X7_readNumber N r7.2 t0 1 6).bind fun r9 =>
  if r9.1 = 0 then
   some (0, r9.2)
  else
   (gI N r9.2 t0 7 4).bind fun x11 =>
  (pV N r9.2 p1 2 2 (.int x11)).bind fun σ12 =>
  (m_X7_passes N σ12 t0 59).bind fun r13 =>
  (zb r13.1).bind fun u14 =>
  some (r13.1, r13.2)
set_option maxHeartbeats 4000000 in
set_option maxRecDepth 100000 in
theorem ct_X7_readLaw {l : Launch} {D : va_G} {cy : Nat → Nat} {N : Nat} {σ : Hp} {t0 : Nat} {p1 : Nat} {r : Int32 × Hp} (h : m_X7_readLaw N σ t0 p1 = some r) : Ct l D cy yX7_readLaw cX7_readLaw 2 (some .boolean) 2 [.ref t0, .ref p1] N σ (fun v s' => v = (some (.int r.1)) ∧ s' = r.2) := by
  refine Ct.intro [some (.ref t0), some (.ref p1)] (by decide) rfl (Nat.le_of_ble_eq_true rfl) ?_
  intro κ ω e1 e2 e3 e4 C Z E
  subst e1; subst e2; subst e3; subst e4
  have C : Cx κ 2 2 cX7_readLaw RX7 "readLaw" := C
  have hE : ∀ x : Int32 × Hp, r = x → ((some (Value.int x.1)) = (some (Value.int r.1)) ∧ x.2 = r.2) := fun x hx => by subst hx; exact ⟨rfl, rfl⟩
  unfold m_X7_readLaw at h
  obtain ⟨_, _, h⟩ := ob h
  refine x_aload_n C (i := 0) dX7_readLaw_0 rfl rfl ?_
  refine x_bipush C (v := 116) dX7_readLaw_1 (by decide) ?_
  obtain ⟨r1, er1, h⟩ := ob h
  refine x_callVr C Z mv_X7_passes lk_X7_34 (rv_h er1) (ct_X7_passes er1) (by decide) rfl rfl (Nat.le_of_ble_eq_true rfl) dX7_readLaw_3 ?_
  refine x_if_eq C (tgt := 18) dX7_readLaw_6 (by decide) (fun c2 => ?_) (fun c2 => ?_)
  · have h := ifP h c2
    refine x_iconst C (v := 0) dX7_readLaw_18 (by decide) ?_
    exact x_zret C E (by decide +kernel) dX7_readLaw_19 (hE (0, r1.2) (Option.some.inj h).symm)
  · have h := ifN h c2
    refine x_aload_n C (i := 0) dX7_readLaw_9 rfl rfl ?_
    refine x_iconst C (v := 3) dX7_readLaw_10 (by decide) ?_
    refine x_iconst C (v := 4) dX7_readLaw_11 (by decide) ?_
    obtain ⟨r3, er3, h⟩ := ob h
    refine x_callVr C Z mv_X7_readNumber lk_X7_38 (rv_h er3) (ct_X7_readNumber er3) (by decide) rfl rfl (Nat.le_of_ble_eq_true rfl) dX7_readLaw_12 ?_
    refine x_if_ne C (tgt := 20) dX7_readLaw_15 (by decide) (fun c4 => ?_) (fun c4 => ?_)
    · have h := ifN h c4
      refine x_aload_n C (i := 1) dX7_readLaw_20 rfl rfl ?_
      refine x_aload_n C (i := 0) dX7_readLaw_21 rfl rfl ?_
      obtain ⟨x5, ex5, h⟩ := ob h
      refine x_getI C fl_X7_42 dX7_readLaw_22 ex5 ?_
      obtain ⟨σ6, eσ6, h⟩ := ob h
      refine x_put C pl_X7_45 dX7_readLaw_25 (fun _ => ⟨rfl, rfl⟩) eσ6 ?_
      refine x_aload_n C (i := 0) dX7_readLaw_28 rfl rfl ?_
      refine x_bipush C (v := 44) dX7_readLaw_29 (by decide) ?_
      obtain ⟨r7, er7, h⟩ := ob h
      refine x_callVr C Z mv_X7_passes lk_X7_34 (rv_h er7) (ct_X7_passes er7) (by decide) rfl rfl (Nat.le_of_ble_eq_true rfl) dX7_readLaw_31 ?_
      refine x_if_eq C (tgt := 47) dX7_readLaw_34 (by decide) (fun c8 => ?_) (fun c8 => ?_)
      · have h := ifP h c8
        refine x_iconst C (v := 0) dX7_readLaw_47 (by decide) ?_
        exact x_zret C E (by decide +kernel) dX7_readLaw_48 (hE (0, r7.2) (Option.some.inj h).symm)
      · have h := ifN h c8
        refine x_aload_n C (i := 0) dX7_readLaw_37 rfl rfl ?_
        refine x_iconst C (v := 1) dX7_readLaw_38 (by decide) ?_
        refine x_bipush C (v := 6) dX7_readLaw_39 (by decide) ?_
        obtain ⟨r9, er9, h⟩ := ob h
        refine x_callVr C Z mv_X7_readNumber lk_X7_38 (rv_h er9) (ct_X7_readNumber er9) (by decide) rfl rfl (Nat.le_of_ble_eq_true rfl) dX7_readLaw_41 ?_
        refine x_if_ne C (tgt := 49) dX7_readLaw_44 (by decide) (fun c10 => ?_) (fun c10 => ?_)
        · have h := ifN h c10
          refine x_aload_n C (i := 1) dX7_readLaw_49 rfl rfl ?_
          refine x_aload_n C (i := 0) dX7_readLaw_50 rfl rfl ?_
          obtain ⟨x11, ex11, h⟩ := ob h
          refine x_getI C fl_X7_42 dX7_readLaw_51 ex11 ?_
          obtain ⟨σ12, eσ12, h⟩ := ob h
          refine x_put C pl_X7_48 dX7_readLaw_54 (fun _ => ⟨rfl, rfl⟩) eσ12 ?_
          refine x_aload_n C (i := 0) dX7_readLaw_57 rfl rfl ?_
          refine x_bipush C (v := 59) dX7_readLaw_58 (by decide) ?_
          obtain ⟨r13, er13, h⟩ := ob h
          refine x_callVr C Z mv_X7_passes lk_X7_34 (rv_h er13) (ct_X7_passes er13) (by decide) rfl rfl (Nat.le_of_ble_eq_true rfl) dX7_readLaw_60 ?_
          obtain ⟨u14, eu14, h⟩ := ob h
          exact x_zret C E (zb_n eu14) dX7_readLaw_63 (hE (r13.1, r13.2) (Option.some.inj h).symm)
        · have h := ifP h c10
          refine x_iconst C (v := 0) dX7_readLaw_47 (by decide) ?_
          exact x_zret C E (by decide +kernel) dX7_readLaw_48 (hE (0, r9.2) (Option.some.inj h).symm)
    · have h := ifP h c4
      refine x_iconst C (v := 0) dX7_readLaw_18 (by decide) ?_
      exact x_zret C E (by decide +kernel) dX7_readLaw_19 (hE (0, r3.2) (Option.some.inj h).symm)
