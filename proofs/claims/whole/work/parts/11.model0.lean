theorem dX9_init_0 : decode cX9_init 0 = .ok (.aload_n 0, 1) := by decide +kernel
theorem dX9_init_1 : decode cX9_init 1 = .ok (.invokespecial 1, 3) := by decide +kernel
theorem dX9_init_4 : decode cX9_init 4 = .ok (.aload_n 0, 1) := by decide +kernel
theorem dX9_init_5 : decode cX9_init 5 = .ok (.sipush 320, 3) := by decide +kernel
theorem dX9_init_8 : decode cX9_init 8 = .ok (.newarray .int, 2) := by decide +kernel
theorem dX9_init_10 : decode cX9_init 10 = .ok (.putfield 7, 3) := by decide +kernel
theorem dX9_init_13 : decode cX9_init 13 = .ok (.aload_n 0, 1) := by decide +kernel
theorem dX9_init_14 : decode cX9_init 14 = .ok (.bipush 8, 2) := by decide +kernel
theorem dX9_init_16 : decode cX9_init 16 = .ok (.newarray .int, 2) := by decide +kernel
theorem dX9_init_18 : decode cX9_init 18 = .ok (.putfield 13, 3) := by decide +kernel
theorem dX9_init_21 : decode cX9_init 21 = .ok (.aload_n 0, 1) := by decide +kernel
theorem dX9_init_22 : decode cX9_init 22 = .ok (.bipush 8, 2) := by decide +kernel
theorem dX9_init_24 : decode cX9_init 24 = .ok (.newarray .int, 2) := by decide +kernel
theorem dX9_init_26 : decode cX9_init 26 = .ok (.putfield 16, 3) := by decide +kernel
theorem dX9_init_29 : decode cX9_init 29 = .ok (.aload_n 0, 1) := by decide +kernel
theorem dX9_init_30 : decode cX9_init 30 = .ok (.bipush 60, 2) := by decide +kernel
theorem dX9_init_32 : decode cX9_init 32 = .ok (.newarray .byte, 2) := by decide +kernel
theorem dX9_init_34 : decode cX9_init 34 = .ok (.putfield 19, 3) := by decide +kernel
theorem dX9_init_37 : decode cX9_init 37 = .ok (.aload_n 0, 1) := by decide +kernel
theorem dX9_init_38 : decode cX9_init 38 = .ok (.sipush 448, 3) := by decide +kernel
theorem dX9_init_41 : decode cX9_init 41 = .ok (.newarray .int, 2) := by decide +kernel
theorem dX9_init_43 : decode cX9_init 43 = .ok (.putfield 23, 3) := by decide +kernel
theorem dX9_init_46 : decode cX9_init 46 = .ok (.aload_n 0, 1) := by decide +kernel
theorem dX9_init_47 : decode cX9_init 47 = .ok (.iconst 2, 1) := by decide +kernel
theorem dX9_init_48 : decode cX9_init 48 = .ok (.newarray .boolean, 2) := by decide +kernel
theorem dX9_init_50 : decode cX9_init 50 = .ok (.putfield 26, 3) := by decide +kernel
theorem dX9_init_53 : decode cX9_init 53 = .ok (.aload_n 0, 1) := by decide +kernel
theorem dX9_init_54 : decode cX9_init 54 = .ok (.sipush 8192, 3) := by decide +kernel
theorem dX9_init_57 : decode cX9_init 57 = .ok (.newarray .int, 2) := by decide +kernel
theorem dX9_init_59 : decode cX9_init 59 = .ok (.putfield 30, 3) := by decide +kernel
theorem dX9_init_62 : decode cX9_init 62 = .ok (.aload_n 0, 1) := by decide +kernel
theorem dX9_init_63 : decode cX9_init 63 = .ok (.sipush 8192, 3) := by decide +kernel
theorem dX9_init_66 : decode cX9_init 66 = .ok (.newarray .int, 2) := by decide +kernel
theorem dX9_init_68 : decode cX9_init 68 = .ok (.putfield 33, 3) := by decide +kernel
theorem dX9_init_71 : decode cX9_init 71 = .ok (.aload_n 0, 1) := by decide +kernel
theorem dX9_init_72 : decode cX9_init 72 = .ok (.sipush 8192, 3) := by decide +kernel
theorem dX9_init_75 : decode cX9_init 75 = .ok (.newarray .boolean, 2) := by decide +kernel
theorem dX9_init_77 : decode cX9_init 77 = .ok (.putfield 36, 3) := by decide +kernel
theorem dX9_init_80 : decode cX9_init 80 = .ok (.aload_n 0, 1) := by decide +kernel
theorem dX9_init_81 : decode cX9_init 81 = .ok (.sipush 8192, 3) := by decide +kernel
theorem dX9_init_84 : decode cX9_init 84 = .ok (.newarray .long, 2) := by decide +kernel
theorem dX9_init_86 : decode cX9_init 86 = .ok (.putfield 39, 3) := by decide +kernel
theorem dX9_init_89 : decode cX9_init 89 = .ok (.aload_n 0, 1) := by decide +kernel
theorem dX9_init_90 : decode cX9_init 90 = .ok (.sipush 8192, 3) := by decide +kernel
theorem dX9_init_93 : decode cX9_init 93 = .ok (.newarray .long, 2) := by decide +kernel
theorem dX9_init_95 : decode cX9_init 95 = .ok (.putfield 43, 3) := by decide +kernel
theorem dX9_init_98 : decode cX9_init 98 = .ok (.aload_n 0, 1) := by decide +kernel
theorem dX9_init_99 : decode cX9_init 99 = .ok (.bipush 16, 2) := by decide +kernel
theorem dX9_init_101 : decode cX9_init 101 = .ok (.newarray .int, 2) := by decide +kernel
theorem dX9_init_103 : decode cX9_init 103 = .ok (.putfield 46, 3) := by decide +kernel
theorem dX9_init_106 : decode cX9_init 106 = .ok (.iconst 0, 1) := by decide +kernel
theorem dX9_init_107 : decode cX9_init 107 = .ok (.istore_n 1, 1) := by decide +kernel
theorem dX9_init_108 : decode cX9_init 108 = .ok (.iload_n 1, 1) := by decide +kernel
theorem dX9_init_109 : decode cX9_init 109 = .ok (.bipush 8, 2) := by decide +kernel
theorem dX9_init_111 : decode cX9_init 111 = .ok (.if_icmp .ge 16, 3) := by decide +kernel
theorem dX9_init_114 : decode cX9_init 114 = .ok (.aload_n 0, 1) := by decide +kernel
theorem dX9_init_115 : decode cX9_init 115 = .ok (.getfield 13, 3) := by decide +kernel
theorem dX9_init_118 : decode cX9_init 118 = .ok (.iload_n 1, 1) := by decide +kernel
theorem dX9_init_119 : decode cX9_init 119 = .ok (.iconst (-1), 1) := by decide +kernel
theorem dX9_init_120 : decode cX9_init 120 = .ok (.iastore, 1) := by decide +kernel
theorem dX9_init_121 : decode cX9_init 121 = .ok (.iinc 1 1, 3) := by decide +kernel
theorem dX9_init_124 : decode cX9_init 124 = .ok (.goto (-16), 3) := by decide +kernel
theorem dX9_init_127 : decode cX9_init 127 = .ok (.return_, 1) := by decide +kernel
noncomputable def L_X9_init_108 (v0 : Nat) : Nat → Nat → Nat → Nat → Hp → Int32 → Option (Nat × Nat × Nat × Hp)
  | 0, _, _, _, _, _ => none
  | n + 1, N, c, s, σ, v1 =>
  if 8 ≤ v1 then
   some (N, c, s, σ)
  else
   (gR N σ v0 9 1).bind fun x38 =>
  (sI 0 N σ x38 v1 (-1)).bind fun σ39 =>
  L_X9_init_108 v0 n N c s σ39 (v1 + 1)
noncomputable def m_X9_init (N : Nat) (σ : Hp) (t0 : Nat) : Option (Nat × Hp) :=
  (al N σ [t0, t0] (0 + 1) (0 + 320) 12 41822).bind fun u1 =>
  (mkc σ N (.inl (0, 320, .inl (fun _ => 0)))).bind fun σ2 =>
  (pV (N + 1) σ2 t0 9 0 (.ref N)).bind fun σ3 =>
  (al (N + 1) σ3 [t0, t0] (0 + 1 + 1) (0 + 320 + 8) 12 41822).bind fun u4 =>
  (mkc σ3 (N + 1) (.inl (0, 8, .inl (fun _ => 0)))).bind fun σ5 =>
  (pV (N + 1 + 1) σ5 t0 9 1 (.ref (N + 1))).bind fun σ6 =>
  (al (N + 1 + 1) σ6 [t0, t0] (0 + 1 + 1 + 1) (0 + 320 + 8 + 8) 12 41822).bind fun u7 =>
  (mkc σ6 (N + 1 + 1) (.inl (0, 8, .inl (fun _ => 0)))).bind fun σ8 =>
  (pV (N + 1 + 1 + 1) σ8 t0 9 2 (.ref (N + 1 + 1))).bind fun σ9 =>
  (al (N + 1 + 1 + 1) σ9 [t0, t0] (0 + 1 + 1 + 1 + 1) (0 + 320 + 8 + 8 + 60) 12 41822).bind fun u10 =>
  (mkc σ9 (N + 1 + 1 + 1) (.inl (2, 60, .inl (fun _ => 0)))).bind fun σ11 =>
  (pV (N + 1 + 1 + 1 + 1) σ11 t0 9 5 (.ref (N + 1 + 1 + 1))).bind fun σ12 =>
  (al (N + 1 + 1 + 1 + 1) σ12 [t0, t0] (0 + 1 + 1 + 1 + 1 + 1) (0 + 320 + 8 + 8 + 60 + 448) 12 41822).bind fun u13 =>
  (mkc σ12 (N + 1 + 1 + 1 + 1) (.inl (0, 448, .inl (fun _ => 0)))).bind fun σ14 =>
  (pV (N + 1 + 1 + 1 + 1 + 1) σ14 t0 9 10 (.ref (N + 1 + 1 + 1 + 1))).bind fun σ15 =>
  (al (N + 1 + 1 + 1 + 1 + 1) σ15 [t0, t0] (0 + 1 + 1 + 1 + 1 + 1 + 1) (0 + 320 + 8 + 8 + 60 + 448 + 2) 12 41822).bind fun u16 =>
  (mkc σ15 (N + 1 + 1 + 1 + 1 + 1) (.inl (3, 2, .inl (fun _ => 0)))).bind fun σ17 =>
  (pV (N + 1 + 1 + 1 + 1 + 1 + 1) σ17 t0 9 12 (.ref (N + 1 + 1 + 1 + 1 + 1))).bind fun σ18 =>
  (al (N + 1 + 1 + 1 + 1 + 1 + 1) σ18 [t0, t0] (0 + 1 + 1 + 1 + 1 + 1 + 1 + 1) (0 + 320 + 8 + 8 + 60 + 448 + 2 + 8192) 12 41822).bind fun u19 =>
  (mkc σ18 (N + 1 + 1 + 1 + 1 + 1 + 1) (.inl (0, 8192, .inl (fun _ => 0)))).bind fun σ20 =>
  (pV (N + 1 + 1 + 1 + 1 + 1 + 1 + 1) σ20 t0 9 13 (.ref (N + 1 + 1 + 1 + 1 + 1 + 1))).bind fun σ21 =>
  (al (N + 1 + 1 + 1 + 1 + 1 + 1 + 1) σ21 [t0, t0] (0 + 1 + 1 + 1 + 1 + 1 + 1 + 1 + 1) (0 + 320 + 8 + 8 + 60 + 448 + 2 + 8192 + 8192) 12 41822).bind fun u22 =>
  (mkc σ21 (N + 1 + 1 + 1 + 1 + 1 + 1 + 1) (.inl (0, 8192, .inl (fun _ => 0)))).bind fun σ23 =>
  (pV (N + 1 + 1 + 1 + 1 + 1 + 1 + 1 + 1) σ23 t0 9 14 (.ref (N + 1 + 1 + 1 + 1 + 1 + 1 + 1))).bind fun σ24 =>
  (al (N + 1 + 1 + 1 + 1 + 1 + 1 + 1 + 1) σ24 [t0, t0] (0 + 1 + 1 + 1 + 1 + 1 + 1 + 1 + 1 + 1) (0 + 320 + 8 + 8 + 60 + 448 + 2 + 8192 + 8192 + 8192) 12 41822).bind fun u25 =>
  (mkc σ24 (N + 1 + 1 + 1 + 1 + 1 + 1 + 1 + 1) (.inl (3, 8192, .inl (fun _ => 0)))).bind fun σ26 =>
  (pV (N + 1 + 1 + 1 + 1 + 1 + 1 + 1 + 1 + 1) σ26 t0 9 15 (.ref (N + 1 + 1 + 1 + 1 + 1 + 1 + 1 + 1))).bind fun σ27 =>
  (al (N + 1 + 1 + 1 + 1 + 1 + 1 + 1 + 1 + 1) σ27 [t0, t0] (0 + 1 + 1 + 1 + 1 + 1 + 1 + 1 + 1 + 1 + 1) (0 + 320 + 8 + 8 + 60 + 448 + 2 + 8192 + 8192 + 8192 + 8192) 12 41822).bind fun u28 =>
  (mkc σ27 (N + 1 + 1 + 1 + 1 + 1 + 1 + 1 + 1 + 1) (.inl (1, 8192, .inr (.inl (fun _ => 0))))).bind fun σ29 =>
  (pV (N + 1 + 1 + 1 + 1 + 1 + 1 + 1 + 1 + 1 + 1) σ29 t0 9 17 (.ref (N + 1 + 1 + 1 + 1 + 1 + 1 + 1 + 1 + 1))).bind fun σ30 =>
  (al (N + 1 + 1 + 1 + 1 + 1 + 1 + 1 + 1 + 1 + 1) σ30 [t0, t0] (0 + 1 + 1 + 1 + 1 + 1 + 1 + 1 + 1 + 1 + 1 + 1) (0 + 320 + 8 + 8 + 60 + 448 + 2 + 8192 + 8192 + 8192 + 8192 + 8192) 12 41822).bind fun u31 =>
  (mkc σ30 (N + 1 + 1 + 1 + 1 + 1 + 1 + 1 + 1 + 1 + 1) (.inl (1, 8192, .inr (.inl (fun _ => 0))))).bind fun σ32 =>
  (pV (N + 1 + 1 + 1 + 1 + 1 + 1 + 1 + 1 + 1 + 1 + 1) σ32 t0 9 18 (.ref (N + 1 + 1 + 1 + 1 + 1 + 1 + 1 + 1 + 1 + 1))).bind fun σ33 =>
  (al (N + 1 + 1 + 1 + 1 + 1 + 1 + 1 + 1 + 1 + 1 + 1) σ33 [t0, t0] (0 + 1 + 1 + 1 + 1 + 1 + 1 + 1 + 1 + 1 + 1 + 1 + 1) (0 + 320 + 8 + 8 + 60 + 448 + 2 + 8192 + 8192 + 8192 + 8192 + 8192 + 16) 12 41822).bind fun u34 =>
  (mkc σ33 (N + 1 + 1 + 1 + 1 + 1 + 1 + 1 + 1 + 1 + 1 + 1) (.inl (0, 16, .inl (fun _ => 0)))).bind fun σ35 =>
  (pV (N + 1 + 1 + 1 + 1 + 1 + 1 + 1 + 1 + 1 + 1 + 1 + 1) σ35 t0 9 22 (.ref (N + 1 + 1 + 1 + 1 + 1 + 1 + 1 + 1 + 1 + 1 + 1))).bind fun σ36 =>
  (L_X9_init_108 t0 fu (N + 1 + 1 + 1 + 1 + 1 + 1 + 1 + 1 + 1 + 1 + 1 + 1) (0 + 1 + 1 + 1 + 1 + 1 + 1 + 1 + 1 + 1 + 1 + 1 + 1) (0 + 320 + 8 + 8 + 60 + 448 + 2 + 8192 + 8192 + 8192 + 8192 + 8192 + 16) σ36 0).bind fun z40 =>
  some (z40.1, z40.2.2.2)
set_option maxHeartbeats 4000000 in
set_option maxRecDepth 100000 in
theorem lp_X9_init_108 {κ : Kx} {N0 : Nat} {ad0 : Nat → Nat} (C : Cx κ 2 1 cX9_init RX9 "<init>") (hRc : κ.R.cells = 12) (hRs : κ.R.slots = 41822) (v0 : Nat) {r : Nat × Nat × Nat × Hp} (hk : ∀ ad, Zx κ (r.1, ad, r.2.1, r.2.2.1) → Ag N0 ad0 (r.1, ad, r.2.1, r.2.2.1) → X κ 2 (r.1, ad, r.2.1, r.2.2.1) 127 [none, none] [] r.2.2.2) : ∀ (n N : Nat) (ad : Nat → Nat) (c s : Nat) (σ : Hp) (v1 : Int32), L_X9_init_108 v0 n N c s σ v1 = some r → Zx κ (N, ad, c, s) → Ag N0 ad0 (N, ad, c, s) → X κ 2 (N, ad, c, s) 108 [some (.ref v0), some (.int v1)] [] σ := by
  intro n
  induction n with
  | zero => intro N ad c s σ v1 h; cases h
  | succ n ih =>
    intro N ad c s σ v1 h Z G
    rw [L_X9_init_108.eq_2] at h
    refine x_iload_n C (i := 1) dX9_init_108 rfl rfl ?_
    refine x_bipush C (v := 8) dX9_init_109 (by decide) ?_
    refine x_icmp_ge C (tgt := 127) dX9_init_111 (by decide) (fun c37 => ?_) (fun c37 => ?_)
    · have h := ifP h c37
      refine x_wk [false, false] (lo' := [none, none]) rfl ?_
      obtain rfl := Option.some.inj h
      exact hk _ Z G
    · have h := ifN h c37
      refine x_aload_n C (i := 0) dX9_init_114 rfl rfl ?_
      obtain ⟨x38, ex38, h⟩ := ob h
      refine x_getR C fl_X9_13 dX9_init_115 ex38 ?_
      refine x_iload_n C (i := 1) dX9_init_118 rfl rfl ?_
      refine x_iconst C (v := (-1)) dX9_init_119 (by decide) ?_
      obtain ⟨σ39, eσ39, h⟩ := ob h
      refine x_iast C dX9_init_120 eσ39 ?_
      refine x_iinc C (i := 1) (y := v1 + 1) (lo' := [some (.ref v0), some (.int (v1 + 1))]) dX9_init_121 rfl rfl (by decide) rfl rfl ?_
      refine x_goto C (tgt := 108) dX9_init_124 (by decide) ?_
      refine x_wk [true, true] (lo' := [some (.ref v0), some (.int (v1 + 1))]) rfl ?_
      exact ih _ _ _ _ _ (v1 + 1) h Z G
set_option maxHeartbeats 4000000 in
set_option maxRecDepth 100000 in
theorem ct_X9_init {l : Launch} {D : va_G} {cy : Nat → Nat} {N : Nat} {σ : Hp} {t0 : Nat} {r : Nat × Hp} (h : m_X9_init N σ t0 = some r) : CtA l D cy yX9_init cX9_init 2 none 1 12 41822 [.ref t0] N σ (fun v n' s' => v = none ∧ n' = r.1 ∧ s' = r.2) := by
  refine CtA.intro [some (.ref t0), none] (by decide) rfl (Nat.le_of_ble_eq_true rfl) ?_
  intro κ ad0 e1 e2 e3 hRc hRs C Z E
  subst e1; subst e2; subst e3
  have C : Cx κ 2 1 cX9_init RX9 "<init>" := C
  have G := Ag.rf N ad0 0 0
  have hE : ∀ x : Nat × Hp, r = x → ((none : Option Value) = (none : Option Value) ∧ x.1 = r.1 ∧ x.2 = r.2) := fun x hx => by subst hx; exact ⟨rfl, rfl, rfl⟩
  unfold m_X9_init at h
  refine x_aload_n C (i := 0) dX9_init_0 rfl rfl ?_
  refine x_objInit C (by decide) oi_X9 oi_inst oi_code (Nat.le_of_ble_eq_true rfl) dX9_init_1 ?_
  refine x_aload_n C (i := 0) dX9_init_4 rfl rfl ?_
  refine x_sipush C (v := 320) dX9_init_5 (by decide) ?_
  obtain ⟨u1, eu1, h⟩ := ob h
  obtain ⟨σ2, eσ2, h⟩ := ob h
  refine g_newI C Z G hRc hRs 320 wa_int (by decide) (by decide) (by decide) eu1 rfl eσ2 dX9_init_8 (fun ad Z G => ?_)
  obtain ⟨σ3, eσ3, h⟩ := ob h
  refine x_putF C pf_X9_7 dX9_init_10 (fun _ => ⟨rfl, rfl⟩) eσ3 ?_
  refine x_aload_n C (i := 0) dX9_init_13 rfl rfl ?_
  refine x_bipush C (v := 8) dX9_init_14 (by decide) ?_
  obtain ⟨u4, eu4, h⟩ := ob h
  obtain ⟨σ5, eσ5, h⟩ := ob h
  refine g_newI C Z G hRc hRs 8 wa_int (by decide) (by decide) (by decide) eu4 rfl eσ5 dX9_init_16 (fun ad Z G => ?_)
  obtain ⟨σ6, eσ6, h⟩ := ob h
  refine x_putF C pf_X9_13 dX9_init_18 (fun _ => ⟨rfl, rfl⟩) eσ6 ?_
  refine x_aload_n C (i := 0) dX9_init_21 rfl rfl ?_
  refine x_bipush C (v := 8) dX9_init_22 (by decide) ?_
  obtain ⟨u7, eu7, h⟩ := ob h
  obtain ⟨σ8, eσ8, h⟩ := ob h
  refine g_newI C Z G hRc hRs 8 wa_int (by decide) (by decide) (by decide) eu7 rfl eσ8 dX9_init_24 (fun ad Z G => ?_)
  obtain ⟨σ9, eσ9, h⟩ := ob h
  refine x_putF C pf_X9_16 dX9_init_26 (fun _ => ⟨rfl, rfl⟩) eσ9 ?_
  refine x_aload_n C (i := 0) dX9_init_29 rfl rfl ?_
  refine x_bipush C (v := 60) dX9_init_30 (by decide) ?_
  obtain ⟨u10, eu10, h⟩ := ob h
  obtain ⟨σ11, eσ11, h⟩ := ob h
  refine g_newB C Z G hRc hRs 60 wa_byte (by decide) (by decide) (by decide) eu10 rfl eσ11 dX9_init_32 (fun ad Z G => ?_)
  obtain ⟨σ12, eσ12, h⟩ := ob h
  refine x_putF C pf_X9_19 dX9_init_34 (fun _ => ⟨rfl, rfl⟩) eσ12 ?_
  refine x_aload_n C (i := 0) dX9_init_37 rfl rfl ?_
  refine x_sipush C (v := 448) dX9_init_38 (by decide) ?_
  obtain ⟨u13, eu13, h⟩ := ob h
  obtain ⟨σ14, eσ14, h⟩ := ob h
  refine g_newI C Z G hRc hRs 448 wa_int (by decide) (by decide) (by decide) eu13 rfl eσ14 dX9_init_41 (fun ad Z G => ?_)
  obtain ⟨σ15, eσ15, h⟩ := ob h
  refine x_putF C pf_X9_23 dX9_init_43 (fun _ => ⟨rfl, rfl⟩) eσ15 ?_
  refine x_aload_n C (i := 0) dX9_init_46 rfl rfl ?_
  refine x_iconst C (v := 2) dX9_init_47 (by decide) ?_
  obtain ⟨u16, eu16, h⟩ := ob h
  obtain ⟨σ17, eσ17, h⟩ := ob h
  refine g_newZ C Z G hRc hRs 2 wa_boolean (by decide) (by decide) (by decide) eu16 rfl eσ17 dX9_init_48 (fun ad Z G => ?_)
  obtain ⟨σ18, eσ18, h⟩ := ob h
  refine x_putF C pf_X9_26 dX9_init_50 (fun _ => ⟨rfl, rfl⟩) eσ18 ?_
  refine x_aload_n C (i := 0) dX9_init_53 rfl rfl ?_
  refine x_sipush C (v := 8192) dX9_init_54 (by decide) ?_
  obtain ⟨u19, eu19, h⟩ := ob h
  obtain ⟨σ20, eσ20, h⟩ := ob h
  refine g_newI C Z G hRc hRs 8192 wa_int (by decide) (by decide) (by decide) eu19 rfl eσ20 dX9_init_57 (fun ad Z G => ?_)
  obtain ⟨σ21, eσ21, h⟩ := ob h
  refine x_putF C pf_X9_30 dX9_init_59 (fun _ => ⟨rfl, rfl⟩) eσ21 ?_
  refine x_aload_n C (i := 0) dX9_init_62 rfl rfl ?_
  refine x_sipush C (v := 8192) dX9_init_63 (by decide) ?_
  obtain ⟨u22, eu22, h⟩ := ob h
  obtain ⟨σ23, eσ23, h⟩ := ob h
  refine g_newI C Z G hRc hRs 8192 wa_int (by decide) (by decide) (by decide) eu22 rfl eσ23 dX9_init_66 (fun ad Z G => ?_)
  obtain ⟨σ24, eσ24, h⟩ := ob h
  refine x_putF C pf_X9_33 dX9_init_68 (fun _ => ⟨rfl, rfl⟩) eσ24 ?_
  refine x_aload_n C (i := 0) dX9_init_71 rfl rfl ?_
  refine x_sipush C (v := 8192) dX9_init_72 (by decide) ?_
  obtain ⟨u25, eu25, h⟩ := ob h
  obtain ⟨σ26, eσ26, h⟩ := ob h
  refine g_newZ C Z G hRc hRs 8192 wa_boolean (by decide) (by decide) (by decide) eu25 rfl eσ26 dX9_init_75 (fun ad Z G => ?_)
  obtain ⟨σ27, eσ27, h⟩ := ob h
  refine x_putF C pf_X9_36 dX9_init_77 (fun _ => ⟨rfl, rfl⟩) eσ27 ?_
  refine x_aload_n C (i := 0) dX9_init_80 rfl rfl ?_
  refine x_sipush C (v := 8192) dX9_init_81 (by decide) ?_
  obtain ⟨u28, eu28, h⟩ := ob h
  obtain ⟨σ29, eσ29, h⟩ := ob h
  refine g_newJ C Z G hRc hRs 8192 wa_long (by decide) (by decide) (by decide) eu28 rfl eσ29 dX9_init_84 (fun ad Z G => ?_)
  obtain ⟨σ30, eσ30, h⟩ := ob h
  refine x_putF C pf_X9_39 dX9_init_86 (fun _ => ⟨rfl, rfl⟩) eσ30 ?_
  refine x_aload_n C (i := 0) dX9_init_89 rfl rfl ?_
  refine x_sipush C (v := 8192) dX9_init_90 (by decide) ?_
  obtain ⟨u31, eu31, h⟩ := ob h
  obtain ⟨σ32, eσ32, h⟩ := ob h
  refine g_newJ C Z G hRc hRs 8192 wa_long (by decide) (by decide) (by decide) eu31 rfl eσ32 dX9_init_93 (fun ad Z G => ?_)
  obtain ⟨σ33, eσ33, h⟩ := ob h
  refine x_putF C pf_X9_43 dX9_init_95 (fun _ => ⟨rfl, rfl⟩) eσ33 ?_
  refine x_aload_n C (i := 0) dX9_init_98 rfl rfl ?_
  refine x_bipush C (v := 16) dX9_init_99 (by decide) ?_
  obtain ⟨u34, eu34, h⟩ := ob h
  obtain ⟨σ35, eσ35, h⟩ := ob h
  refine g_newI C Z G hRc hRs 16 wa_int (by decide) (by decide) (by decide) eu34 rfl eσ35 dX9_init_101 (fun ad Z G => ?_)
  obtain ⟨σ36, eσ36, h⟩ := ob h
  refine x_putF C pf_X9_46 dX9_init_103 (fun _ => ⟨rfl, rfl⟩) eσ36 ?_
  refine x_iconst C (v := 0) dX9_init_106 (by decide) ?_
  refine x_istore_n C (i := 1) (lo' := [some (.ref t0), some (.int 0)]) dX9_init_107 rfl (by decide) rfl rfl ?_
  obtain ⟨z40, ez40, h⟩ := ob h
  refine x_wk [true, true] (lo' := [some (.ref t0), some (.int 0)]) rfl ?_
  refine lp_X9_init_108 C hRc hRs t0 (fun ad Z G => ?_) _ _ _ _ _ _ 0 ez40 Z G
  exact x_vretA C E G ⟨hRc ▸ Z.1.1, hRs ▸ Z.1.2⟩ dX9_init_127 (hE (z40.1, z40.2.2.2) (Option.some.inj h).symm)
theorem dX9_in_0 : decode cX9_in 0 = .ok (.lload_n 0, 1) := by decide +kernel
theorem dX9_in_1 : decode cX9_in 1 = .ok (.lload_n 2, 1) := by decide +kernel
theorem dX9_in_2 : decode cX9_in 2 = .ok (.lcmp, 1) := by decide +kernel
theorem dX9_in_3 : decode cX9_in 3 = .ok (.ifCond .lt 14, 3) := by decide +kernel
theorem dX9_in_6 : decode cX9_in 6 = .ok (.lload_n 0, 1) := by decide +kernel
theorem dX9_in_7 : decode cX9_in 7 = .ok (.lload 4, 2) := by decide +kernel
theorem dX9_in_9 : decode cX9_in 9 = .ok (.lcmp, 1) := by decide +kernel
theorem dX9_in_10 : decode cX9_in 10 = .ok (.ifCond .gt 7, 3) := by decide +kernel
theorem dX9_in_13 : decode cX9_in 13 = .ok (.iconst 1, 1) := by decide +kernel
theorem dX9_in_14 : decode cX9_in 14 = .ok (.goto 4, 3) := by decide +kernel
theorem dX9_in_17 : decode cX9_in 17 = .ok (.iconst 0, 1) := by decide +kernel
theorem dX9_in_18 : decode cX9_in 18 = .ok (.ireturn, 1) := by decide +kernel
def m_X9_in (p0 : Int64) (p2 : Int64) (p4 : Int64) : Option (Int32) :=
  if (lg_cmp p0 p2) < 0 then
   some 0
  else
   if 0 < (lg_cmp p0 p4) then
   some 0
  else
   some 1
set_option maxHeartbeats 4000000 in
set_option maxRecDepth 100000 in
theorem ct_X9_in {l : Launch} {D : va_G} {cy : Nat → Nat} {N : Nat} {σ : Hp} {p0 : Int64} {p2 : Int64} {p4 : Int64} {r : Int32} (h : m_X9_in p0 p2 p4 = some r) : Ct l D cy yX9_in cX9_in 6 (some .boolean) 0 [.long p0, .long p2, .long p4] N σ (fun v s' => v = (some (.int r)) ∧ s' = σ) := by
  refine Ct.intro [some (.long p0), none, some (.long p2), none, some (.long p4), none] (by decide) rfl (Nat.le_of_ble_eq_true rfl) ?_
  intro κ ω e1 e2 e3 e4 C Z E
  subst e1; subst e2; subst e3; subst e4
  have C : Cx κ 6 0 cX9_in RX9 "in" := C
  have hE : ∀ x : Int32, r = x → ((some (Value.int x)) = (some (Value.int r)) ∧ σ = σ) := fun x hx => by subst hx; exact ⟨rfl, rfl⟩
  unfold m_X9_in at h
  refine x_lload_n C (i := 0) dX9_in_0 rfl rfl ?_
  refine x_lload_n C (i := 2) dX9_in_1 rfl rfl ?_
  refine x_lcmp C dX9_in_2 ?_
  refine x_if_lt C (tgt := 17) dX9_in_3 (by decide) (fun c1 => ?_) (fun c1 => ?_)
  · have h := ifP h c1
    refine x_iconst C (v := 0) dX9_in_17 (by decide) ?_
    exact x_zret C E (by decide +kernel) dX9_in_18 (hE 0 (Option.some.inj h).symm)
  · have h := ifN h c1
    refine x_lload_n C (i := 0) dX9_in_6 rfl rfl ?_
    refine x_lload C (i := 4) dX9_in_7 rfl ?_
    refine x_lcmp C dX9_in_9 ?_
    refine x_if_gt C (tgt := 17) dX9_in_10 (by decide) (fun c2 => ?_) (fun c2 => ?_)
    · have h := ifP h c2
      refine x_iconst C (v := 0) dX9_in_17 (by decide) ?_
      exact x_zret C E (by decide +kernel) dX9_in_18 (hE 0 (Option.some.inj h).symm)
    · have h := ifN h c2
      refine x_iconst C (v := 1) dX9_in_13 (by decide) ?_
      refine x_goto C (tgt := 18) dX9_in_14 (by decide) ?_
      exact x_zret C E (by decide +kernel) dX9_in_18 (hE 1 (Option.some.inj h).symm)
theorem dX9_has_0 : decode cX9_has 0 = .ok (.iload_n 0, 1) := by decide +kernel
theorem dX9_has_1 : decode cX9_has 1 = .ok (.iload_n 1, 1) := by decide +kernel
theorem dX9_has_2 : decode cX9_has 2 = .ok (.ishr, 1) := by decide +kernel
theorem dX9_has_3 : decode cX9_has 3 = .ok (.iconst 1, 1) := by decide +kernel
theorem dX9_has_4 : decode cX9_has 4 = .ok (.iand, 1) := by decide +kernel
theorem dX9_has_5 : decode cX9_has 5 = .ok (.iconst 1, 1) := by decide +kernel
theorem dX9_has_6 : decode cX9_has 6 = .ok (.if_icmp .ne 7, 3) := by decide +kernel
theorem dX9_has_9 : decode cX9_has 9 = .ok (.iconst 1, 1) := by decide +kernel
theorem dX9_has_10 : decode cX9_has 10 = .ok (.goto 4, 3) := by decide +kernel
theorem dX9_has_13 : decode cX9_has 13 = .ok (.iconst 0, 1) := by decide +kernel
theorem dX9_has_14 : decode cX9_has 14 = .ok (.ireturn, 1) := by decide +kernel
def m_X9_has (p0 : Int32) (p1 : Int32) : Option (Int32) :=
  if ((p0 >>> (p1 &&& 31)) &&& 1) = 1 then
   some 1
  else
   some 0
set_option maxHeartbeats 4000000 in
set_option maxRecDepth 100000 in
theorem ct_X9_has {l : Launch} {D : va_G} {cy : Nat → Nat} {N : Nat} {σ : Hp} {p0 : Int32} {p1 : Int32} {r : Int32} (h : m_X9_has p0 p1 = some r) : Ct l D cy yX9_has cX9_has 2 (some .boolean) 0 [.int p0, .int p1] N σ (fun v s' => v = (some (.int r)) ∧ s' = σ) := by
  refine Ct.intro [some (.int p0), some (.int p1)] (by decide) rfl (Nat.le_of_ble_eq_true rfl) ?_
  intro κ ω e1 e2 e3 e4 C Z E
  subst e1; subst e2; subst e3; subst e4
  have C : Cx κ 2 0 cX9_has RX9 "has" := C
  have hE : ∀ x : Int32, r = x → ((some (Value.int x)) = (some (Value.int r)) ∧ σ = σ) := fun x hx => by subst hx; exact ⟨rfl, rfl⟩
  unfold m_X9_has at h
  refine x_iload_n C (i := 0) dX9_has_0 rfl rfl ?_
  refine x_iload_n C (i := 1) dX9_has_1 rfl rfl ?_
  refine x_ishr C dX9_has_2 ?_
  refine x_iconst C (v := 1) dX9_has_3 (by decide) ?_
  refine x_iand C dX9_has_4 ?_
  refine x_iconst C (v := 1) dX9_has_5 (by decide) ?_
  refine x_icmp_ne C (tgt := 13) dX9_has_6 (by decide) (fun c1 => ?_) (fun c1 => ?_)
  · have h := ifN h c1
    refine x_iconst C (v := 0) dX9_has_13 (by decide) ?_
    exact x_zret C E (by decide +kernel) dX9_has_14 (hE 0 (Option.some.inj h).symm)
  · have h := ifP h c1
    refine x_iconst C (v := 1) dX9_has_9 (by decide) ?_
    refine x_goto C (tgt := 14) dX9_has_10 (by decide) ?_
    exact x_zret C E (by decide +kernel) dX9_has_14 (hE 1 (Option.some.inj h).symm)
theorem dX9_larger_0 : decode cX9_larger 0 = .ok (.iload_n 0, 1) := by decide +kernel
theorem dX9_larger_1 : decode cX9_larger 1 = .ok (.iload_n 1, 1) := by decide +kernel
theorem dX9_larger_2 : decode cX9_larger 2 = .ok (.if_icmp .ge 7, 3) := by decide +kernel
theorem dX9_larger_5 : decode cX9_larger 5 = .ok (.iload_n 1, 1) := by decide +kernel
theorem dX9_larger_6 : decode cX9_larger 6 = .ok (.goto 4, 3) := by decide +kernel
theorem dX9_larger_9 : decode cX9_larger 9 = .ok (.iload_n 0, 1) := by decide +kernel
theorem dX9_larger_10 : decode cX9_larger 10 = .ok (.ireturn, 1) := by decide +kernel
def m_X9_larger (p0 : Int32) (p1 : Int32) : Option (Int32) :=
  if p1 ≤ p0 then
   some p0
  else
   some p1
set_option maxHeartbeats 4000000 in
set_option maxRecDepth 100000 in
theorem ct_X9_larger {l : Launch} {D : va_G} {cy : Nat → Nat} {N : Nat} {σ : Hp} {p0 : Int32} {p1 : Int32} {r : Int32} (h : m_X9_larger p0 p1 = some r) : Ct l D cy yX9_larger cX9_larger 2 (some .int) 0 [.int p0, .int p1] N σ (fun v s' => v = (some (.int r)) ∧ s' = σ) := by
  refine Ct.intro [some (.int p0), some (.int p1)] (by decide) rfl (Nat.le_of_ble_eq_true rfl) ?_
  intro κ ω e1 e2 e3 e4 C Z E
  subst e1; subst e2; subst e3; subst e4
  have C : Cx κ 2 0 cX9_larger RX9 "larger" := C
  have hE : ∀ x : Int32, r = x → ((some (Value.int x)) = (some (Value.int r)) ∧ σ = σ) := fun x hx => by subst hx; exact ⟨rfl, rfl⟩
  unfold m_X9_larger at h
  refine x_iload_n C (i := 0) dX9_larger_0 rfl rfl ?_
  refine x_iload_n C (i := 1) dX9_larger_1 rfl rfl ?_
  refine x_icmp_ge C (tgt := 9) dX9_larger_2 (by decide) (fun c1 => ?_) (fun c1 => ?_)
  · have h := ifP h c1
    refine x_iload_n C (i := 0) dX9_larger_9 rfl rfl ?_
    exact x_iret C E dX9_larger_10 (hE p0 (Option.some.inj h).symm)
  · have h := ifN h c1
    refine x_iload_n C (i := 1) dX9_larger_5 rfl rfl ?_
    refine x_goto C (tgt := 10) dX9_larger_6 (by decide) ?_
    exact x_iret C E dX9_larger_10 (hE p1 (Option.some.inj h).symm)
theorem dX9_smaller_0 : decode cX9_smaller 0 = .ok (.iload_n 0, 1) := by decide +kernel
theorem dX9_smaller_1 : decode cX9_smaller 1 = .ok (.iload_n 1, 1) := by decide +kernel
theorem dX9_smaller_2 : decode cX9_smaller 2 = .ok (.if_icmp .ge 7, 3) := by decide +kernel
theorem dX9_smaller_5 : decode cX9_smaller 5 = .ok (.iload_n 0, 1) := by decide +kernel
theorem dX9_smaller_6 : decode cX9_smaller 6 = .ok (.goto 4, 3) := by decide +kernel
theorem dX9_smaller_9 : decode cX9_smaller 9 = .ok (.iload_n 1, 1) := by decide +kernel
theorem dX9_smaller_10 : decode cX9_smaller 10 = .ok (.ireturn, 1) := by decide +kernel
def m_X9_smaller (p0 : Int32) (p1 : Int32) : Option (Int32) :=
  if p1 ≤ p0 then
   some p1
  else
   some p0
set_option maxHeartbeats 4000000 in
set_option maxRecDepth 100000 in
theorem ct_X9_smaller {l : Launch} {D : va_G} {cy : Nat → Nat} {N : Nat} {σ : Hp} {p0 : Int32} {p1 : Int32} {r : Int32} (h : m_X9_smaller p0 p1 = some r) : Ct l D cy yX9_smaller cX9_smaller 2 (some .int) 0 [.int p0, .int p1] N σ (fun v s' => v = (some (.int r)) ∧ s' = σ) := by
  refine Ct.intro [some (.int p0), some (.int p1)] (by decide) rfl (Nat.le_of_ble_eq_true rfl) ?_
  intro κ ω e1 e2 e3 e4 C Z E
  subst e1; subst e2; subst e3; subst e4
  have C : Cx κ 2 0 cX9_smaller RX9 "smaller" := C
  have hE : ∀ x : Int32, r = x → ((some (Value.int x)) = (some (Value.int r)) ∧ σ = σ) := fun x hx => by subst hx; exact ⟨rfl, rfl⟩
  unfold m_X9_smaller at h
  refine x_iload_n C (i := 0) dX9_smaller_0 rfl rfl ?_
  refine x_iload_n C (i := 1) dX9_smaller_1 rfl rfl ?_
  refine x_icmp_ge C (tgt := 9) dX9_smaller_2 (by decide) (fun c1 => ?_) (fun c1 => ?_)
  · have h := ifP h c1
    refine x_iload_n C (i := 1) dX9_smaller_9 rfl rfl ?_
    exact x_iret C E dX9_smaller_10 (hE p1 (Option.some.inj h).symm)
  · have h := ifN h c1
    refine x_iload_n C (i := 0) dX9_smaller_5 rfl rfl ?_
    refine x_goto C (tgt := 10) dX9_smaller_6 (by decide) ?_
    exact x_iret C E dX9_smaller_10 (hE p0 (Option.some.inj h).symm)
theorem dX9_finds_0 : decode cX9_finds 0 = .ok (.aload_n 0, 1) := by decide +kernel
theorem dX9_finds_1 : decode cX9_finds 1 = .ok (.iload_n 1, 1) := by decide +kernel
theorem dX9_finds_2 : decode cX9_finds 2 = .ok (.putfield 49, 3) := by decide +kernel
theorem dX9_finds_5 : decode cX9_finds 5 = .ok (.ldc 53, 2) := by decide +kernel
theorem dX9_finds_7 : decode cX9_finds 7 = .ok (.iload_n 1, 1) := by decide +kernel
theorem dX9_finds_8 : decode cX9_finds 8 = .ok (.isub, 1) := by decide +kernel
theorem dX9_finds_9 : decode cX9_finds 9 = .ok (.ireturn, 1) := by decide +kernel
def m_X9_finds (N : Nat) (σ : Hp) (t0 : Nat) (p1 : Int32) : Option (Int32 × Hp) :=
  (rv N σ t0 9).bind fun _ =>
  (pV N σ t0 9 3 (.int p1)).bind fun σ1 =>
  some (((-1000010) : Int32) - p1, σ1)
set_option maxHeartbeats 4000000 in
set_option maxRecDepth 100000 in
theorem ct_X9_finds {l : Launch} {D : va_G} {cy : Nat → Nat} {N : Nat} {σ : Hp} {t0 : Nat} {p1 : Int32} {r : Int32 × Hp} (h : m_X9_finds N σ t0 p1 = some r) : Ct l D cy yX9_finds cX9_finds 2 (some .int) 0 [.ref t0, .int p1] N σ (fun v s' => v = (some (.int r.1)) ∧ s' = r.2) := by
  refine Ct.intro [some (.ref t0), some (.int p1)] (by decide) rfl (Nat.le_of_ble_eq_true rfl) ?_
  intro κ ω e1 e2 e3 e4 C Z E
  subst e1; subst e2; subst e3; subst e4
  have C : Cx κ 2 0 cX9_finds RX9 "finds" := C
  have hE : ∀ x : Int32 × Hp, r = x → ((some (Value.int x.1)) = (some (Value.int r.1)) ∧ x.2 = r.2) := fun x hx => by subst hx; exact ⟨rfl, rfl⟩
  unfold m_X9_finds at h
  obtain ⟨_, _, h⟩ := ob h
  refine x_aload_n C (i := 0) dX9_finds_0 rfl rfl ?_
  refine x_iload_n C (i := 1) dX9_finds_1 rfl rfl ?_
  obtain ⟨σ1, eσ1, h⟩ := ob h
  refine x_put C pl_X9_49 dX9_finds_2 (fun _ => ⟨rfl, rfl⟩) eσ1 ?_
  refine x_ldc C kc_X9_53 dX9_finds_5 ?_
  refine x_iload_n C (i := 1) dX9_finds_7 rfl rfl ?_
  refine x_isub C dX9_finds_8 ?_
  exact x_iret C E dX9_finds_9 (hE (((-1000010) : Int32) - p1, σ1) (Option.some.inj h).symm)
theorem dX9_good_0 : decode cX9_good 0 = .ok (.aload_n 0, 1) := by decide +kernel
theorem dX9_good_1 : decode cX9_good 1 = .ok (.iconst 0, 1) := by decide +kernel
theorem dX9_good_2 : decode cX9_good 2 = .ok (.putfield 49, 3) := by decide +kernel
theorem dX9_good_5 : decode cX9_good 5 = .ok (.iload_n 1, 1) := by decide +kernel
theorem dX9_good_6 : decode cX9_good 6 = .ok (.ireturn, 1) := by decide +kernel
def m_X9_good (N : Nat) (σ : Hp) (t0 : Nat) (p1 : Int32) : Option (Int32 × Hp) :=
  (rv N σ t0 9).bind fun _ =>
  (pV N σ t0 9 3 (.int 0)).bind fun σ1 =>
  some (p1, σ1)
set_option maxHeartbeats 4000000 in
set_option maxRecDepth 100000 in
theorem ct_X9_good {l : Launch} {D : va_G} {cy : Nat → Nat} {N : Nat} {σ : Hp} {t0 : Nat} {p1 : Int32} {r : Int32 × Hp} (h : m_X9_good N σ t0 p1 = some r) : Ct l D cy yX9_good cX9_good 2 (some .int) 0 [.ref t0, .int p1] N σ (fun v s' => v = (some (.int r.1)) ∧ s' = r.2) := by
  refine Ct.intro [some (.ref t0), some (.int p1)] (by decide) rfl (Nat.le_of_ble_eq_true rfl) ?_
  intro κ ω e1 e2 e3 e4 C Z E
  subst e1; subst e2; subst e3; subst e4
  have C : Cx κ 2 0 cX9_good RX9 "good" := C
  have hE : ∀ x : Int32 × Hp, r = x → ((some (Value.int x.1)) = (some (Value.int r.1)) ∧ x.2 = r.2) := fun x hx => by subst hx; exact ⟨rfl, rfl⟩
  unfold m_X9_good at h
  obtain ⟨_, _, h⟩ := ob h
  refine x_aload_n C (i := 0) dX9_good_0 rfl rfl ?_
  refine x_iconst C (v := 0) dX9_good_1 (by decide) ?_
  obtain ⟨σ1, eσ1, h⟩ := ob h
  refine x_put C pl_X9_49 dX9_good_2 (fun _ => ⟨rfl, rfl⟩) eσ1 ?_
  refine x_iload_n C (i := 1) dX9_good_5 rfl rfl ?_
  exact x_iret C E dX9_good_6 (hE (p1, σ1) (Option.some.inj h).symm)
theorem dX9_isRow_0 : decode cX9_isRow 0 = .ok (.iload_n 0, 1) := by decide +kernel
theorem dX9_isRow_1 : decode cX9_isRow 1 = .ok (.i2l, 1) := by decide +kernel
theorem dX9_isRow_2 : decode cX9_isRow 2 = .ok (.lconst 0, 1) := by decide +kernel
theorem dX9_isRow_3 : decode cX9_isRow 3 = .ok (.ldc2_w 54, 3) := by decide +kernel
theorem dX9_isRow_6 : decode cX9_isRow 6 = .ok (.invokestatic 56, 3) := by decide +kernel
theorem dX9_isRow_9 : decode cX9_isRow 9 = .ok (.ireturn, 1) := by decide +kernel
def m_X9_isRow (p0 : Int32) : Option (Int32) :=
  (m_X9_in p0.toInt64 0 7).bind fun r1 =>
  (zb r1).bind fun u2 =>
  some r1
set_option maxHeartbeats 4000000 in
set_option maxRecDepth 100000 in
theorem ct_X9_isRow {l : Launch} {D : va_G} {cy : Nat → Nat} {N : Nat} {σ : Hp} {p0 : Int32} {r : Int32} (h : m_X9_isRow p0 = some r) : Ct l D cy yX9_isRow cX9_isRow 1 (some .boolean) 1 [.int p0] N σ (fun v s' => v = (some (.int r)) ∧ s' = σ) := by
  refine Ct.intro [some (.int p0)] (by decide) rfl (Nat.le_of_ble_eq_true rfl) ?_
  intro κ ω e1 e2 e3 e4 C Z E
  subst e1; subst e2; subst e3; subst e4
  have C : Cx κ 1 1 cX9_isRow RX9 "isRow" := C
  have hE : ∀ x : Int32, r = x → ((some (Value.int x)) = (some (Value.int r)) ∧ σ = σ) := fun x hx => by subst hx; exact ⟨rfl, rfl⟩
  unfold m_X9_isRow at h
  refine x_iload_n C (i := 0) dX9_isRow_0 rfl rfl ?_
  refine x_i2l C dX9_isRow_1 ?_
  refine x_lconst C (v := 0) dX9_isRow_2 (by decide) ?_
  refine x_ldc2 C kj_X9_54 dX9_isRow_3 ?_
  obtain ⟨r1, er1, h⟩ := ob h
  refine x_callSr C Z ms_X9_in lk_X9_56 (ct_X9_in (N := ω.1) (σ := σ) er1) (by decide) rfl rfl (Nat.le_of_ble_eq_true rfl) dX9_isRow_6 ?_
  obtain ⟨u2, eu2, h⟩ := ob h
  exact x_zret C E (zb_n eu2) dX9_isRow_9 (hE r1 (Option.some.inj h).symm)
theorem dX9_row_0 : decode cX9_row 0 = .ok (.iload_n 1, 1) := by decide +kernel
theorem dX9_row_1 : decode cX9_row 1 = .ok (.invokestatic 60, 3) := by decide +kernel
theorem dX9_row_4 : decode cX9_row 4 = .ok (.ifCond .eq 21, 3) := by decide +kernel
theorem dX9_row_7 : decode cX9_row 7 = .ok (.iload_n 2, 1) := by decide +kernel
theorem dX9_row_8 : decode cX9_row 8 = .ok (.i2l, 1) := by decide +kernel
theorem dX9_row_9 : decode cX9_row 9 = .ok (.lconst 0, 1) := by decide +kernel
theorem dX9_row_10 : decode cX9_row 10 = .ok (.ldc2_w 64, 3) := by decide +kernel
theorem dX9_row_13 : decode cX9_row 13 = .ok (.invokestatic 56, 3) := by decide +kernel
theorem dX9_row_16 : decode cX9_row 16 = .ok (.ifCond .eq 9, 3) := by decide +kernel
theorem dX9_row_19 : decode cX9_row 19 = .ok (.iload_n 3, 1) := by decide +kernel
theorem dX9_row_20 : decode cX9_row 20 = .ok (.bipush 40, 2) := by decide +kernel
theorem dX9_row_22 : decode cX9_row 22 = .ok (.if_icmp .le 6, 3) := by decide +kernel
theorem dX9_row_25 : decode cX9_row 25 = .ok (.ldc 66, 2) := by decide +kernel
theorem dX9_row_27 : decode cX9_row 27 = .ok (.ireturn, 1) := by decide +kernel
theorem dX9_row_28 : decode cX9_row 28 = .ok (.iload_n 3, 1) := by decide +kernel
theorem dX9_row_29 : decode cX9_row 29 = .ok (.ifCond .ge 9, 3) := by decide +kernel
theorem dX9_row_32 : decode cX9_row 32 = .ok (.aload_n 0, 1) := by decide +kernel
theorem dX9_row_33 : decode cX9_row 33 = .ok (.iconst 4, 1) := by decide +kernel
theorem dX9_row_34 : decode cX9_row 34 = .ok (.invokevirtual 67, 3) := by decide +kernel
theorem dX9_row_37 : decode cX9_row 37 = .ok (.ireturn, 1) := by decide +kernel
theorem dX9_row_38 : decode cX9_row 38 = .ok (.aload_n 0, 1) := by decide +kernel
theorem dX9_row_39 : decode cX9_row 39 = .ok (.getfield 13, 3) := by decide +kernel
theorem dX9_row_42 : decode cX9_row 42 = .ok (.iload_n 1, 1) := by decide +kernel
theorem dX9_row_43 : decode cX9_row 43 = .ok (.iload_n 2, 1) := by decide +kernel
theorem dX9_row_44 : decode cX9_row 44 = .ok (.iastore, 1) := by decide +kernel
theorem dX9_row_45 : decode cX9_row 45 = .ok (.aload_n 0, 1) := by decide +kernel
theorem dX9_row_46 : decode cX9_row 46 = .ok (.getfield 16, 3) := by decide +kernel
theorem dX9_row_49 : decode cX9_row 49 = .ok (.iload_n 1, 1) := by decide +kernel
theorem dX9_row_50 : decode cX9_row 50 = .ok (.iload_n 3, 1) := by decide +kernel
theorem dX9_row_51 : decode cX9_row 51 = .ok (.iastore, 1) := by decide +kernel
theorem dX9_row_52 : decode cX9_row 52 = .ok (.iconst 0, 1) := by decide +kernel
theorem dX9_row_53 : decode cX9_row 53 = .ok (.istore 4, 2) := by decide +kernel
theorem dX9_row_55 : decode cX9_row 55 = .ok (.iload 4, 2) := by decide +kernel
theorem dX9_row_57 : decode cX9_row 57 = .ok (.bipush 40, 2) := by decide +kernel
theorem dX9_row_59 : decode cX9_row 59 = .ok (.if_icmp .ge 22, 3) := by decide +kernel
theorem dX9_row_62 : decode cX9_row 62 = .ok (.aload_n 0, 1) := by decide +kernel
theorem dX9_row_63 : decode cX9_row 63 = .ok (.getfield 7, 3) := by decide +kernel
theorem dX9_row_66 : decode cX9_row 66 = .ok (.bipush 40, 2) := by decide +kernel
theorem dX9_row_68 : decode cX9_row 68 = .ok (.iload_n 1, 1) := by decide +kernel
theorem dX9_row_69 : decode cX9_row 69 = .ok (.imul, 1) := by decide +kernel
theorem dX9_row_70 : decode cX9_row 70 = .ok (.iload 4, 2) := by decide +kernel
theorem dX9_row_72 : decode cX9_row 72 = .ok (.iadd, 1) := by decide +kernel
theorem dX9_row_73 : decode cX9_row 73 = .ok (.iconst 0, 1) := by decide +kernel
theorem dX9_row_74 : decode cX9_row 74 = .ok (.iastore, 1) := by decide +kernel
theorem dX9_row_75 : decode cX9_row 75 = .ok (.iinc 4 1, 3) := by decide +kernel
theorem dX9_row_78 : decode cX9_row 78 = .ok (.goto (-23), 3) := by decide +kernel
theorem dX9_row_81 : decode cX9_row 81 = .ok (.aload_n 0, 1) := by decide +kernel
theorem dX9_row_82 : decode cX9_row 82 = .ok (.iload_n 3, 1) := by decide +kernel
theorem dX9_row_83 : decode cX9_row 83 = .ok (.invokevirtual 71, 3) := by decide +kernel
theorem dX9_row_86 : decode cX9_row 86 = .ok (.ireturn, 1) := by decide +kernel
def L_X9_row_55 (N : Nat) (v0 : Nat) (v1 : Int32) (v3 : Int32) : Nat → Hp → Int32 → Option (Hp)
  | 0, _, _ => none
  | n + 1, σ, v4 =>
  if 40 ≤ v4 then
   some σ
  else
   (gR N σ v0 9 0).bind fun x12 =>
  (sI 0 N σ x12 (((40 : Int32) * v1) + v4) 0).bind fun σ13 =>
  L_X9_row_55 N v0 v1 v3 n σ13 (v4 + 1)
def m_X9_row (N : Nat) (σ : Hp) (t0 : Nat) (p1 : Int32) (p2 : Int32) (p3 : Int32) : Option (Int32 × Hp) :=
  (rv N σ t0 9).bind fun _ =>
  (m_X9_isRow p1).bind fun r1 =>
  if r1 = 0 then
   some ((-1000001), σ)
  else
   (m_X9_in p2.toInt64 0 2).bind fun r3 =>
  if r3 = 0 then
   some ((-1000001), σ)
  else
   if p3 ≤ 40 then
   if 0 ≤ p3 then
   (gR N σ t0 9 1).bind fun x7 =>
  (sI 0 N σ x7 p1 p2).bind fun σ8 =>
  (gR N σ8 t0 9 2).bind fun x9 =>
  (sI 0 N σ8 x9 p1 p3).bind fun σ10 =>
  (L_X9_row_55 N t0 p1 p3 fu σ10 0).bind fun z14 =>
  (m_X9_good N z14 t0 p3).bind fun r15 =>
  some (r15.1, r15.2)
  else
   (m_X9_finds N σ t0 4).bind fun r16 =>
  some (r16.1, r16.2)
  else
   some ((-1000001), σ)
set_option maxHeartbeats 4000000 in
set_option maxRecDepth 100000 in
theorem lp_X9_row_55 {κ : Kx} {ω : Om} (C : Cx κ 5 2 cX9_row RX9 "row") (Z : Zx κ ω) (v0 : Nat) (v1 : Int32) (v3 : Int32) {r : Hp} (hk : X κ 5 ω 81 [some (.ref v0), none, none, some (.int v3), none] [] r) : ∀ (n : Nat) (σ : Hp) (v4 : Int32), L_X9_row_55 ω.1 v0 v1 v3 n σ v4 = some r → X κ 5 ω 55 [some (.ref v0), some (.int v1), none, some (.int v3), some (.int v4)] [] σ := by
  intro n
  induction n with
  | zero => intro σ v4 h; cases h
  | succ n ih =>
    intro σ v4 h
    rw [L_X9_row_55.eq_2] at h
    refine x_iload C (i := 4) dX9_row_55 rfl ?_
    refine x_bipush C (v := 40) dX9_row_57 (by decide) ?_
    refine x_icmp_ge C (tgt := 81) dX9_row_59 (by decide) (fun c11 => ?_) (fun c11 => ?_)
    · have h := ifP h c11
      refine x_wk [true, false, false, true, false] (lo' := [some (.ref v0), none, none, some (.int v3), none]) rfl ?_
      obtain rfl := Option.some.inj h
      exact hk
    · have h := ifN h c11
      refine x_aload_n C (i := 0) dX9_row_62 rfl rfl ?_
      obtain ⟨x12, ex12, h⟩ := ob h
      refine x_getR C fl_X9_7 dX9_row_63 ex12 ?_
      refine x_bipush C (v := 40) dX9_row_66 (by decide) ?_
      refine x_iload_n C (i := 1) dX9_row_68 rfl rfl ?_
      refine x_imul C dX9_row_69 ?_
      refine x_iload C (i := 4) dX9_row_70 rfl ?_
      refine x_iadd C dX9_row_72 ?_
      refine x_iconst C (v := 0) dX9_row_73 (by decide) ?_
      obtain ⟨σ13, eσ13, h⟩ := ob h
      refine x_iast C dX9_row_74 eσ13 ?_
      refine x_iinc C (i := 4) (y := v4 + 1) (lo' := [some (.ref v0), some (.int v1), none, some (.int v3), some (.int (v4 + 1))]) dX9_row_75 rfl rfl (by decide) rfl rfl ?_
      refine x_goto C (tgt := 55) dX9_row_78 (by decide) ?_
      refine x_wk [true, true, false, true, true] (lo' := [some (.ref v0), some (.int v1), none, some (.int v3), some (.int (v4 + 1))]) rfl ?_
      exact ih σ13 (v4 + 1) h
set_option maxHeartbeats 4000000 in
set_option maxRecDepth 100000 in
theorem ct_X9_row {l : Launch} {D : va_G} {cy : Nat → Nat} {N : Nat} {σ : Hp} {t0 : Nat} {p1 : Int32} {p2 : Int32} {p3 : Int32} {r : Int32 × Hp} (h : m_X9_row N σ t0 p1 p2 p3 = some r) : Ct l D cy yX9_row cX9_row 5 (some .int) 2 [.ref t0, .int p1, .int p2, .int p3] N σ (fun v s' => v = (some (.int r.1)) ∧ s' = r.2) := by
  refine Ct.intro [some (.ref t0), some (.int p1), some (.int p2), some (.int p3), none] (by decide) rfl (Nat.le_of_ble_eq_true rfl) ?_
  intro κ ω e1 e2 e3 e4 C Z E
  subst e1; subst e2; subst e3; subst e4
  have C : Cx κ 5 2 cX9_row RX9 "row" := C
  have hE : ∀ x : Int32 × Hp, r = x → ((some (Value.int x.1)) = (some (Value.int r.1)) ∧ x.2 = r.2) := fun x hx => by subst hx; exact ⟨rfl, rfl⟩
  unfold m_X9_row at h
  obtain ⟨_, _, h⟩ := ob h
  refine x_iload_n C (i := 1) dX9_row_0 rfl rfl ?_
  obtain ⟨r1, er1, h⟩ := ob h
  refine x_callSr C Z ms_X9_isRow lk_X9_60 (ct_X9_isRow (N := ω.1) (σ := σ) er1) (by decide) rfl rfl (Nat.le_of_ble_eq_true rfl) dX9_row_1 ?_
  refine x_if_eq C (tgt := 25) dX9_row_4 (by decide) (fun c2 => ?_) (fun c2 => ?_)
  · have h := ifP h c2
    refine x_ldc C kc_X9_66 dX9_row_25 ?_
    exact x_iret C E dX9_row_27 (hE ((-1000001), σ) (Option.some.inj h).symm)
  · have h := ifN h c2
    refine x_iload_n C (i := 2) dX9_row_7 rfl rfl ?_
    refine x_i2l C dX9_row_8 ?_
    refine x_lconst C (v := 0) dX9_row_9 (by decide) ?_
    refine x_ldc2 C kj_X9_64 dX9_row_10 ?_
    obtain ⟨r3, er3, h⟩ := ob h
    refine x_callSr C Z ms_X9_in lk_X9_56 (ct_X9_in (N := ω.1) (σ := σ) er3) (by decide) rfl rfl (Nat.le_of_ble_eq_true rfl) dX9_row_13 ?_
    refine x_if_eq C (tgt := 25) dX9_row_16 (by decide) (fun c4 => ?_) (fun c4 => ?_)
    · have h := ifP h c4
      refine x_ldc C kc_X9_66 dX9_row_25 ?_
      exact x_iret C E dX9_row_27 (hE ((-1000001), σ) (Option.some.inj h).symm)
    · have h := ifN h c4
      refine x_iload_n C (i := 3) dX9_row_19 rfl rfl ?_
      refine x_bipush C (v := 40) dX9_row_20 (by decide) ?_
      refine x_icmp_le C (tgt := 28) dX9_row_22 (by decide) (fun c5 => ?_) (fun c5 => ?_)
      · have h := ifP h c5
        refine x_iload_n C (i := 3) dX9_row_28 rfl rfl ?_
        refine x_if_ge C (tgt := 38) dX9_row_29 (by decide) (fun c6 => ?_) (fun c6 => ?_)
        · have h := ifP h c6
          refine x_aload_n C (i := 0) dX9_row_38 rfl rfl ?_
          obtain ⟨x7, ex7, h⟩ := ob h
          refine x_getR C fl_X9_13 dX9_row_39 ex7 ?_
          refine x_iload_n C (i := 1) dX9_row_42 rfl rfl ?_
          refine x_iload_n C (i := 2) dX9_row_43 rfl rfl ?_
          obtain ⟨σ8, eσ8, h⟩ := ob h
          refine x_iast C dX9_row_44 eσ8 ?_
          refine x_aload_n C (i := 0) dX9_row_45 rfl rfl ?_
          obtain ⟨x9, ex9, h⟩ := ob h
          refine x_getR C fl_X9_16 dX9_row_46 ex9 ?_
          refine x_iload_n C (i := 1) dX9_row_49 rfl rfl ?_
          refine x_iload_n C (i := 3) dX9_row_50 rfl rfl ?_
          obtain ⟨σ10, eσ10, h⟩ := ob h
          refine x_iast C dX9_row_51 eσ10 ?_
          refine x_iconst C (v := 0) dX9_row_52 (by decide) ?_
          refine x_istore C (i := 4) (lo' := [some (.ref t0), some (.int p1), some (.int p2), some (.int p3), some (.int 0)]) dX9_row_53 (by decide) rfl rfl ?_
          obtain ⟨z14, ez14, h⟩ := ob h
          refine x_wk [true, true, false, true, true] (lo' := [some (.ref t0), some (.int p1), none, some (.int p3), some (.int 0)]) rfl ?_
          refine lp_X9_row_55 C Z t0 p1 p3 ?_ _ σ10 0 ez14
          refine x_aload_n C (i := 0) dX9_row_81 rfl rfl ?_
          refine x_iload_n C (i := 3) dX9_row_82 rfl rfl ?_
          obtain ⟨r15, er15, h⟩ := ob h
          refine x_callVr C Z mv_X9_good lk_X9_71 (rv_h er15) (ct_X9_good er15) (by decide) rfl rfl (Nat.le_of_ble_eq_true rfl) dX9_row_83 ?_
          exact x_iret C E dX9_row_86 (hE (r15.1, r15.2) (Option.some.inj h).symm)
        · have h := ifN h c6
          refine x_aload_n C (i := 0) dX9_row_32 rfl rfl ?_
          refine x_iconst C (v := 4) dX9_row_33 (by decide) ?_
          obtain ⟨r16, er16, h⟩ := ob h
          refine x_callVr C Z mv_X9_finds lk_X9_67 (rv_h er16) (ct_X9_finds er16) (by decide) rfl rfl (Nat.le_of_ble_eq_true rfl) dX9_row_34 ?_
          exact x_iret C E dX9_row_37 (hE (r16.1, r16.2) (Option.some.inj h).symm)
      · have h := ifN h c5
        refine x_ldc C kc_X9_66 dX9_row_25 ?_
        exact x_iret C E dX9_row_27 (hE ((-1000001), σ) (Option.some.inj h).symm)
theorem dX9_cut_0 : decode cX9_cut 0 = .ok (.iload_n 0, 1) := by decide +kernel
theorem dX9_cut_1 : decode cX9_cut 1 = .ok (.ifCond .ne 13, 3) := by decide +kernel
theorem dX9_cut_4 : decode cX9_cut 4 = .ok (.iload_n 1, 1) := by decide +kernel
theorem dX9_cut_5 : decode cX9_cut 5 = .ok (.bipush 24, 2) := by decide +kernel
theorem dX9_cut_7 : decode cX9_cut 7 = .ok (.ishl, 1) := by decide +kernel
theorem dX9_cut_8 : decode cX9_cut 8 = .ok (.bipush 24, 2) := by decide +kernel
theorem dX9_cut_10 : decode cX9_cut 10 = .ok (.ishr, 1) := by decide +kernel
theorem dX9_cut_11 : decode cX9_cut 11 = .ok (.goto 19, 3) := by decide +kernel
theorem dX9_cut_14 : decode cX9_cut 14 = .ok (.iload_n 0, 1) := by decide +kernel
theorem dX9_cut_15 : decode cX9_cut 15 = .ok (.iconst 1, 1) := by decide +kernel
theorem dX9_cut_16 : decode cX9_cut 16 = .ok (.if_icmp .ne 13, 3) := by decide +kernel
theorem dX9_cut_19 : decode cX9_cut 19 = .ok (.iload_n 1, 1) := by decide +kernel
theorem dX9_cut_20 : decode cX9_cut 20 = .ok (.bipush 16, 2) := by decide +kernel
theorem dX9_cut_22 : decode cX9_cut 22 = .ok (.ishl, 1) := by decide +kernel
theorem dX9_cut_23 : decode cX9_cut 23 = .ok (.bipush 16, 2) := by decide +kernel
theorem dX9_cut_25 : decode cX9_cut 25 = .ok (.ishr, 1) := by decide +kernel
theorem dX9_cut_26 : decode cX9_cut 26 = .ok (.goto 4, 3) := by decide +kernel
theorem dX9_cut_29 : decode cX9_cut 29 = .ok (.iload_n 1, 1) := by decide +kernel
theorem dX9_cut_30 : decode cX9_cut 30 = .ok (.ireturn, 1) := by decide +kernel
def m_X9_cut (p0 : Int32) (p1 : Int32) : Option (Int32) :=
  if p0 = 0 then
   some ((p1 <<< (24 &&& 31)) >>> (24 &&& 31))
  else
   if p0 = 1 then
   some ((p1 <<< (16 &&& 31)) >>> (16 &&& 31))
  else
   some p1
set_option maxHeartbeats 4000000 in
set_option maxRecDepth 100000 in
theorem ct_X9_cut {l : Launch} {D : va_G} {cy : Nat → Nat} {N : Nat} {σ : Hp} {p0 : Int32} {p1 : Int32} {r : Int32} (h : m_X9_cut p0 p1 = some r) : Ct l D cy yX9_cut cX9_cut 2 (some .int) 0 [.int p0, .int p1] N σ (fun v s' => v = (some (.int r)) ∧ s' = σ) := by
  refine Ct.intro [some (.int p0), some (.int p1)] (by decide) rfl (Nat.le_of_ble_eq_true rfl) ?_
  intro κ ω e1 e2 e3 e4 C Z E
  subst e1; subst e2; subst e3; subst e4
  have C : Cx κ 2 0 cX9_cut RX9 "cut" := C
  have hE : ∀ x : Int32, r = x → ((some (Value.int x)) = (some (Value.int r)) ∧ σ = σ) := fun x hx => by subst hx; exact ⟨rfl, rfl⟩
  unfold m_X9_cut at h
  refine x_iload_n C (i := 0) dX9_cut_0 rfl rfl ?_
  refine x_if_ne C (tgt := 14) dX9_cut_1 (by decide) (fun c1 => ?_) (fun c1 => ?_)
  · have h := ifN h c1
    refine x_iload_n C (i := 0) dX9_cut_14 rfl rfl ?_
    refine x_iconst C (v := 1) dX9_cut_15 (by decide) ?_
    refine x_icmp_ne C (tgt := 29) dX9_cut_16 (by decide) (fun c2 => ?_) (fun c2 => ?_)
    · have h := ifN h c2
      refine x_iload_n C (i := 1) dX9_cut_29 rfl rfl ?_
      exact x_iret C E dX9_cut_30 (hE p1 (Option.some.inj h).symm)
    · have h := ifP h c2
      refine x_iload_n C (i := 1) dX9_cut_19 rfl rfl ?_
      refine x_bipush C (v := 16) dX9_cut_20 (by decide) ?_
      refine x_ishl C dX9_cut_22 ?_
      refine x_bipush C (v := 16) dX9_cut_23 (by decide) ?_
      refine x_ishr C dX9_cut_25 ?_
      refine x_goto C (tgt := 30) dX9_cut_26 (by decide) ?_
      exact x_iret C E dX9_cut_30 (hE ((p1 <<< (16 &&& 31)) >>> (16 &&& 31)) (Option.some.inj h).symm)
  · have h := ifP h c1
    refine x_iload_n C (i := 1) dX9_cut_4 rfl rfl ?_
    refine x_bipush C (v := 24) dX9_cut_5 (by decide) ?_
    refine x_ishl C dX9_cut_7 ?_
    refine x_bipush C (v := 24) dX9_cut_8 (by decide) ?_
    refine x_ishr C dX9_cut_10 ?_
    refine x_goto C (tgt := 30) dX9_cut_11 (by decide) ?_
    exact x_iret C E dX9_cut_30 (hE ((p1 <<< (24 &&& 31)) >>> (24 &&& 31)) (Option.some.inj h).symm)
theorem dX9_set_0 : decode cX9_set 0 = .ok (.iload_n 1, 1) := by decide +kernel
theorem dX9_set_1 : decode cX9_set 1 = .ok (.invokestatic 60, 3) := by decide +kernel
theorem dX9_set_4 : decode cX9_set 4 = .ok (.ifCond .ne 6, 3) := by decide +kernel
theorem dX9_set_7 : decode cX9_set 7 = .ok (.ldc 66, 2) := by decide +kernel
theorem dX9_set_9 : decode cX9_set 9 = .ok (.ireturn, 1) := by decide +kernel
theorem dX9_set_10 : decode cX9_set 10 = .ok (.aload_n 0, 1) := by decide +kernel
theorem dX9_set_11 : decode cX9_set 11 = .ok (.getfield 13, 3) := by decide +kernel
theorem dX9_set_14 : decode cX9_set 14 = .ok (.iload_n 1, 1) := by decide +kernel
theorem dX9_set_15 : decode cX9_set 15 = .ok (.iaload, 1) := by decide +kernel
theorem dX9_set_16 : decode cX9_set 16 = .ok (.ifCond .ge 9, 3) := by decide +kernel
theorem dX9_set_19 : decode cX9_set 19 = .ok (.aload_n 0, 1) := by decide +kernel
theorem dX9_set_20 : decode cX9_set 20 = .ok (.iconst 1, 1) := by decide +kernel
theorem dX9_set_21 : decode cX9_set 21 = .ok (.invokevirtual 67, 3) := by decide +kernel
theorem dX9_set_24 : decode cX9_set 24 = .ok (.ireturn, 1) := by decide +kernel
theorem dX9_set_25 : decode cX9_set 25 = .ok (.iload_n 2, 1) := by decide +kernel
theorem dX9_set_26 : decode cX9_set 26 = .ok (.i2l, 1) := by decide +kernel
theorem dX9_set_27 : decode cX9_set 27 = .ok (.lconst 0, 1) := by decide +kernel
theorem dX9_set_28 : decode cX9_set 28 = .ok (.aload_n 0, 1) := by decide +kernel
theorem dX9_set_29 : decode cX9_set 29 = .ok (.getfield 16, 3) := by decide +kernel
theorem dX9_set_32 : decode cX9_set 32 = .ok (.iload_n 1, 1) := by decide +kernel
theorem dX9_set_33 : decode cX9_set 33 = .ok (.iaload, 1) := by decide +kernel
theorem dX9_set_34 : decode cX9_set 34 = .ok (.iconst 1, 1) := by decide +kernel
theorem dX9_set_35 : decode cX9_set 35 = .ok (.isub, 1) := by decide +kernel
theorem dX9_set_36 : decode cX9_set 36 = .ok (.i2l, 1) := by decide +kernel
theorem dX9_set_37 : decode cX9_set 37 = .ok (.invokestatic 56, 3) := by decide +kernel
theorem dX9_set_40 : decode cX9_set 40 = .ok (.ifCond .ne 9, 3) := by decide +kernel
theorem dX9_set_43 : decode cX9_set 43 = .ok (.aload_n 0, 1) := by decide +kernel
theorem dX9_set_44 : decode cX9_set 44 = .ok (.iconst 2, 1) := by decide +kernel
theorem dX9_set_45 : decode cX9_set 45 = .ok (.invokevirtual 67, 3) := by decide +kernel
theorem dX9_set_48 : decode cX9_set 48 = .ok (.ireturn, 1) := by decide +kernel
theorem dX9_set_49 : decode cX9_set 49 = .ok (.aload_n 0, 1) := by decide +kernel
theorem dX9_set_50 : decode cX9_set 50 = .ok (.getfield 7, 3) := by decide +kernel
theorem dX9_set_53 : decode cX9_set 53 = .ok (.bipush 40, 2) := by decide +kernel
theorem dX9_set_55 : decode cX9_set 55 = .ok (.iload_n 1, 1) := by decide +kernel
theorem dX9_set_56 : decode cX9_set 56 = .ok (.imul, 1) := by decide +kernel
theorem dX9_set_57 : decode cX9_set 57 = .ok (.iload_n 2, 1) := by decide +kernel
theorem dX9_set_58 : decode cX9_set 58 = .ok (.iadd, 1) := by decide +kernel
theorem dX9_set_59 : decode cX9_set 59 = .ok (.aload_n 0, 1) := by decide +kernel
theorem dX9_set_60 : decode cX9_set 60 = .ok (.getfield 13, 3) := by decide +kernel
theorem dX9_set_63 : decode cX9_set 63 = .ok (.iload_n 1, 1) := by decide +kernel
theorem dX9_set_64 : decode cX9_set 64 = .ok (.iaload, 1) := by decide +kernel
theorem dX9_set_65 : decode cX9_set 65 = .ok (.iload_n 3, 1) := by decide +kernel
theorem dX9_set_66 : decode cX9_set 66 = .ok (.invokestatic 74, 3) := by decide +kernel
theorem dX9_set_69 : decode cX9_set 69 = .ok (.iastore, 1) := by decide +kernel
theorem dX9_set_70 : decode cX9_set 70 = .ok (.aload_n 0, 1) := by decide +kernel
theorem dX9_set_71 : decode cX9_set 71 = .ok (.aload_n 0, 1) := by decide +kernel
theorem dX9_set_72 : decode cX9_set 72 = .ok (.getfield 7, 3) := by decide +kernel
theorem dX9_set_75 : decode cX9_set 75 = .ok (.bipush 40, 2) := by decide +kernel
theorem dX9_set_77 : decode cX9_set 77 = .ok (.iload_n 1, 1) := by decide +kernel
theorem dX9_set_78 : decode cX9_set 78 = .ok (.imul, 1) := by decide +kernel
theorem dX9_set_79 : decode cX9_set 79 = .ok (.iload_n 2, 1) := by decide +kernel
theorem dX9_set_80 : decode cX9_set 80 = .ok (.iadd, 1) := by decide +kernel
theorem dX9_set_81 : decode cX9_set 81 = .ok (.iaload, 1) := by decide +kernel
theorem dX9_set_82 : decode cX9_set 82 = .ok (.invokevirtual 71, 3) := by decide +kernel
theorem dX9_set_85 : decode cX9_set 85 = .ok (.ireturn, 1) := by decide +kernel
def m_X9_set (N : Nat) (σ : Hp) (t0 : Nat) (p1 : Int32) (p2 : Int32) (p3 : Int32) : Option (Int32 × Hp) :=
  (rv N σ t0 9).bind fun _ =>
  (m_X9_isRow p1).bind fun r1 =>
  if r1 = 0 then
   some ((-1000001), σ)
  else
   (gR N σ t0 9 1).bind fun x3 =>
  (aI 0 N σ x3 p1).bind fun x4 =>
  if 0 ≤ x4 then
   (gR N σ t0 9 2).bind fun x6 =>
  (aI 0 N σ x6 p1).bind fun x7 =>
  (m_X9_in p2.toInt64 0 ((x7 - 1).toInt64)).bind fun r8 =>
  if r8 = 0 then
   (m_X9_finds N σ t0 2).bind fun r18 =>
  some (r18.1, r18.2)
  else
   (gR N σ t0 9 0).bind fun x10 =>
  (gR N σ t0 9 1).bind fun x11 =>
  (aI 0 N σ x11 p1).bind fun x12 =>
  (m_X9_cut x12 p3).bind fun r13 =>
  (sI 0 N σ x10 (((40 : Int32) * p1) + p2) r13).bind fun σ14 =>
  (gR N σ14 t0 9 0).bind fun x15 =>
  (aI 0 N σ14 x15 (((40 : Int32) * p1) + p2)).bind fun x16 =>
  (m_X9_good N σ14 t0 x16).bind fun r17 =>
  some (r17.1, r17.2)
  else
   (m_X9_finds N σ t0 1).bind fun r19 =>
  some (r19.1, r19.2)
set_option maxHeartbeats 4000000 in
set_option maxRecDepth 100000 in
theorem ct_X9_set {l : Launch} {D : va_G} {cy : Nat → Nat} {N : Nat} {σ : Hp} {t0 : Nat} {p1 : Int32} {p2 : Int32} {p3 : Int32} {r : Int32 × Hp} (h : m_X9_set N σ t0 p1 p2 p3 = some r) : Ct l D cy yX9_set cX9_set 4 (some .int) 2 [.ref t0, .int p1, .int p2, .int p3] N σ (fun v s' => v = (some (.int r.1)) ∧ s' = r.2) := by
  refine Ct.intro [some (.ref t0), some (.int p1), some (.int p2), some (.int p3)] (by decide) rfl (Nat.le_of_ble_eq_true rfl) ?_
  intro κ ω e1 e2 e3 e4 C Z E
  subst e1; subst e2; subst e3; subst e4
  have C : Cx κ 4 2 cX9_set RX9 "set" := C
  have hE : ∀ x : Int32 × Hp, r = x → ((some (Value.int x.1)) = (some (Value.int r.1)) ∧ x.2 = r.2) := fun x hx => by subst hx; exact ⟨rfl, rfl⟩
  unfold m_X9_set at h
  obtain ⟨_, _, h⟩ := ob h
  refine x_iload_n C (i := 1) dX9_set_0 rfl rfl ?_
  obtain ⟨r1, er1, h⟩ := ob h
  refine x_callSr C Z ms_X9_isRow lk_X9_60 (ct_X9_isRow (N := ω.1) (σ := σ) er1) (by decide) rfl rfl (Nat.le_of_ble_eq_true rfl) dX9_set_1 ?_
  refine x_if_ne C (tgt := 10) dX9_set_4 (by decide) (fun c2 => ?_) (fun c2 => ?_)
  · have h := ifN h c2
    refine x_aload_n C (i := 0) dX9_set_10 rfl rfl ?_
    obtain ⟨x3, ex3, h⟩ := ob h
    refine x_getR C fl_X9_13 dX9_set_11 ex3 ?_
    refine x_iload_n C (i := 1) dX9_set_14 rfl rfl ?_
    obtain ⟨x4, ex4, h⟩ := ob h
    refine x_iald C dX9_set_15 ex4 ?_
    refine x_if_ge C (tgt := 25) dX9_set_16 (by decide) (fun c5 => ?_) (fun c5 => ?_)
    · have h := ifP h c5
      refine x_iload_n C (i := 2) dX9_set_25 rfl rfl ?_
      refine x_i2l C dX9_set_26 ?_
      refine x_lconst C (v := 0) dX9_set_27 (by decide) ?_
      refine x_aload_n C (i := 0) dX9_set_28 rfl rfl ?_
      obtain ⟨x6, ex6, h⟩ := ob h
      refine x_getR C fl_X9_16 dX9_set_29 ex6 ?_
      refine x_iload_n C (i := 1) dX9_set_32 rfl rfl ?_
      obtain ⟨x7, ex7, h⟩ := ob h
      refine x_iald C dX9_set_33 ex7 ?_
      refine x_iconst C (v := 1) dX9_set_34 (by decide) ?_
      refine x_isub C dX9_set_35 ?_
      refine x_i2l C dX9_set_36 ?_
      obtain ⟨r8, er8, h⟩ := ob h
      refine x_callSr C Z ms_X9_in lk_X9_56 (ct_X9_in (N := ω.1) (σ := σ) er8) (by decide) rfl rfl (Nat.le_of_ble_eq_true rfl) dX9_set_37 ?_
      refine x_if_ne C (tgt := 49) dX9_set_40 (by decide) (fun c9 => ?_) (fun c9 => ?_)
      · have h := ifN h c9
        refine x_aload_n C (i := 0) dX9_set_49 rfl rfl ?_
        obtain ⟨x10, ex10, h⟩ := ob h
        refine x_getR C fl_X9_7 dX9_set_50 ex10 ?_
        refine x_bipush C (v := 40) dX9_set_53 (by decide) ?_
        refine x_iload_n C (i := 1) dX9_set_55 rfl rfl ?_
        refine x_imul C dX9_set_56 ?_
        refine x_iload_n C (i := 2) dX9_set_57 rfl rfl ?_
        refine x_iadd C dX9_set_58 ?_
        refine x_aload_n C (i := 0) dX9_set_59 rfl rfl ?_
        obtain ⟨x11, ex11, h⟩ := ob h
        refine x_getR C fl_X9_13 dX9_set_60 ex11 ?_
        refine x_iload_n C (i := 1) dX9_set_63 rfl rfl ?_
        obtain ⟨x12, ex12, h⟩ := ob h
        refine x_iald C dX9_set_64 ex12 ?_
        refine x_iload_n C (i := 3) dX9_set_65 rfl rfl ?_
        obtain ⟨r13, er13, h⟩ := ob h
        refine x_callSr C Z ms_X9_cut lk_X9_74 (ct_X9_cut (N := ω.1) (σ := σ) er13) (by decide) rfl rfl (Nat.le_of_ble_eq_true rfl) dX9_set_66 ?_
        obtain ⟨σ14, eσ14, h⟩ := ob h
        refine x_iast C dX9_set_69 eσ14 ?_
        refine x_aload_n C (i := 0) dX9_set_70 rfl rfl ?_
        refine x_aload_n C (i := 0) dX9_set_71 rfl rfl ?_
        obtain ⟨x15, ex15, h⟩ := ob h
        refine x_getR C fl_X9_7 dX9_set_72 ex15 ?_
        refine x_bipush C (v := 40) dX9_set_75 (by decide) ?_
        refine x_iload_n C (i := 1) dX9_set_77 rfl rfl ?_
        refine x_imul C dX9_set_78 ?_
        refine x_iload_n C (i := 2) dX9_set_79 rfl rfl ?_
        refine x_iadd C dX9_set_80 ?_
        obtain ⟨x16, ex16, h⟩ := ob h
        refine x_iald C dX9_set_81 ex16 ?_
        obtain ⟨r17, er17, h⟩ := ob h
        refine x_callVr C Z mv_X9_good lk_X9_71 (rv_h er17) (ct_X9_good er17) (by decide) rfl rfl (Nat.le_of_ble_eq_true rfl) dX9_set_82 ?_
        exact x_iret C E dX9_set_85 (hE (r17.1, r17.2) (Option.some.inj h).symm)
      · have h := ifP h c9
        refine x_aload_n C (i := 0) dX9_set_43 rfl rfl ?_
        refine x_iconst C (v := 2) dX9_set_44 (by decide) ?_
        obtain ⟨r18, er18, h⟩ := ob h
        refine x_callVr C Z mv_X9_finds lk_X9_67 (rv_h er18) (ct_X9_finds er18) (by decide) rfl rfl (Nat.le_of_ble_eq_true rfl) dX9_set_45 ?_
        exact x_iret C E dX9_set_48 (hE (r18.1, r18.2) (Option.some.inj h).symm)
    · have h := ifN h c5
      refine x_aload_n C (i := 0) dX9_set_19 rfl rfl ?_
      refine x_iconst C (v := 1) dX9_set_20 (by decide) ?_
      obtain ⟨r19, er19, h⟩ := ob h
      refine x_callVr C Z mv_X9_finds lk_X9_67 (rv_h er19) (ct_X9_finds er19) (by decide) rfl rfl (Nat.le_of_ble_eq_true rfl) dX9_set_21 ?_
      exact x_iret C E dX9_set_24 (hE (r19.1, r19.2) (Option.some.inj h).symm)
  · have h := ifP h c2
    refine x_ldc C kc_X9_66 dX9_set_7 ?_
    exact x_iret C E dX9_set_9 (hE ((-1000001), σ) (Option.some.inj h).symm)
theorem dX9_isWithin_0 : decode cX9_isWithin 0 = .ok (.iload_n 2, 1) := by decide +kernel
theorem dX9_isWithin_1 : decode cX9_isWithin 1 = .ok (.ifCond .lt 30, 3) := by decide +kernel
theorem dX9_isWithin_4 : decode cX9_isWithin 4 = .ok (.iload_n 3, 1) := by decide +kernel
theorem dX9_isWithin_5 : decode cX9_isWithin 5 = .ok (.ifCond .lt 26, 3) := by decide +kernel
theorem dX9_isWithin_8 : decode cX9_isWithin 8 = .ok (.iload_n 2, 1) := by decide +kernel
theorem dX9_isWithin_9 : decode cX9_isWithin 9 = .ok (.i2l, 1) := by decide +kernel
theorem dX9_isWithin_10 : decode cX9_isWithin 10 = .ok (.iload_n 3, 1) := by decide +kernel
theorem dX9_isWithin_11 : decode cX9_isWithin 11 = .ok (.i2l, 1) := by decide +kernel
theorem dX9_isWithin_12 : decode cX9_isWithin 12 = .ok (.ladd, 1) := by decide +kernel
theorem dX9_isWithin_13 : decode cX9_isWithin 13 = .ok (.lconst 0, 1) := by decide +kernel
theorem dX9_isWithin_14 : decode cX9_isWithin 14 = .ok (.aload_n 0, 1) := by decide +kernel
theorem dX9_isWithin_15 : decode cX9_isWithin 15 = .ok (.getfield 16, 3) := by decide +kernel
theorem dX9_isWithin_18 : decode cX9_isWithin 18 = .ok (.iload_n 1, 1) := by decide +kernel
theorem dX9_isWithin_19 : decode cX9_isWithin 19 = .ok (.iaload, 1) := by decide +kernel
theorem dX9_isWithin_20 : decode cX9_isWithin 20 = .ok (.i2l, 1) := by decide +kernel
theorem dX9_isWithin_21 : decode cX9_isWithin 21 = .ok (.invokestatic 56, 3) := by decide +kernel
theorem dX9_isWithin_24 : decode cX9_isWithin 24 = .ok (.ifCond .eq 7, 3) := by decide +kernel
theorem dX9_isWithin_27 : decode cX9_isWithin 27 = .ok (.iconst 1, 1) := by decide +kernel
theorem dX9_isWithin_28 : decode cX9_isWithin 28 = .ok (.goto 4, 3) := by decide +kernel
theorem dX9_isWithin_31 : decode cX9_isWithin 31 = .ok (.iconst 0, 1) := by decide +kernel
theorem dX9_isWithin_32 : decode cX9_isWithin 32 = .ok (.ireturn, 1) := by decide +kernel
def m_X9_isWithin (N : Nat) (σ : Hp) (t0 : Nat) (p1 : Int32) (p2 : Int32) (p3 : Int32) : Option (Int32) :=
  (rv N σ t0 9).bind fun _ =>
  if p2 < 0 then
   some 0
  else
   if p3 < 0 then
   some 0
  else
   (gR N σ t0 9 2).bind fun x3 =>
  (aI 0 N σ x3 p1).bind fun x4 =>
  (m_X9_in (p2.toInt64 + p3.toInt64) 0 x4.toInt64).bind fun r5 =>
  if r5 = 0 then
   some 0
  else
   some 1
set_option maxHeartbeats 4000000 in
set_option maxRecDepth 100000 in
theorem ct_X9_isWithin {l : Launch} {D : va_G} {cy : Nat → Nat} {N : Nat} {σ : Hp} {t0 : Nat} {p1 : Int32} {p2 : Int32} {p3 : Int32} {r : Int32} (h : m_X9_isWithin N σ t0 p1 p2 p3 = some r) : Ct l D cy yX9_isWithin cX9_isWithin 4 (some .boolean) 1 [.ref t0, .int p1, .int p2, .int p3] N σ (fun v s' => v = (some (.int r)) ∧ s' = σ) := by
  refine Ct.intro [some (.ref t0), some (.int p1), some (.int p2), some (.int p3)] (by decide) rfl (Nat.le_of_ble_eq_true rfl) ?_
  intro κ ω e1 e2 e3 e4 C Z E
  subst e1; subst e2; subst e3; subst e4
  have C : Cx κ 4 1 cX9_isWithin RX9 "isWithin" := C
  have hE : ∀ x : Int32, r = x → ((some (Value.int x)) = (some (Value.int r)) ∧ σ = σ) := fun x hx => by subst hx; exact ⟨rfl, rfl⟩
  unfold m_X9_isWithin at h
  obtain ⟨_, _, h⟩ := ob h
  refine x_iload_n C (i := 2) dX9_isWithin_0 rfl rfl ?_
  refine x_if_lt C (tgt := 31) dX9_isWithin_1 (by decide) (fun c1 => ?_) (fun c1 => ?_)
  · have h := ifP h c1
    refine x_iconst C (v := 0) dX9_isWithin_31 (by decide) ?_
    exact x_zret C E (by decide +kernel) dX9_isWithin_32 (hE 0 (Option.some.inj h).symm)
  · have h := ifN h c1
    refine x_iload_n C (i := 3) dX9_isWithin_4 rfl rfl ?_
    refine x_if_lt C (tgt := 31) dX9_isWithin_5 (by decide) (fun c2 => ?_) (fun c2 => ?_)
    · have h := ifP h c2
      refine x_iconst C (v := 0) dX9_isWithin_31 (by decide) ?_
      exact x_zret C E (by decide +kernel) dX9_isWithin_32 (hE 0 (Option.some.inj h).symm)
    · have h := ifN h c2
      refine x_iload_n C (i := 2) dX9_isWithin_8 rfl rfl ?_
      refine x_i2l C dX9_isWithin_9 ?_
      refine x_iload_n C (i := 3) dX9_isWithin_10 rfl rfl ?_
      refine x_i2l C dX9_isWithin_11 ?_
      refine x_ladd C dX9_isWithin_12 ?_
      refine x_lconst C (v := 0) dX9_isWithin_13 (by decide) ?_
      refine x_aload_n C (i := 0) dX9_isWithin_14 rfl rfl ?_
      obtain ⟨x3, ex3, h⟩ := ob h
      refine x_getR C fl_X9_16 dX9_isWithin_15 ex3 ?_
      refine x_iload_n C (i := 1) dX9_isWithin_18 rfl rfl ?_
      obtain ⟨x4, ex4, h⟩ := ob h
      refine x_iald C dX9_isWithin_19 ex4 ?_
      refine x_i2l C dX9_isWithin_20 ?_
      obtain ⟨r5, er5, h⟩ := ob h
      refine x_callSr C Z ms_X9_in lk_X9_56 (ct_X9_in (N := ω.1) (σ := σ) er5) (by decide) rfl rfl (Nat.le_of_ble_eq_true rfl) dX9_isWithin_21 ?_
      refine x_if_eq C (tgt := 31) dX9_isWithin_24 (by decide) (fun c6 => ?_) (fun c6 => ?_)
      · have h := ifP h c6
        refine x_iconst C (v := 0) dX9_isWithin_31 (by decide) ?_
        exact x_zret C E (by decide +kernel) dX9_isWithin_32 (hE 0 (Option.some.inj h).symm)
      · have h := ifN h c6
        refine x_iconst C (v := 1) dX9_isWithin_27 (by decide) ?_
        refine x_goto C (tgt := 32) dX9_isWithin_28 (by decide) ?_
        exact x_zret C E (by decide +kernel) dX9_isWithin_32 (hE 1 (Option.some.inj h).symm)
theorem dX9_copy_0 : decode cX9_copy 0 = .ok (.iload_n 1, 1) := by decide +kernel
theorem dX9_copy_1 : decode cX9_copy 1 = .ok (.invokestatic 60, 3) := by decide +kernel
theorem dX9_copy_4 : decode cX9_copy 4 = .ok (.ifCond .eq 10, 3) := by decide +kernel
theorem dX9_copy_7 : decode cX9_copy 7 = .ok (.iload_n 3, 1) := by decide +kernel
theorem dX9_copy_8 : decode cX9_copy 8 = .ok (.invokestatic 60, 3) := by decide +kernel
theorem dX9_copy_11 : decode cX9_copy 11 = .ok (.ifCond .ne 6, 3) := by decide +kernel
theorem dX9_copy_14 : decode cX9_copy 14 = .ok (.ldc 66, 2) := by decide +kernel
theorem dX9_copy_16 : decode cX9_copy 16 = .ok (.ireturn, 1) := by decide +kernel
theorem dX9_copy_17 : decode cX9_copy 17 = .ok (.aload_n 0, 1) := by decide +kernel
theorem dX9_copy_18 : decode cX9_copy 18 = .ok (.getfield 13, 3) := by decide +kernel
theorem dX9_copy_21 : decode cX9_copy 21 = .ok (.iload_n 1, 1) := by decide +kernel
theorem dX9_copy_22 : decode cX9_copy 22 = .ok (.iaload, 1) := by decide +kernel
theorem dX9_copy_23 : decode cX9_copy 23 = .ok (.ifCond .lt 12, 3) := by decide +kernel
theorem dX9_copy_26 : decode cX9_copy 26 = .ok (.aload_n 0, 1) := by decide +kernel
theorem dX9_copy_27 : decode cX9_copy 27 = .ok (.getfield 13, 3) := by decide +kernel
theorem dX9_copy_30 : decode cX9_copy 30 = .ok (.iload_n 3, 1) := by decide +kernel
theorem dX9_copy_31 : decode cX9_copy 31 = .ok (.iaload, 1) := by decide +kernel
theorem dX9_copy_32 : decode cX9_copy 32 = .ok (.ifCond .ge 9, 3) := by decide +kernel
theorem dX9_copy_35 : decode cX9_copy 35 = .ok (.aload_n 0, 1) := by decide +kernel
theorem dX9_copy_36 : decode cX9_copy 36 = .ok (.iconst 1, 1) := by decide +kernel
theorem dX9_copy_37 : decode cX9_copy 37 = .ok (.invokevirtual 67, 3) := by decide +kernel
theorem dX9_copy_40 : decode cX9_copy 40 = .ok (.ireturn, 1) := by decide +kernel
theorem dX9_copy_41 : decode cX9_copy 41 = .ok (.aload_n 0, 1) := by decide +kernel
theorem dX9_copy_42 : decode cX9_copy 42 = .ok (.getfield 13, 3) := by decide +kernel
theorem dX9_copy_45 : decode cX9_copy 45 = .ok (.iload_n 1, 1) := by decide +kernel
theorem dX9_copy_46 : decode cX9_copy 46 = .ok (.iaload, 1) := by decide +kernel
theorem dX9_copy_47 : decode cX9_copy 47 = .ok (.aload_n 0, 1) := by decide +kernel
theorem dX9_copy_48 : decode cX9_copy 48 = .ok (.getfield 13, 3) := by decide +kernel
theorem dX9_copy_51 : decode cX9_copy 51 = .ok (.iload_n 3, 1) := by decide +kernel
theorem dX9_copy_52 : decode cX9_copy 52 = .ok (.iaload, 1) := by decide +kernel
theorem dX9_copy_53 : decode cX9_copy 53 = .ok (.if_icmp .eq 9, 3) := by decide +kernel
theorem dX9_copy_56 : decode cX9_copy 56 = .ok (.aload_n 0, 1) := by decide +kernel
theorem dX9_copy_57 : decode cX9_copy 57 = .ok (.iconst 5, 1) := by decide +kernel
theorem dX9_copy_58 : decode cX9_copy 58 = .ok (.invokevirtual 67, 3) := by decide +kernel
theorem dX9_copy_61 : decode cX9_copy 61 = .ok (.ireturn, 1) := by decide +kernel
theorem dX9_copy_62 : decode cX9_copy 62 = .ok (.aload_n 0, 1) := by decide +kernel
theorem dX9_copy_63 : decode cX9_copy 63 = .ok (.iload_n 1, 1) := by decide +kernel
theorem dX9_copy_64 : decode cX9_copy 64 = .ok (.iload_n 2, 1) := by decide +kernel
theorem dX9_copy_65 : decode cX9_copy 65 = .ok (.iload 5, 2) := by decide +kernel
theorem dX9_copy_67 : decode cX9_copy 67 = .ok (.invokevirtual 78, 3) := by decide +kernel
theorem dX9_copy_70 : decode cX9_copy 70 = .ok (.ifCond .eq 15, 3) := by decide +kernel
theorem dX9_copy_73 : decode cX9_copy 73 = .ok (.aload_n 0, 1) := by decide +kernel
theorem dX9_copy_74 : decode cX9_copy 74 = .ok (.iload_n 3, 1) := by decide +kernel
theorem dX9_copy_75 : decode cX9_copy 75 = .ok (.iload 4, 2) := by decide +kernel
theorem dX9_copy_77 : decode cX9_copy 77 = .ok (.iload 5, 2) := by decide +kernel
theorem dX9_copy_79 : decode cX9_copy 79 = .ok (.invokevirtual 78, 3) := by decide +kernel
theorem dX9_copy_82 : decode cX9_copy 82 = .ok (.ifCond .ne 9, 3) := by decide +kernel
theorem dX9_copy_85 : decode cX9_copy 85 = .ok (.aload_n 0, 1) := by decide +kernel
theorem dX9_copy_86 : decode cX9_copy 86 = .ok (.iconst 2, 1) := by decide +kernel
theorem dX9_copy_87 : decode cX9_copy 87 = .ok (.invokevirtual 67, 3) := by decide +kernel
theorem dX9_copy_90 : decode cX9_copy 90 = .ok (.ireturn, 1) := by decide +kernel
theorem dX9_copy_91 : decode cX9_copy 91 = .ok (.iload 4, 2) := by decide +kernel
theorem dX9_copy_93 : decode cX9_copy 93 = .ok (.iload_n 2, 1) := by decide +kernel
theorem dX9_copy_94 : decode cX9_copy 94 = .ok (.if_icmp .ge 7, 3) := by decide +kernel
theorem dX9_copy_97 : decode cX9_copy 97 = .ok (.iconst 1, 1) := by decide +kernel
theorem dX9_copy_98 : decode cX9_copy 98 = .ok (.goto 4, 3) := by decide +kernel
theorem dX9_copy_101 : decode cX9_copy 101 = .ok (.iconst 0, 1) := by decide +kernel
theorem dX9_copy_102 : decode cX9_copy 102 = .ok (.istore 6, 2) := by decide +kernel
theorem dX9_copy_104 : decode cX9_copy 104 = .ok (.iconst 0, 1) := by decide +kernel
theorem dX9_copy_105 : decode cX9_copy 105 = .ok (.istore 7, 2) := by decide +kernel
theorem dX9_copy_107 : decode cX9_copy 107 = .ok (.iload 7, 2) := by decide +kernel
theorem dX9_copy_109 : decode cX9_copy 109 = .ok (.iload 5, 2) := by decide +kernel
theorem dX9_copy_111 : decode cX9_copy 111 = .ok (.if_icmp .ge 57, 3) := by decide +kernel
theorem dX9_copy_114 : decode cX9_copy 114 = .ok (.iload 6, 2) := by decide +kernel
theorem dX9_copy_116 : decode cX9_copy 116 = .ok (.ifCond .eq 8, 3) := by decide +kernel
theorem dX9_copy_119 : decode cX9_copy 119 = .ok (.iload 7, 2) := by decide +kernel
theorem dX9_copy_121 : decode cX9_copy 121 = .ok (.goto 10, 3) := by decide +kernel
theorem dX9_copy_124 : decode cX9_copy 124 = .ok (.iload 5, 2) := by decide +kernel
theorem dX9_copy_126 : decode cX9_copy 126 = .ok (.iconst 1, 1) := by decide +kernel
theorem dX9_copy_127 : decode cX9_copy 127 = .ok (.isub, 1) := by decide +kernel
theorem dX9_copy_128 : decode cX9_copy 128 = .ok (.iload 7, 2) := by decide +kernel
theorem dX9_copy_130 : decode cX9_copy 130 = .ok (.isub, 1) := by decide +kernel
theorem dX9_copy_131 : decode cX9_copy 131 = .ok (.istore 8, 2) := by decide +kernel
theorem dX9_copy_133 : decode cX9_copy 133 = .ok (.aload_n 0, 1) := by decide +kernel
theorem dX9_copy_134 : decode cX9_copy 134 = .ok (.getfield 7, 3) := by decide +kernel
theorem dX9_copy_137 : decode cX9_copy 137 = .ok (.bipush 40, 2) := by decide +kernel
theorem dX9_copy_139 : decode cX9_copy 139 = .ok (.iload_n 3, 1) := by decide +kernel
theorem dX9_copy_140 : decode cX9_copy 140 = .ok (.imul, 1) := by decide +kernel
theorem dX9_copy_141 : decode cX9_copy 141 = .ok (.iload 4, 2) := by decide +kernel
theorem dX9_copy_143 : decode cX9_copy 143 = .ok (.iadd, 1) := by decide +kernel
theorem dX9_copy_144 : decode cX9_copy 144 = .ok (.iload 8, 2) := by decide +kernel
theorem dX9_copy_146 : decode cX9_copy 146 = .ok (.iadd, 1) := by decide +kernel
theorem dX9_copy_147 : decode cX9_copy 147 = .ok (.aload_n 0, 1) := by decide +kernel
theorem dX9_copy_148 : decode cX9_copy 148 = .ok (.getfield 7, 3) := by decide +kernel
theorem dX9_copy_151 : decode cX9_copy 151 = .ok (.bipush 40, 2) := by decide +kernel
theorem dX9_copy_153 : decode cX9_copy 153 = .ok (.iload_n 1, 1) := by decide +kernel
theorem dX9_copy_154 : decode cX9_copy 154 = .ok (.imul, 1) := by decide +kernel
theorem dX9_copy_155 : decode cX9_copy 155 = .ok (.iload_n 2, 1) := by decide +kernel
theorem dX9_copy_156 : decode cX9_copy 156 = .ok (.iadd, 1) := by decide +kernel
theorem dX9_copy_157 : decode cX9_copy 157 = .ok (.iload 8, 2) := by decide +kernel
theorem dX9_copy_159 : decode cX9_copy 159 = .ok (.iadd, 1) := by decide +kernel
theorem dX9_copy_160 : decode cX9_copy 160 = .ok (.iaload, 1) := by decide +kernel
theorem dX9_copy_161 : decode cX9_copy 161 = .ok (.iastore, 1) := by decide +kernel
theorem dX9_copy_162 : decode cX9_copy 162 = .ok (.iinc 7 1, 3) := by decide +kernel
theorem dX9_copy_165 : decode cX9_copy 165 = .ok (.goto (-58), 3) := by decide +kernel
theorem dX9_copy_168 : decode cX9_copy 168 = .ok (.aload_n 0, 1) := by decide +kernel
theorem dX9_copy_169 : decode cX9_copy 169 = .ok (.iload 5, 2) := by decide +kernel
theorem dX9_copy_171 : decode cX9_copy 171 = .ok (.invokevirtual 71, 3) := by decide +kernel
theorem dX9_copy_174 : decode cX9_copy 174 = .ok (.ireturn, 1) := by decide +kernel
def L_X9_copy_107 (N : Nat) (v0 : Nat) (v1 : Int32) (v2 : Int32) (v3 : Int32) (v4 : Int32) (v5 : Int32) (v6 : Int32) : Nat → Hp → Int32 → Option (Hp)
  | 0, _, _ => none
  | n + 1, σ, v7 =>
  if v5 ≤ v7 then
   some σ
  else
   ((if v6 = 0 then
   some ((v5 - 1) - v7)
  else
   some v7) : Option (Int32)).bind fun z24 =>
  (gR N σ v0 9 0).bind fun x25 =>
  (gR N σ v0 9 0).bind fun x26 =>
  (aI 0 N σ x26 ((((40 : Int32) * v1) + v2) + z24)).bind fun x27 =>
  (sI 0 N σ x25 ((((40 : Int32) * v3) + v4) + z24) x27).bind fun σ28 =>
  L_X9_copy_107 N v0 v1 v2 v3 v4 v5 v6 n σ28 (v7 + 1)
def m_X9_copy (N : Nat) (σ : Hp) (t0 : Nat) (p1 : Int32) (p2 : Int32) (p3 : Int32) (p4 : Int32) (p5 : Int32) : Option (Int32 × Hp) :=
  (rv N σ t0 9).bind fun _ =>
  (m_X9_isRow p1).bind fun r1 =>
  if r1 = 0 then
   some ((-1000001), σ)
  else
   (m_X9_isRow p3).bind fun r3 =>
  if r3 = 0 then
   some ((-1000001), σ)
  else
   (gR N σ t0 9 1).bind fun x5 =>
  (aI 0 N σ x5 p1).bind fun x6 =>
  if x6 < 0 then
   (m_X9_finds N σ t0 1).bind fun r8 =>
  some (r8.1, r8.2)
  else
   (gR N σ t0 9 1).bind fun x9 =>
  (aI 0 N σ x9 p3).bind fun x10 =>
  if 0 ≤ x10 then
   (gR N σ t0 9 1).bind fun x12 =>
  (aI 0 N σ x12 p1).bind fun x13 =>
  (gR N σ t0 9 1).bind fun x14 =>
  (aI 0 N σ x14 p3).bind fun x15 =>
  if x13 = x15 then
   (m_X9_isWithin N σ t0 p1 p2 p5).bind fun r17 =>
  if r17 = 0 then
   (m_X9_finds N σ t0 2).bind fun r19 =>
  some (r19.1, r19.2)
  else
   (m_X9_isWithin N σ t0 p3 p4 p5).bind fun r20 =>
  if r20 = 0 then
   (m_X9_finds N σ t0 2).bind fun r37 =>
  some (r37.1, r37.2)
  else
   ((if p2 ≤ p4 then
   some 0
  else
   some 1) : Option (Int32)).bind fun z22 =>
  (L_X9_copy_107 N t0 p1 p2 p3 p4 p5 z22 fu σ 0).bind fun z32 =>
  (m_X9_good N z32 t0 p5).bind fun r33 =>
  some (r33.1, r33.2)
  else
   (m_X9_finds N σ t0 5).bind fun r38 =>
  some (r38.1, r38.2)
  else
   (m_X9_finds N σ t0 1).bind fun r39 =>
  some (r39.1, r39.2)
set_option maxHeartbeats 4000000 in
set_option maxRecDepth 100000 in
theorem lp_X9_copy_107 {κ : Kx} {ω : Om} (C : Cx κ 9 2 cX9_copy RX9 "copy") (Z : Zx κ ω) (v0 : Nat) (v1 : Int32) (v2 : Int32) (v3 : Int32) (v4 : Int32) (v5 : Int32) (v6 : Int32) {r : Hp} (hk : X κ 9 ω 168 [some (.ref v0), none, none, none, none, some (.int v5), none, none, none] [] r) : ∀ (n : Nat) (σ : Hp) (v7 : Int32), L_X9_copy_107 ω.1 v0 v1 v2 v3 v4 v5 v6 n σ v7 = some r → X κ 9 ω 107 [some (.ref v0), some (.int v1), some (.int v2), some (.int v3), some (.int v4), some (.int v5), some (.int v6), some (.int v7), none] [] σ := by
  intro n
  induction n with
  | zero => intro σ v7 h; cases h
  | succ n ih =>
    intro σ v7 h
    rw [L_X9_copy_107.eq_2] at h
    refine x_iload C (i := 7) dX9_copy_107 rfl ?_
    refine x_iload C (i := 5) dX9_copy_109 rfl ?_
    refine x_icmp_ge C (tgt := 168) dX9_copy_111 (by decide) (fun c23 => ?_) (fun c23 => ?_)
    · have h := ifP h c23
      refine x_wk [true, false, false, false, false, true, false, false, false] (lo' := [some (.ref v0), none, none, none, none, some (.int v5), none, none, none]) rfl ?_
      obtain rfl := Option.some.inj h
      exact hk
    · have h := ifN h c23
      refine x_iload C (i := 6) dX9_copy_114 rfl ?_
      obtain ⟨z24, hz24, h⟩ := ob h
      have hJ29 : X κ 9 ω 131 [some (.ref v0), some (.int v1), some (.int v2), some (.int v3), some (.int v4), some (.int v5), some (.int v6), some (.int v7), none] [.int z24] σ := by
        refine x_istore C (i := 8) (lo' := [some (.ref v0), some (.int v1), some (.int v2), some (.int v3), some (.int v4), some (.int v5), some (.int v6), some (.int v7), some (.int z24)]) dX9_copy_131 (by decide) rfl rfl ?_
        refine x_aload_n C (i := 0) dX9_copy_133 rfl rfl ?_
        obtain ⟨x25, ex25, h⟩ := ob h
        refine x_getR C fl_X9_7 dX9_copy_134 ex25 ?_
        refine x_bipush C (v := 40) dX9_copy_137 (by decide) ?_
        refine x_iload_n C (i := 3) dX9_copy_139 rfl rfl ?_
        refine x_imul C dX9_copy_140 ?_
        refine x_iload C (i := 4) dX9_copy_141 rfl ?_
        refine x_iadd C dX9_copy_143 ?_
        refine x_iload C (i := 8) dX9_copy_144 rfl ?_
        refine x_iadd C dX9_copy_146 ?_
        refine x_aload_n C (i := 0) dX9_copy_147 rfl rfl ?_
        obtain ⟨x26, ex26, h⟩ := ob h
        refine x_getR C fl_X9_7 dX9_copy_148 ex26 ?_
        refine x_bipush C (v := 40) dX9_copy_151 (by decide) ?_
        refine x_iload_n C (i := 1) dX9_copy_153 rfl rfl ?_
        refine x_imul C dX9_copy_154 ?_
        refine x_iload_n C (i := 2) dX9_copy_155 rfl rfl ?_
        refine x_iadd C dX9_copy_156 ?_
        refine x_iload C (i := 8) dX9_copy_157 rfl ?_
        refine x_iadd C dX9_copy_159 ?_
        obtain ⟨x27, ex27, h⟩ := ob h
        refine x_iald C dX9_copy_160 ex27 ?_
        obtain ⟨σ28, eσ28, h⟩ := ob h
        refine x_iast C dX9_copy_161 eσ28 ?_
        refine x_iinc C (i := 7) (y := v7 + 1) (lo' := [some (.ref v0), some (.int v1), some (.int v2), some (.int v3), some (.int v4), some (.int v5), some (.int v6), some (.int (v7 + 1)), some (.int z24)]) dX9_copy_162 rfl rfl (by decide) rfl rfl ?_
        refine x_goto C (tgt := 107) dX9_copy_165 (by decide) ?_
        refine x_wk [true, true, true, true, true, true, true, true, false] (lo' := [some (.ref v0), some (.int v1), some (.int v2), some (.int v3), some (.int v4), some (.int v5), some (.int v6), some (.int (v7 + 1)), none]) rfl ?_
        exact ih σ28 (v7 + 1) h
      clear h
      have h := hz24
      refine x_if_eq C (tgt := 124) dX9_copy_116 (by decide) (fun c31 => ?_) (fun c31 => ?_)
      · have h := ifP h c31
        refine x_iload C (i := 5) dX9_copy_124 rfl ?_
        refine x_iconst C (v := 1) dX9_copy_126 (by decide) ?_
        refine x_isub C dX9_copy_127 ?_
        refine x_iload C (i := 7) dX9_copy_128 rfl ?_
        refine x_isub C dX9_copy_130 ?_
        refine x_wk [true, true, true, true, true, true, true, true, false] (lo' := [some (.ref v0), some (.int v1), some (.int v2), some (.int v3), some (.int v4), some (.int v5), some (.int v6), some (.int v7), none]) rfl ?_
        obtain rfl := Option.some.inj h
        exact hJ29
      · have h := ifN h c31
        refine x_iload C (i := 7) dX9_copy_119 rfl ?_
        refine x_goto C (tgt := 131) dX9_copy_121 (by decide) ?_
        refine x_wk [true, true, true, true, true, true, true, true, false] (lo' := [some (.ref v0), some (.int v1), some (.int v2), some (.int v3), some (.int v4), some (.int v5), some (.int v6), some (.int v7), none]) rfl ?_
        obtain rfl := Option.some.inj h
        exact hJ29
set_option maxHeartbeats 4000000 in
set_option maxRecDepth 100000 in
theorem ct_X9_copy {l : Launch} {D : va_G} {cy : Nat → Nat} {N : Nat} {σ : Hp} {t0 : Nat} {p1 : Int32} {p2 : Int32} {p3 : Int32} {p4 : Int32} {p5 : Int32} {r : Int32 × Hp} (h : m_X9_copy N σ t0 p1 p2 p3 p4 p5 = some r) : Ct l D cy yX9_copy cX9_copy 9 (some .int) 2 [.ref t0, .int p1, .int p2, .int p3, .int p4, .int p5] N σ (fun v s' => v = (some (.int r.1)) ∧ s' = r.2) := by
  refine Ct.intro [some (.ref t0), some (.int p1), some (.int p2), some (.int p3), some (.int p4), some (.int p5), none, none, none] (by decide) rfl (Nat.le_of_ble_eq_true rfl) ?_
  intro κ ω e1 e2 e3 e4 C Z E
  subst e1; subst e2; subst e3; subst e4
  have C : Cx κ 9 2 cX9_copy RX9 "copy" := C
  have hE : ∀ x : Int32 × Hp, r = x → ((some (Value.int x.1)) = (some (Value.int r.1)) ∧ x.2 = r.2) := fun x hx => by subst hx; exact ⟨rfl, rfl⟩
  unfold m_X9_copy at h
  obtain ⟨_, _, h⟩ := ob h
  refine x_iload_n C (i := 1) dX9_copy_0 rfl rfl ?_
  obtain ⟨r1, er1, h⟩ := ob h
  refine x_callSr C Z ms_X9_isRow lk_X9_60 (ct_X9_isRow (N := ω.1) (σ := σ) er1) (by decide) rfl rfl (Nat.le_of_ble_eq_true rfl) dX9_copy_1 ?_
  refine x_if_eq C (tgt := 14) dX9_copy_4 (by decide) (fun c2 => ?_) (fun c2 => ?_)
  · have h := ifP h c2
    refine x_ldc C kc_X9_66 dX9_copy_14 ?_
    exact x_iret C E dX9_copy_16 (hE ((-1000001), σ) (Option.some.inj h).symm)
  · have h := ifN h c2
    refine x_iload_n C (i := 3) dX9_copy_7 rfl rfl ?_
    obtain ⟨r3, er3, h⟩ := ob h
    refine x_callSr C Z ms_X9_isRow lk_X9_60 (ct_X9_isRow (N := ω.1) (σ := σ) er3) (by decide) rfl rfl (Nat.le_of_ble_eq_true rfl) dX9_copy_8 ?_
    refine x_if_ne C (tgt := 17) dX9_copy_11 (by decide) (fun c4 => ?_) (fun c4 => ?_)
    · have h := ifN h c4
      refine x_aload_n C (i := 0) dX9_copy_17 rfl rfl ?_
      obtain ⟨x5, ex5, h⟩ := ob h
      refine x_getR C fl_X9_13 dX9_copy_18 ex5 ?_
      refine x_iload_n C (i := 1) dX9_copy_21 rfl rfl ?_
      obtain ⟨x6, ex6, h⟩ := ob h
      refine x_iald C dX9_copy_22 ex6 ?_
      refine x_if_lt C (tgt := 35) dX9_copy_23 (by decide) (fun c7 => ?_) (fun c7 => ?_)
      · have h := ifP h c7
        refine x_aload_n C (i := 0) dX9_copy_35 rfl rfl ?_
        refine x_iconst C (v := 1) dX9_copy_36 (by decide) ?_
        obtain ⟨r8, er8, h⟩ := ob h
        refine x_callVr C Z mv_X9_finds lk_X9_67 (rv_h er8) (ct_X9_finds er8) (by decide) rfl rfl (Nat.le_of_ble_eq_true rfl) dX9_copy_37 ?_
        exact x_iret C E dX9_copy_40 (hE (r8.1, r8.2) (Option.some.inj h).symm)
      · have h := ifN h c7
        refine x_aload_n C (i := 0) dX9_copy_26 rfl rfl ?_
        obtain ⟨x9, ex9, h⟩ := ob h
        refine x_getR C fl_X9_13 dX9_copy_27 ex9 ?_
        refine x_iload_n C (i := 3) dX9_copy_30 rfl rfl ?_
        obtain ⟨x10, ex10, h⟩ := ob h
        refine x_iald C dX9_copy_31 ex10 ?_
        refine x_if_ge C (tgt := 41) dX9_copy_32 (by decide) (fun c11 => ?_) (fun c11 => ?_)
        · have h := ifP h c11
          refine x_aload_n C (i := 0) dX9_copy_41 rfl rfl ?_
          obtain ⟨x12, ex12, h⟩ := ob h
          refine x_getR C fl_X9_13 dX9_copy_42 ex12 ?_
          refine x_iload_n C (i := 1) dX9_copy_45 rfl rfl ?_
          obtain ⟨x13, ex13, h⟩ := ob h
          refine x_iald C dX9_copy_46 ex13 ?_
          refine x_aload_n C (i := 0) dX9_copy_47 rfl rfl ?_
          obtain ⟨x14, ex14, h⟩ := ob h
          refine x_getR C fl_X9_13 dX9_copy_48 ex14 ?_
          refine x_iload_n C (i := 3) dX9_copy_51 rfl rfl ?_
          obtain ⟨x15, ex15, h⟩ := ob h
          refine x_iald C dX9_copy_52 ex15 ?_
          refine x_icmp_eq C (tgt := 62) dX9_copy_53 (by decide) (fun c16 => ?_) (fun c16 => ?_)
          · have h := ifP h c16
            refine x_aload_n C (i := 0) dX9_copy_62 rfl rfl ?_
            refine x_iload_n C (i := 1) dX9_copy_63 rfl rfl ?_
            refine x_iload_n C (i := 2) dX9_copy_64 rfl rfl ?_
            refine x_iload C (i := 5) dX9_copy_65 rfl ?_
            obtain ⟨r17, er17, h⟩ := ob h
            refine x_callVr C Z mv_X9_isWithin lk_X9_78 (rv_h er17) (ct_X9_isWithin er17) (by decide) rfl rfl (Nat.le_of_ble_eq_true rfl) dX9_copy_67 ?_
            refine x_if_eq C (tgt := 85) dX9_copy_70 (by decide) (fun c18 => ?_) (fun c18 => ?_)
            · have h := ifP h c18
              refine x_aload_n C (i := 0) dX9_copy_85 rfl rfl ?_
              refine x_iconst C (v := 2) dX9_copy_86 (by decide) ?_
              obtain ⟨r19, er19, h⟩ := ob h
              refine x_callVr C Z mv_X9_finds lk_X9_67 (rv_h er19) (ct_X9_finds er19) (by decide) rfl rfl (Nat.le_of_ble_eq_true rfl) dX9_copy_87 ?_
              exact x_iret C E dX9_copy_90 (hE (r19.1, r19.2) (Option.some.inj h).symm)
            · have h := ifN h c18
              refine x_aload_n C (i := 0) dX9_copy_73 rfl rfl ?_
              refine x_iload_n C (i := 3) dX9_copy_74 rfl rfl ?_
              refine x_iload C (i := 4) dX9_copy_75 rfl ?_
              refine x_iload C (i := 5) dX9_copy_77 rfl ?_
              obtain ⟨r20, er20, h⟩ := ob h
              refine x_callVr C Z mv_X9_isWithin lk_X9_78 (rv_h er20) (ct_X9_isWithin er20) (by decide) rfl rfl (Nat.le_of_ble_eq_true rfl) dX9_copy_79 ?_
              refine x_if_ne C (tgt := 91) dX9_copy_82 (by decide) (fun c21 => ?_) (fun c21 => ?_)
              · have h := ifN h c21
                refine x_iload C (i := 4) dX9_copy_91 rfl ?_
                refine x_iload_n C (i := 2) dX9_copy_93 rfl rfl ?_
                obtain ⟨z22, hz22, h⟩ := ob h
                have hJ34 : X κ 9 ω 102 [some (.ref t0), some (.int p1), some (.int p2), some (.int p3), some (.int p4), some (.int p5), none, none, none] [.int z22] σ := by
                  refine x_istore C (i := 6) (lo' := [some (.ref t0), some (.int p1), some (.int p2), some (.int p3), some (.int p4), some (.int p5), some (.int z22), none, none]) dX9_copy_102 (by decide) rfl rfl ?_
                  refine x_iconst C (v := 0) dX9_copy_104 (by decide) ?_
                  refine x_istore C (i := 7) (lo' := [some (.ref t0), some (.int p1), some (.int p2), some (.int p3), some (.int p4), some (.int p5), some (.int z22), some (.int 0), none]) dX9_copy_105 (by decide) rfl rfl ?_
                  obtain ⟨z32, ez32, h⟩ := ob h
                  refine x_wk [true, true, true, true, true, true, true, true, false] (lo' := [some (.ref t0), some (.int p1), some (.int p2), some (.int p3), some (.int p4), some (.int p5), some (.int z22), some (.int 0), none]) rfl ?_
                  refine lp_X9_copy_107 C Z t0 p1 p2 p3 p4 p5 z22 ?_ _ σ 0 ez32
                  refine x_aload_n C (i := 0) dX9_copy_168 rfl rfl ?_
                  refine x_iload C (i := 5) dX9_copy_169 rfl ?_
                  obtain ⟨r33, er33, h⟩ := ob h
                  refine x_callVr C Z mv_X9_good lk_X9_71 (rv_h er33) (ct_X9_good er33) (by decide) rfl rfl (Nat.le_of_ble_eq_true rfl) dX9_copy_171 ?_
                  exact x_iret C E dX9_copy_174 (hE (r33.1, r33.2) (Option.some.inj h).symm)
                clear h
                have h := hz22
                refine x_icmp_ge C (tgt := 101) dX9_copy_94 (by decide) (fun c36 => ?_) (fun c36 => ?_)
                · have h := ifP h c36
                  refine x_iconst C (v := 0) dX9_copy_101 (by decide) ?_
                  refine x_wk [true, true, true, true, true, true, false, false, false] (lo' := [some (.ref t0), some (.int p1), some (.int p2), some (.int p3), some (.int p4), some (.int p5), none, none, none]) rfl ?_
                  obtain rfl := Option.some.inj h
                  exact hJ34
                · have h := ifN h c36
                  refine x_iconst C (v := 1) dX9_copy_97 (by decide) ?_
                  refine x_goto C (tgt := 102) dX9_copy_98 (by decide) ?_
                  refine x_wk [true, true, true, true, true, true, false, false, false] (lo' := [some (.ref t0), some (.int p1), some (.int p2), some (.int p3), some (.int p4), some (.int p5), none, none, none]) rfl ?_
                  obtain rfl := Option.some.inj h
                  exact hJ34
              · have h := ifP h c21
                refine x_aload_n C (i := 0) dX9_copy_85 rfl rfl ?_
                refine x_iconst C (v := 2) dX9_copy_86 (by decide) ?_
                obtain ⟨r37, er37, h⟩ := ob h
                refine x_callVr C Z mv_X9_finds lk_X9_67 (rv_h er37) (ct_X9_finds er37) (by decide) rfl rfl (Nat.le_of_ble_eq_true rfl) dX9_copy_87 ?_
                exact x_iret C E dX9_copy_90 (hE (r37.1, r37.2) (Option.some.inj h).symm)
          · have h := ifN h c16
            refine x_aload_n C (i := 0) dX9_copy_56 rfl rfl ?_
            refine x_iconst C (v := 5) dX9_copy_57 (by decide) ?_
            obtain ⟨r38, er38, h⟩ := ob h
            refine x_callVr C Z mv_X9_finds lk_X9_67 (rv_h er38) (ct_X9_finds er38) (by decide) rfl rfl (Nat.le_of_ble_eq_true rfl) dX9_copy_58 ?_
            exact x_iret C E dX9_copy_61 (hE (r38.1, r38.2) (Option.some.inj h).symm)
        · have h := ifN h c11
          refine x_aload_n C (i := 0) dX9_copy_35 rfl rfl ?_
          refine x_iconst C (v := 1) dX9_copy_36 (by decide) ?_
          obtain ⟨r39, er39, h⟩ := ob h
          refine x_callVr C Z mv_X9_finds lk_X9_67 (rv_h er39) (ct_X9_finds er39) (by decide) rfl rfl (Nat.le_of_ble_eq_true rfl) dX9_copy_37 ?_
          exact x_iret C E dX9_copy_40 (hE (r39.1, r39.2) (Option.some.inj h).symm)
    · have h := ifP h c4
      refine x_ldc C kc_X9_66 dX9_copy_14 ?_
      exact x_iret C E dX9_copy_16 (hE ((-1000001), σ) (Option.some.inj h).symm)
theorem dX9_drop_0 : decode cX9_drop 0 = .ok (.iload_n 1, 1) := by decide +kernel
theorem dX9_drop_1 : decode cX9_drop 1 = .ok (.invokestatic 60, 3) := by decide +kernel
theorem dX9_drop_4 : decode cX9_drop 4 = .ok (.ifCond .ne 6, 3) := by decide +kernel
theorem dX9_drop_7 : decode cX9_drop 7 = .ok (.ldc 66, 2) := by decide +kernel
theorem dX9_drop_9 : decode cX9_drop 9 = .ok (.ireturn, 1) := by decide +kernel
theorem dX9_drop_10 : decode cX9_drop 10 = .ok (.aload_n 0, 1) := by decide +kernel
theorem dX9_drop_11 : decode cX9_drop 11 = .ok (.getfield 13, 3) := by decide +kernel
theorem dX9_drop_14 : decode cX9_drop 14 = .ok (.iload_n 1, 1) := by decide +kernel
theorem dX9_drop_15 : decode cX9_drop 15 = .ok (.iaload, 1) := by decide +kernel
theorem dX9_drop_16 : decode cX9_drop 16 = .ok (.ifCond .ge 9, 3) := by decide +kernel
theorem dX9_drop_19 : decode cX9_drop 19 = .ok (.aload_n 0, 1) := by decide +kernel
theorem dX9_drop_20 : decode cX9_drop 20 = .ok (.iconst 1, 1) := by decide +kernel
theorem dX9_drop_21 : decode cX9_drop 21 = .ok (.invokevirtual 67, 3) := by decide +kernel
theorem dX9_drop_24 : decode cX9_drop 24 = .ok (.ireturn, 1) := by decide +kernel
theorem dX9_drop_25 : decode cX9_drop 25 = .ok (.aload_n 0, 1) := by decide +kernel
theorem dX9_drop_26 : decode cX9_drop 26 = .ok (.getfield 13, 3) := by decide +kernel
theorem dX9_drop_29 : decode cX9_drop 29 = .ok (.iload_n 1, 1) := by decide +kernel
theorem dX9_drop_30 : decode cX9_drop 30 = .ok (.iconst (-1), 1) := by decide +kernel
theorem dX9_drop_31 : decode cX9_drop 31 = .ok (.iastore, 1) := by decide +kernel
theorem dX9_drop_32 : decode cX9_drop 32 = .ok (.aload_n 0, 1) := by decide +kernel
theorem dX9_drop_33 : decode cX9_drop 33 = .ok (.aload_n 0, 1) := by decide +kernel
theorem dX9_drop_34 : decode cX9_drop 34 = .ok (.getfield 16, 3) := by decide +kernel
theorem dX9_drop_37 : decode cX9_drop 37 = .ok (.iload_n 1, 1) := by decide +kernel
theorem dX9_drop_38 : decode cX9_drop 38 = .ok (.iaload, 1) := by decide +kernel
theorem dX9_drop_39 : decode cX9_drop 39 = .ok (.invokevirtual 71, 3) := by decide +kernel
theorem dX9_drop_42 : decode cX9_drop 42 = .ok (.ireturn, 1) := by decide +kernel
def m_X9_drop (N : Nat) (σ : Hp) (t0 : Nat) (p1 : Int32) : Option (Int32 × Hp) :=
  (rv N σ t0 9).bind fun _ =>
  (m_X9_isRow p1).bind fun r1 =>
  if r1 = 0 then
   some ((-1000001), σ)
  else
   (gR N σ t0 9 1).bind fun x3 =>
  (aI 0 N σ x3 p1).bind fun x4 =>
  if 0 ≤ x4 then
   (gR N σ t0 9 1).bind fun x6 =>
  (sI 0 N σ x6 p1 (-1)).bind fun σ7 =>
  (gR N σ7 t0 9 2).bind fun x8 =>
  (aI 0 N σ7 x8 p1).bind fun x9 =>
  (m_X9_good N σ7 t0 x9).bind fun r10 =>
  some (r10.1, r10.2)
  else
   (m_X9_finds N σ t0 1).bind fun r11 =>
  some (r11.1, r11.2)
set_option maxHeartbeats 4000000 in
set_option maxRecDepth 100000 in
theorem ct_X9_drop {l : Launch} {D : va_G} {cy : Nat → Nat} {N : Nat} {σ : Hp} {t0 : Nat} {p1 : Int32} {r : Int32 × Hp} (h : m_X9_drop N σ t0 p1 = some r) : Ct l D cy yX9_drop cX9_drop 2 (some .int) 2 [.ref t0, .int p1] N σ (fun v s' => v = (some (.int r.1)) ∧ s' = r.2) := by
  refine Ct.intro [some (.ref t0), some (.int p1)] (by decide) rfl (Nat.le_of_ble_eq_true rfl) ?_
  intro κ ω e1 e2 e3 e4 C Z E
  subst e1; subst e2; subst e3; subst e4
  have C : Cx κ 2 2 cX9_drop RX9 "drop" := C
  have hE : ∀ x : Int32 × Hp, r = x → ((some (Value.int x.1)) = (some (Value.int r.1)) ∧ x.2 = r.2) := fun x hx => by subst hx; exact ⟨rfl, rfl⟩
  unfold m_X9_drop at h
  obtain ⟨_, _, h⟩ := ob h
  refine x_iload_n C (i := 1) dX9_drop_0 rfl rfl ?_
  obtain ⟨r1, er1, h⟩ := ob h
  refine x_callSr C Z ms_X9_isRow lk_X9_60 (ct_X9_isRow (N := ω.1) (σ := σ) er1) (by decide) rfl rfl (Nat.le_of_ble_eq_true rfl) dX9_drop_1 ?_
  refine x_if_ne C (tgt := 10) dX9_drop_4 (by decide) (fun c2 => ?_) (fun c2 => ?_)
  · have h := ifN h c2
    refine x_aload_n C (i := 0) dX9_drop_10 rfl rfl ?_
    obtain ⟨x3, ex3, h⟩ := ob h
    refine x_getR C fl_X9_13 dX9_drop_11 ex3 ?_
    refine x_iload_n C (i := 1) dX9_drop_14 rfl rfl ?_
    obtain ⟨x4, ex4, h⟩ := ob h
    refine x_iald C dX9_drop_15 ex4 ?_
    refine x_if_ge C (tgt := 25) dX9_drop_16 (by decide) (fun c5 => ?_) (fun c5 => ?_)
    · have h := ifP h c5
      refine x_aload_n C (i := 0) dX9_drop_25 rfl rfl ?_
      obtain ⟨x6, ex6, h⟩ := ob h
      refine x_getR C fl_X9_13 dX9_drop_26 ex6 ?_
      refine x_iload_n C (i := 1) dX9_drop_29 rfl rfl ?_
      refine x_iconst C (v := (-1)) dX9_drop_30 (by decide) ?_
      obtain ⟨σ7, eσ7, h⟩ := ob h
      refine x_iast C dX9_drop_31 eσ7 ?_
      refine x_aload_n C (i := 0) dX9_drop_32 rfl rfl ?_
      refine x_aload_n C (i := 0) dX9_drop_33 rfl rfl ?_
      obtain ⟨x8, ex8, h⟩ := ob h
      refine x_getR C fl_X9_16 dX9_drop_34 ex8 ?_
      refine x_iload_n C (i := 1) dX9_drop_37 rfl rfl ?_
      obtain ⟨x9, ex9, h⟩ := ob h
      refine x_iald C dX9_drop_38 ex9 ?_
      obtain ⟨r10, er10, h⟩ := ob h
      refine x_callVr C Z mv_X9_good lk_X9_71 (rv_h er10) (ct_X9_good er10) (by decide) rfl rfl (Nat.le_of_ble_eq_true rfl) dX9_drop_39 ?_
      exact x_iret C E dX9_drop_42 (hE (r10.1, r10.2) (Option.some.inj h).symm)
    · have h := ifN h c5
      refine x_aload_n C (i := 0) dX9_drop_19 rfl rfl ?_
      refine x_iconst C (v := 1) dX9_drop_20 (by decide) ?_
      obtain ⟨r11, er11, h⟩ := ob h
      refine x_callVr C Z mv_X9_finds lk_X9_67 (rv_h er11) (ct_X9_finds er11) (by decide) rfl rfl (Nat.le_of_ble_eq_true rfl) dX9_drop_21 ?_
      exact x_iret C E dX9_drop_24 (hE (r11.1, r11.2) (Option.some.inj h).symm)
  · have h := ifP h c2
    refine x_ldc C kc_X9_66 dX9_drop_7 ?_
    exact x_iret C E dX9_drop_9 (hE ((-1000001), σ) (Option.some.inj h).symm)
theorem dX9_feed_0 : decode cX9_feed 0 = .ok (.iload_n 1, 1) := by decide +kernel
theorem dX9_feed_1 : decode cX9_feed 1 = .ok (.i2l, 1) := by decide +kernel
theorem dX9_feed_2 : decode cX9_feed 2 = .ok (.lconst 0, 1) := by decide +kernel
theorem dX9_feed_3 : decode cX9_feed 3 = .ok (.ldc2_w 82, 3) := by decide +kernel
theorem dX9_feed_6 : decode cX9_feed 6 = .ok (.invokestatic 56, 3) := by decide +kernel
theorem dX9_feed_9 : decode cX9_feed 9 = .ok (.ifCond .ne 6, 3) := by decide +kernel
theorem dX9_feed_12 : decode cX9_feed 12 = .ok (.ldc 66, 2) := by decide +kernel
theorem dX9_feed_14 : decode cX9_feed 14 = .ok (.ireturn, 1) := by decide +kernel
theorem dX9_feed_15 : decode cX9_feed 15 = .ok (.aload_n 0, 1) := by decide +kernel
theorem dX9_feed_16 : decode cX9_feed 16 = .ok (.getfield 84, 3) := by decide +kernel
theorem dX9_feed_19 : decode cX9_feed 19 = .ok (.bipush 60, 2) := by decide +kernel
theorem dX9_feed_21 : decode cX9_feed 21 = .ok (.if_icmp .ne 6, 3) := by decide +kernel
theorem dX9_feed_24 : decode cX9_feed 24 = .ok (.ldc 87, 2) := by decide +kernel
theorem dX9_feed_26 : decode cX9_feed 26 = .ok (.ireturn, 1) := by decide +kernel
theorem dX9_feed_27 : decode cX9_feed 27 = .ok (.aload_n 0, 1) := by decide +kernel
theorem dX9_feed_28 : decode cX9_feed 28 = .ok (.getfield 19, 3) := by decide +kernel
theorem dX9_feed_31 : decode cX9_feed 31 = .ok (.aload_n 0, 1) := by decide +kernel
theorem dX9_feed_32 : decode cX9_feed 32 = .ok (.getfield 84, 3) := by decide +kernel
theorem dX9_feed_35 : decode cX9_feed 35 = .ok (.iload_n 1, 1) := by decide +kernel
theorem dX9_feed_36 : decode cX9_feed 36 = .ok (.i2b, 1) := by decide +kernel
theorem dX9_feed_37 : decode cX9_feed 37 = .ok (.bastore, 1) := by decide +kernel
theorem dX9_feed_38 : decode cX9_feed 38 = .ok (.aload_n 0, 1) := by decide +kernel
theorem dX9_feed_39 : decode cX9_feed 39 = .ok (.dup, 1) := by decide +kernel
theorem dX9_feed_40 : decode cX9_feed 40 = .ok (.getfield 84, 3) := by decide +kernel
theorem dX9_feed_43 : decode cX9_feed 43 = .ok (.iconst 1, 1) := by decide +kernel
theorem dX9_feed_44 : decode cX9_feed 44 = .ok (.iadd, 1) := by decide +kernel
theorem dX9_feed_45 : decode cX9_feed 45 = .ok (.putfield 84, 3) := by decide +kernel
theorem dX9_feed_48 : decode cX9_feed 48 = .ok (.aload_n 0, 1) := by decide +kernel
theorem dX9_feed_49 : decode cX9_feed 49 = .ok (.getfield 84, 3) := by decide +kernel
theorem dX9_feed_52 : decode cX9_feed 52 = .ok (.ireturn, 1) := by decide +kernel
def m_X9_feed (N : Nat) (σ : Hp) (t0 : Nat) (p1 : Int32) : Option (Int32 × Hp) :=
  (rv N σ t0 9).bind fun _ =>
  (m_X9_in p1.toInt64 0 255).bind fun r1 =>
  if r1 = 0 then
   some ((-1000001), σ)
  else
   (gI N σ t0 9 4).bind fun x3 =>
  if x3 = 60 then
   some ((-1000003), σ)
  else
   (gR N σ t0 9 5).bind fun x5 =>
  (gI N σ t0 9 4).bind fun x6 =>
  (sI 2 N σ x5 x6 p1.toInt8.toInt32).bind fun σ7 =>
  (gI N σ7 t0 9 4).bind fun x8 =>
  (pV N σ7 t0 9 4 (.int (x8 + 1))).bind fun σ9 =>
  (gI N σ9 t0 9 4).bind fun x10 =>
  some (x10, σ9)
set_option maxHeartbeats 4000000 in
set_option maxRecDepth 100000 in
theorem ct_X9_feed {l : Launch} {D : va_G} {cy : Nat → Nat} {N : Nat} {σ : Hp} {t0 : Nat} {p1 : Int32} {r : Int32 × Hp} (h : m_X9_feed N σ t0 p1 = some r) : Ct l D cy yX9_feed cX9_feed 2 (some .int) 1 [.ref t0, .int p1] N σ (fun v s' => v = (some (.int r.1)) ∧ s' = r.2) := by
  refine Ct.intro [some (.ref t0), some (.int p1)] (by decide) rfl (Nat.le_of_ble_eq_true rfl) ?_
  intro κ ω e1 e2 e3 e4 C Z E
  subst e1; subst e2; subst e3; subst e4
  have C : Cx κ 2 1 cX9_feed RX9 "feed" := C
  have hE : ∀ x : Int32 × Hp, r = x → ((some (Value.int x.1)) = (some (Value.int r.1)) ∧ x.2 = r.2) := fun x hx => by subst hx; exact ⟨rfl, rfl⟩
  unfold m_X9_feed at h
  obtain ⟨_, _, h⟩ := ob h
  refine x_iload_n C (i := 1) dX9_feed_0 rfl rfl ?_
  refine x_i2l C dX9_feed_1 ?_
  refine x_lconst C (v := 0) dX9_feed_2 (by decide) ?_
  refine x_ldc2 C kj_X9_82 dX9_feed_3 ?_
  obtain ⟨r1, er1, h⟩ := ob h
  refine x_callSr C Z ms_X9_in lk_X9_56 (ct_X9_in (N := ω.1) (σ := σ) er1) (by decide) rfl rfl (Nat.le_of_ble_eq_true rfl) dX9_feed_6 ?_
  refine x_if_ne C (tgt := 15) dX9_feed_9 (by decide) (fun c2 => ?_) (fun c2 => ?_)
  · have h := ifN h c2
    refine x_aload_n C (i := 0) dX9_feed_15 rfl rfl ?_
    obtain ⟨x3, ex3, h⟩ := ob h
    refine x_getI C fl_X9_84 dX9_feed_16 ex3 ?_
    refine x_bipush C (v := 60) dX9_feed_19 (by decide) ?_
    refine x_icmp_ne C (tgt := 27) dX9_feed_21 (by decide) (fun c4 => ?_) (fun c4 => ?_)
    · have h := ifN h c4
      refine x_aload_n C (i := 0) dX9_feed_27 rfl rfl ?_
      obtain ⟨x5, ex5, h⟩ := ob h
      refine x_getR C fl_X9_19 dX9_feed_28 ex5 ?_
      refine x_aload_n C (i := 0) dX9_feed_31 rfl rfl ?_
      obtain ⟨x6, ex6, h⟩ := ob h
      refine x_getI C fl_X9_84 dX9_feed_32 ex6 ?_
      refine x_iload_n C (i := 1) dX9_feed_35 rfl rfl ?_
      refine x_i2b C dX9_feed_36 ?_
      obtain ⟨σ7, eσ7, h⟩ := ob h
      refine x_bast C dX9_feed_37 eσ7 ?_
      refine x_aload_n C (i := 0) dX9_feed_38 rfl rfl ?_
      refine x_dup C dX9_feed_39 rfl ?_
      obtain ⟨x8, ex8, h⟩ := ob h
      refine x_getI C fl_X9_84 dX9_feed_40 ex8 ?_
      refine x_iconst C (v := 1) dX9_feed_43 (by decide) ?_
      refine x_iadd C dX9_feed_44 ?_
      obtain ⟨σ9, eσ9, h⟩ := ob h
      refine x_put C pl_X9_84 dX9_feed_45 (fun _ => ⟨rfl, rfl⟩) eσ9 ?_
      refine x_aload_n C (i := 0) dX9_feed_48 rfl rfl ?_
      obtain ⟨x10, ex10, h⟩ := ob h
      refine x_getI C fl_X9_84 dX9_feed_49 ex10 ?_
      exact x_iret C E dX9_feed_52 (hE (x10, σ9) (Option.some.inj h).symm)
    · have h := ifP h c4
      refine x_ldc C kc_X9_87 dX9_feed_24 ?_
      exact x_iret C E dX9_feed_26 (hE ((-1000003), σ) (Option.some.inj h).symm)
  · have h := ifP h c2
    refine x_ldc C kc_X9_66 dX9_feed_12 ?_
    exact x_iret C E dX9_feed_14 (hE ((-1000001), σ) (Option.some.inj h).symm)
theorem dX9_byteAt_0 : decode cX9_byteAt 0 = .ok (.iload_n 1, 1) := by decide +kernel
theorem dX9_byteAt_1 : decode cX9_byteAt 1 = .ok (.aload_n 0, 1) := by decide +kernel
theorem dX9_byteAt_2 : decode cX9_byteAt 2 = .ok (.getfield 84, 3) := by decide +kernel
theorem dX9_byteAt_5 : decode cX9_byteAt 5 = .ok (.if_icmp .ge 16, 3) := by decide +kernel
theorem dX9_byteAt_8 : decode cX9_byteAt 8 = .ok (.aload_n 0, 1) := by decide +kernel
theorem dX9_byteAt_9 : decode cX9_byteAt 9 = .ok (.getfield 19, 3) := by decide +kernel
theorem dX9_byteAt_12 : decode cX9_byteAt 12 = .ok (.iload_n 1, 1) := by decide +kernel
theorem dX9_byteAt_13 : decode cX9_byteAt 13 = .ok (.baload, 1) := by decide +kernel
theorem dX9_byteAt_14 : decode cX9_byteAt 14 = .ok (.sipush 255, 3) := by decide +kernel
theorem dX9_byteAt_17 : decode cX9_byteAt 17 = .ok (.iand, 1) := by decide +kernel
theorem dX9_byteAt_18 : decode cX9_byteAt 18 = .ok (.goto 4, 3) := by decide +kernel
theorem dX9_byteAt_21 : decode cX9_byteAt 21 = .ok (.iconst (-1), 1) := by decide +kernel
theorem dX9_byteAt_22 : decode cX9_byteAt 22 = .ok (.ireturn, 1) := by decide +kernel
def m_X9_byteAt (N : Nat) (σ : Hp) (t0 : Nat) (p1 : Int32) : Option (Int32) :=
  (rv N σ t0 9).bind fun _ =>
  (gI N σ t0 9 4).bind fun x1 =>
  if x1 ≤ p1 then
   some (-1)
  else
   (gR N σ t0 9 5).bind fun x3 =>
  (aI 2 N σ x3 p1).bind fun x4 =>
  some (x4 &&& 255)
set_option maxHeartbeats 4000000 in
set_option maxRecDepth 100000 in
theorem ct_X9_byteAt {l : Launch} {D : va_G} {cy : Nat → Nat} {N : Nat} {σ : Hp} {t0 : Nat} {p1 : Int32} {r : Int32} (h : m_X9_byteAt N σ t0 p1 = some r) : Ct l D cy yX9_byteAt cX9_byteAt 2 (some .int) 0 [.ref t0, .int p1] N σ (fun v s' => v = (some (.int r)) ∧ s' = σ) := by
  refine Ct.intro [some (.ref t0), some (.int p1)] (by decide) rfl (Nat.le_of_ble_eq_true rfl) ?_
  intro κ ω e1 e2 e3 e4 C Z E
  subst e1; subst e2; subst e3; subst e4
  have C : Cx κ 2 0 cX9_byteAt RX9 "byteAt" := C
  have hE : ∀ x : Int32, r = x → ((some (Value.int x)) = (some (Value.int r)) ∧ σ = σ) := fun x hx => by subst hx; exact ⟨rfl, rfl⟩
  unfold m_X9_byteAt at h
  obtain ⟨_, _, h⟩ := ob h
  refine x_iload_n C (i := 1) dX9_byteAt_0 rfl rfl ?_
  refine x_aload_n C (i := 0) dX9_byteAt_1 rfl rfl ?_
  obtain ⟨x1, ex1, h⟩ := ob h
  refine x_getI C fl_X9_84 dX9_byteAt_2 ex1 ?_
  refine x_icmp_ge C (tgt := 21) dX9_byteAt_5 (by decide) (fun c2 => ?_) (fun c2 => ?_)
  · have h := ifP h c2
    refine x_iconst C (v := (-1)) dX9_byteAt_21 (by decide) ?_
    exact x_iret C E dX9_byteAt_22 (hE (-1) (Option.some.inj h).symm)
  · have h := ifN h c2
    refine x_aload_n C (i := 0) dX9_byteAt_8 rfl rfl ?_
    obtain ⟨x3, ex3, h⟩ := ob h
    refine x_getR C fl_X9_19 dX9_byteAt_9 ex3 ?_
    refine x_iload_n C (i := 1) dX9_byteAt_12 rfl rfl ?_
    obtain ⟨x4, ex4, h⟩ := ob h
    refine x_bald C dX9_byteAt_13 ex4 ?_
    refine x_sipush C (v := 255) dX9_byteAt_14 (by decide) ?_
    refine x_iand C dX9_byteAt_17 ?_
    refine x_goto C (tgt := 22) dX9_byteAt_18 (by decide) ?_
    exact x_iret C E dX9_byteAt_22 (hE (x4 &&& 255) (Option.some.inj h).symm)
theorem dX9_fails_0 : decode cX9_fails 0 = .ok (.aload_n 0, 1) := by decide +kernel
theorem dX9_fails_1 : decode cX9_fails 1 = .ok (.getfield 88, 3) := by decide +kernel
theorem dX9_fails_4 : decode cX9_fails 4 = .ok (.ifCond .ne 13, 3) := by decide +kernel
theorem dX9_fails_7 : decode cX9_fails 7 = .ok (.aload_n 0, 1) := by decide +kernel
theorem dX9_fails_8 : decode cX9_fails 8 = .ok (.iload_n 2, 1) := by decide +kernel
theorem dX9_fails_9 : decode cX9_fails 9 = .ok (.putfield 88, 3) := by decide +kernel
theorem dX9_fails_12 : decode cX9_fails 12 = .ok (.aload_n 0, 1) := by decide +kernel
theorem dX9_fails_13 : decode cX9_fails 13 = .ok (.iload_n 1, 1) := by decide +kernel
theorem dX9_fails_14 : decode cX9_fails 14 = .ok (.putfield 91, 3) := by decide +kernel
theorem dX9_fails_17 : decode cX9_fails 17 = .ok (.return_, 1) := by decide +kernel
def m_X9_fails (N : Nat) (σ : Hp) (t0 : Nat) (p1 : Int32) (p2 : Int32) : Option (Hp) :=
  (rv N σ t0 9).bind fun _ =>
  (gI N σ t0 9 9).bind fun x1 =>
  if x1 = 0 then
   (pV N σ t0 9 9 (.int p2)).bind fun σ3 =>
  (pV N σ3 t0 9 8 (.int p1)).bind fun σ4 =>
  some σ4
  else
   some σ
set_option maxHeartbeats 4000000 in
set_option maxRecDepth 100000 in
theorem ct_X9_fails {l : Launch} {D : va_G} {cy : Nat → Nat} {N : Nat} {σ : Hp} {t0 : Nat} {p1 : Int32} {p2 : Int32} {r : Hp} (h : m_X9_fails N σ t0 p1 p2 = some r) : Ct l D cy yX9_fails cX9_fails 3 none 0 [.ref t0, .int p1, .int p2] N σ (fun v s' => v = none ∧ s' = r) := by
  refine Ct.intro [some (.ref t0), some (.int p1), some (.int p2)] (by decide) rfl (Nat.le_of_ble_eq_true rfl) ?_
  intro κ ω e1 e2 e3 e4 C Z E
  subst e1; subst e2; subst e3; subst e4
  have C : Cx κ 3 0 cX9_fails RX9 "fails" := C
  have hE : ∀ x : Hp, r = x → ((none : Option Value) = none ∧ x = r) := fun x hx => by subst hx; exact ⟨rfl, rfl⟩
  unfold m_X9_fails at h
  obtain ⟨_, _, h⟩ := ob h
  refine x_aload_n C (i := 0) dX9_fails_0 rfl rfl ?_
  obtain ⟨x1, ex1, h⟩ := ob h
  refine x_getI C fl_X9_88 dX9_fails_1 ex1 ?_
  refine x_if_ne C (tgt := 17) dX9_fails_4 (by decide) (fun c2 => ?_) (fun c2 => ?_)
  · have h := ifN h c2
    exact x_vret C E dX9_fails_17 (hE σ (Option.some.inj h).symm)
  · have h := ifP h c2
    refine x_aload_n C (i := 0) dX9_fails_7 rfl rfl ?_
    refine x_iload_n C (i := 2) dX9_fails_8 rfl rfl ?_
    obtain ⟨σ3, eσ3, h⟩ := ob h
    refine x_put C pl_X9_88 dX9_fails_9 (fun _ => ⟨rfl, rfl⟩) eσ3 ?_
    refine x_aload_n C (i := 0) dX9_fails_12 rfl rfl ?_
    refine x_iload_n C (i := 1) dX9_fails_13 rfl rfl ?_
    obtain ⟨σ4, eσ4, h⟩ := ob h
    refine x_put C pl_X9_91 dX9_fails_14 (fun _ => ⟨rfl, rfl⟩) eσ4 ?_
    exact x_vret C E dX9_fails_17 (hE σ4 (Option.some.inj h).symm)
theorem dX9_sign_0 : decode cX9_sign 0 = .ok (.aload_n 0, 1) := by decide +kernel
theorem dX9_sign_1 : decode cX9_sign 1 = .ok (.aload_n 0, 1) := by decide +kernel
theorem dX9_sign_2 : decode cX9_sign 2 = .ok (.getfield 94, 3) := by decide +kernel
theorem dX9_sign_5 : decode cX9_sign 5 = .ok (.invokevirtual 97, 3) := by decide +kernel
theorem dX9_sign_8 : decode cX9_sign 8 = .ok (.iload_n 1, 1) := by decide +kernel
theorem dX9_sign_9 : decode cX9_sign 9 = .ok (.if_icmp .eq 12, 3) := by decide +kernel
theorem dX9_sign_12 : decode cX9_sign 12 = .ok (.aload_n 0, 1) := by decide +kernel
theorem dX9_sign_13 : decode cX9_sign 13 = .ok (.aload_n 0, 1) := by decide +kernel
theorem dX9_sign_14 : decode cX9_sign 14 = .ok (.getfield 94, 3) := by decide +kernel
theorem dX9_sign_17 : decode cX9_sign 17 = .ok (.iconst 1, 1) := by decide +kernel
theorem dX9_sign_18 : decode cX9_sign 18 = .ok (.invokevirtual 100, 3) := by decide +kernel
theorem dX9_sign_21 : decode cX9_sign 21 = .ok (.aload_n 0, 1) := by decide +kernel
theorem dX9_sign_22 : decode cX9_sign 22 = .ok (.dup, 1) := by decide +kernel
theorem dX9_sign_23 : decode cX9_sign 23 = .ok (.getfield 94, 3) := by decide +kernel
theorem dX9_sign_26 : decode cX9_sign 26 = .ok (.iconst 1, 1) := by decide +kernel
theorem dX9_sign_27 : decode cX9_sign 27 = .ok (.iadd, 1) := by decide +kernel
theorem dX9_sign_28 : decode cX9_sign 28 = .ok (.putfield 94, 3) := by decide +kernel
theorem dX9_sign_31 : decode cX9_sign 31 = .ok (.return_, 1) := by decide +kernel
def m_X9_sign (N : Nat) (σ : Hp) (t0 : Nat) (p1 : Int32) : Option (Hp) :=
  (rv N σ t0 9).bind fun _ =>
  (gI N σ t0 9 7).bind fun x1 =>
  (m_X9_byteAt N σ t0 x1).bind fun r2 =>
  ((if r2 = p1 then
   some σ
  else
   (gI N σ t0 9 7).bind fun x9 =>
  (m_X9_fails N σ t0 x9 1).bind fun r10 =>
  some r10) : Option (Hp)).bind fun z3 =>
  (gI N z3 t0 9 7).bind fun x4 =>
  (pV N z3 t0 9 7 (.int (x4 + 1))).bind fun σ5 =>
  some σ5
set_option maxHeartbeats 4000000 in
set_option maxRecDepth 100000 in
theorem ct_X9_sign {l : Launch} {D : va_G} {cy : Nat → Nat} {N : Nat} {σ : Hp} {t0 : Nat} {p1 : Int32} {r : Hp} (h : m_X9_sign N σ t0 p1 = some r) : Ct l D cy yX9_sign cX9_sign 2 none 1 [.ref t0, .int p1] N σ (fun v s' => v = none ∧ s' = r) := by
  refine Ct.intro [some (.ref t0), some (.int p1)] (by decide) rfl (Nat.le_of_ble_eq_true rfl) ?_
  intro κ ω e1 e2 e3 e4 C Z E
  subst e1; subst e2; subst e3; subst e4
  have C : Cx κ 2 1 cX9_sign RX9 "sign" := C
  have hE : ∀ x : Hp, r = x → ((none : Option Value) = none ∧ x = r) := fun x hx => by subst hx; exact ⟨rfl, rfl⟩
  unfold m_X9_sign at h
  obtain ⟨_, _, h⟩ := ob h
  refine x_aload_n C (i := 0) dX9_sign_0 rfl rfl ?_
  refine x_aload_n C (i := 0) dX9_sign_1 rfl rfl ?_
  obtain ⟨x1, ex1, h⟩ := ob h
  refine x_getI C fl_X9_94 dX9_sign_2 ex1 ?_
  obtain ⟨r2, er2, h⟩ := ob h
  refine x_callVr C Z mv_X9_byteAt lk_X9_97 (rv_h er2) (ct_X9_byteAt er2) (by decide) rfl rfl (Nat.le_of_ble_eq_true rfl) dX9_sign_5 ?_
  refine x_iload_n C (i := 1) dX9_sign_8 rfl rfl ?_
  obtain ⟨z3, hz3, h⟩ := ob h
  have hJ6 : X κ 2 ω 21 [some (.ref t0), none] [] z3 := by
    refine x_aload_n C (i := 0) dX9_sign_21 rfl rfl ?_
    refine x_dup C dX9_sign_22 rfl ?_
    obtain ⟨x4, ex4, h⟩ := ob h
    refine x_getI C fl_X9_94 dX9_sign_23 ex4 ?_
    refine x_iconst C (v := 1) dX9_sign_26 (by decide) ?_
    refine x_iadd C dX9_sign_27 ?_
    obtain ⟨σ5, eσ5, h⟩ := ob h
    refine x_put C pl_X9_94 dX9_sign_28 (fun _ => ⟨rfl, rfl⟩) eσ5 ?_
    exact x_vret C E dX9_sign_31 (hE σ5 (Option.some.inj h).symm)
  clear h
  have h := hz3
  refine x_icmp_eq C (tgt := 21) dX9_sign_9 (by decide) (fun c8 => ?_) (fun c8 => ?_)
  · have h := ifP h c8
    refine x_wk [true, false] (lo' := [some (.ref t0), none]) rfl ?_
    obtain rfl := Option.some.inj h
    exact hJ6
  · have h := ifN h c8
    refine x_aload_n C (i := 0) dX9_sign_12 rfl rfl ?_
    refine x_aload_n C (i := 0) dX9_sign_13 rfl rfl ?_
    obtain ⟨x9, ex9, h⟩ := ob h
    refine x_getI C fl_X9_94 dX9_sign_14 ex9 ?_
    refine x_iconst C (v := 1) dX9_sign_17 (by decide) ?_
    obtain ⟨r10, er10, h⟩ := ob h
    refine x_callVn C Z mv_X9_fails lk_X9_100 (rv_h er10) (ct_X9_fails er10) (by decide) rfl rfl (Nat.le_of_ble_eq_true rfl) dX9_sign_18 ?_
    refine x_wk [true, false] (lo' := [some (.ref t0), none]) rfl ?_
    obtain rfl := Option.some.inj h
    exact hJ6
theorem dX9_number_0 : decode cX9_number 0 = .ok (.aload_n 0, 1) := by decide +kernel
theorem dX9_number_1 : decode cX9_number 1 = .ok (.getfield 94, 3) := by decide +kernel
theorem dX9_number_4 : decode cX9_number 4 = .ok (.istore 4, 2) := by decide +kernel
theorem dX9_number_6 : decode cX9_number 6 = .ok (.iconst 0, 1) := by decide +kernel
theorem dX9_number_7 : decode cX9_number 7 = .ok (.istore 5, 2) := by decide +kernel
theorem dX9_number_9 : decode cX9_number 9 = .ok (.aload_n 0, 1) := by decide +kernel
theorem dX9_number_10 : decode cX9_number 10 = .ok (.aload_n 0, 1) := by decide +kernel
theorem dX9_number_11 : decode cX9_number 11 = .ok (.getfield 94, 3) := by decide +kernel
theorem dX9_number_14 : decode cX9_number 14 = .ok (.invokevirtual 97, 3) := by decide +kernel
theorem dX9_number_17 : decode cX9_number 17 = .ok (.i2l, 1) := by decide +kernel
theorem dX9_number_18 : decode cX9_number 18 = .ok (.ldc2_w 104, 3) := by decide +kernel
theorem dX9_number_21 : decode cX9_number 21 = .ok (.ldc2_w 106, 3) := by decide +kernel
theorem dX9_number_24 : decode cX9_number 24 = .ok (.invokestatic 56, 3) := by decide +kernel
theorem dX9_number_27 : decode cX9_number 27 = .ok (.ifCond .eq 51, 3) := by decide +kernel
theorem dX9_number_30 : decode cX9_number 30 = .ok (.aload_n 0, 1) := by decide +kernel
theorem dX9_number_31 : decode cX9_number 31 = .ok (.getfield 94, 3) := by decide +kernel
theorem dX9_number_34 : decode cX9_number 34 = .ok (.iload 4, 2) := by decide +kernel
theorem dX9_number_36 : decode cX9_number 36 = .ok (.isub, 1) := by decide +kernel
theorem dX9_number_37 : decode cX9_number 37 = .ok (.iconst 2, 1) := by decide +kernel
theorem dX9_number_38 : decode cX9_number 38 = .ok (.if_icmp .ge 23, 3) := by decide +kernel
theorem dX9_number_41 : decode cX9_number 41 = .ok (.bipush 10, 2) := by decide +kernel
theorem dX9_number_43 : decode cX9_number 43 = .ok (.iload 5, 2) := by decide +kernel
theorem dX9_number_45 : decode cX9_number 45 = .ok (.imul, 1) := by decide +kernel
theorem dX9_number_46 : decode cX9_number 46 = .ok (.aload_n 0, 1) := by decide +kernel
theorem dX9_number_47 : decode cX9_number 47 = .ok (.aload_n 0, 1) := by decide +kernel
theorem dX9_number_48 : decode cX9_number 48 = .ok (.getfield 94, 3) := by decide +kernel
theorem dX9_number_51 : decode cX9_number 51 = .ok (.invokevirtual 97, 3) := by decide +kernel
theorem dX9_number_54 : decode cX9_number 54 = .ok (.iadd, 1) := by decide +kernel
theorem dX9_number_55 : decode cX9_number 55 = .ok (.bipush 48, 2) := by decide +kernel
theorem dX9_number_57 : decode cX9_number 57 = .ok (.isub, 1) := by decide +kernel
theorem dX9_number_58 : decode cX9_number 58 = .ok (.goto 5, 3) := by decide +kernel
theorem dX9_number_61 : decode cX9_number 61 = .ok (.iload 5, 2) := by decide +kernel
theorem dX9_number_63 : decode cX9_number 63 = .ok (.istore 5, 2) := by decide +kernel
theorem dX9_number_65 : decode cX9_number 65 = .ok (.aload_n 0, 1) := by decide +kernel
theorem dX9_number_66 : decode cX9_number 66 = .ok (.dup, 1) := by decide +kernel
theorem dX9_number_67 : decode cX9_number 67 = .ok (.getfield 94, 3) := by decide +kernel
theorem dX9_number_70 : decode cX9_number 70 = .ok (.iconst 1, 1) := by decide +kernel
theorem dX9_number_71 : decode cX9_number 71 = .ok (.iadd, 1) := by decide +kernel
theorem dX9_number_72 : decode cX9_number 72 = .ok (.putfield 94, 3) := by decide +kernel
theorem dX9_number_75 : decode cX9_number 75 = .ok (.goto (-66), 3) := by decide +kernel
theorem dX9_number_78 : decode cX9_number 78 = .ok (.aload_n 0, 1) := by decide +kernel
theorem dX9_number_79 : decode cX9_number 79 = .ok (.getfield 94, 3) := by decide +kernel
theorem dX9_number_82 : decode cX9_number 82 = .ok (.iload 4, 2) := by decide +kernel
theorem dX9_number_84 : decode cX9_number 84 = .ok (.if_icmp .eq 14, 3) := by decide +kernel
theorem dX9_number_87 : decode cX9_number 87 = .ok (.aload_n 0, 1) := by decide +kernel
theorem dX9_number_88 : decode cX9_number 88 = .ok (.getfield 94, 3) := by decide +kernel
theorem dX9_number_91 : decode cX9_number 91 = .ok (.iload 4, 2) := by decide +kernel
theorem dX9_number_93 : decode cX9_number 93 = .ok (.isub, 1) := by decide +kernel
theorem dX9_number_94 : decode cX9_number 94 = .ok (.iconst 2, 1) := by decide +kernel
theorem dX9_number_95 : decode cX9_number 95 = .ok (.if_icmp .le 10, 3) := by decide +kernel
theorem dX9_number_98 : decode cX9_number 98 = .ok (.aload_n 0, 1) := by decide +kernel
theorem dX9_number_99 : decode cX9_number 99 = .ok (.iload 4, 2) := by decide +kernel
theorem dX9_number_101 : decode cX9_number 101 = .ok (.iconst 1, 1) := by decide +kernel
theorem dX9_number_102 : decode cX9_number 102 = .ok (.invokevirtual 100, 3) := by decide +kernel
theorem dX9_number_105 : decode cX9_number 105 = .ok (.iload 5, 2) := by decide +kernel
theorem dX9_number_107 : decode cX9_number 107 = .ok (.i2l, 1) := by decide +kernel
theorem dX9_number_108 : decode cX9_number 108 = .ok (.iload_n 1, 1) := by decide +kernel
theorem dX9_number_109 : decode cX9_number 109 = .ok (.i2l, 1) := by decide +kernel
theorem dX9_number_110 : decode cX9_number 110 = .ok (.iload_n 2, 1) := by decide +kernel
theorem dX9_number_111 : decode cX9_number 111 = .ok (.i2l, 1) := by decide +kernel
theorem dX9_number_112 : decode cX9_number 112 = .ok (.invokestatic 56, 3) := by decide +kernel
theorem dX9_number_115 : decode cX9_number 115 = .ok (.ifCond .eq 9, 3) := by decide +kernel
theorem dX9_number_118 : decode cX9_number 118 = .ok (.iload 5, 2) := by decide +kernel
theorem dX9_number_120 : decode cX9_number 120 = .ok (.iload_n 3, 1) := by decide +kernel
theorem dX9_number_121 : decode cX9_number 121 = .ok (.if_icmp .ne 10, 3) := by decide +kernel
theorem dX9_number_124 : decode cX9_number 124 = .ok (.aload_n 0, 1) := by decide +kernel
theorem dX9_number_125 : decode cX9_number 125 = .ok (.iload 4, 2) := by decide +kernel
theorem dX9_number_127 : decode cX9_number 127 = .ok (.iconst 2, 1) := by decide +kernel
theorem dX9_number_128 : decode cX9_number 128 = .ok (.invokevirtual 100, 3) := by decide +kernel
theorem dX9_number_131 : decode cX9_number 131 = .ok (.aload_n 0, 1) := by decide +kernel
theorem dX9_number_132 : decode cX9_number 132 = .ok (.getfield 88, 3) := by decide +kernel
theorem dX9_number_135 : decode cX9_number 135 = .ok (.ifCond .ne 8, 3) := by decide +kernel
theorem dX9_number_138 : decode cX9_number 138 = .ok (.iload 5, 2) := by decide +kernel
theorem dX9_number_140 : decode cX9_number 140 = .ok (.goto 4, 3) := by decide +kernel
theorem dX9_number_143 : decode cX9_number 143 = .ok (.iconst 0, 1) := by decide +kernel
theorem dX9_number_144 : decode cX9_number 144 = .ok (.ireturn, 1) := by decide +kernel
def L_X9_number_9 (N : Nat) (v0 : Nat) (v1 : Int32) (v2 : Int32) (v3 : Int32) (v4 : Int32) : Nat → Hp → Int32 → Option (Int32 × Hp)
  | 0, _, _ => none
  | n + 1, σ, v5 =>
  (gI N σ v0 9 7).bind fun x2 =>
  (m_X9_byteAt N σ v0 x2).bind fun r3 =>
  (m_X9_in r3.toInt64 48 57).bind fun r4 =>
  if r4 = 0 then
   some (v5, σ)
  else
   (gI N σ v0 9 7).bind fun x6 =>
  ((if 2 ≤ (x6 - v4) then
   some v5
  else
   (gI N σ v0 9 7).bind fun x13 =>
  (m_X9_byteAt N σ v0 x13).bind fun r14 =>
  some ((((10 : Int32) * v5) + r14) - 48)) : Option (Int32)).bind fun z7 =>
  (gI N σ v0 9 7).bind fun x8 =>
  (pV N σ v0 9 7 (.int (x8 + 1))).bind fun σ9 =>
  L_X9_number_9 N v0 v1 v2 v3 v4 n σ9 z7
def m_X9_number (N : Nat) (σ : Hp) (t0 : Nat) (p1 : Int32) (p2 : Int32) (p3 : Int32) : Option (Int32 × Hp) :=
  (rv N σ t0 9).bind fun _ =>
  (gI N σ t0 9 7).bind fun x1 =>
  (L_X9_number_9 N t0 p1 p2 p3 x1 fu σ 0).bind fun z15 =>
  (gI N z15.2 t0 9 7).bind fun x16 =>
  ((if x16 = x1 then
   (m_X9_fails N z15.2 t0 x1 1).bind fun r31 =>
  some r31
  else
   (gI N z15.2 t0 9 7).bind fun x32 =>
  if (x32 - x1) ≤ 2 then
   some z15.2
  else
   (m_X9_fails N z15.2 t0 x1 1).bind fun r34 =>
  some r34) : Option (Hp)).bind fun z17 =>
  (m_X9_in z15.1.toInt64 p1.toInt64 p2.toInt64).bind fun r18 =>
  ((if r18 = 0 then
   (m_X9_fails N z17 t0 x1 2).bind fun r25 =>
  some r25
  else
   if z15.1 = p3 then
   (m_X9_fails N z17 t0 x1 2).bind fun r27 =>
  some r27
  else
   some z17) : Option (Hp)).bind fun z19 =>
  (gI N z19 t0 9 9).bind fun x20 =>
  if x20 = 0 then
   some (z15.1, z19)
  else
   some (0, z19)
set_option maxHeartbeats 4000000 in
set_option maxRecDepth 100000 in
theorem lp_X9_number_9 {κ : Kx} {ω : Om} (C : Cx κ 6 1 cX9_number RX9 "number") (Z : Zx κ ω) (v0 : Nat) (v1 : Int32) (v2 : Int32) (v3 : Int32) (v4 : Int32) {r : Int32 × Hp} (hk : X κ 6 ω 78 [some (.ref v0), some (.int v1), some (.int v2), some (.int v3), some (.int v4), some (.int r.1)] [] r.2) : ∀ (n : Nat) (σ : Hp) (v5 : Int32), L_X9_number_9 ω.1 v0 v1 v2 v3 v4 n σ v5 = some r → X κ 6 ω 9 [some (.ref v0), some (.int v1), some (.int v2), some (.int v3), some (.int v4), some (.int v5)] [] σ := by
  intro n
  induction n with
  | zero => intro σ v5 h; cases h
  | succ n ih =>
    intro σ v5 h
    rw [L_X9_number_9.eq_2] at h
    refine x_aload_n C (i := 0) dX9_number_9 rfl rfl ?_
    refine x_aload_n C (i := 0) dX9_number_10 rfl rfl ?_
    obtain ⟨x2, ex2, h⟩ := ob h
    refine x_getI C fl_X9_94 dX9_number_11 ex2 ?_
    obtain ⟨r3, er3, h⟩ := ob h
    refine x_callVr C Z mv_X9_byteAt lk_X9_97 (rv_h er3) (ct_X9_byteAt er3) (by decide) rfl rfl (Nat.le_of_ble_eq_true rfl) dX9_number_14 ?_
    refine x_i2l C dX9_number_17 ?_
    refine x_ldc2 C kj_X9_104 dX9_number_18 ?_
    refine x_ldc2 C kj_X9_106 dX9_number_21 ?_
    obtain ⟨r4, er4, h⟩ := ob h
    refine x_callSr C Z ms_X9_in lk_X9_56 (ct_X9_in (N := ω.1) (σ := σ) er4) (by decide) rfl rfl (Nat.le_of_ble_eq_true rfl) dX9_number_24 ?_
    refine x_if_eq C (tgt := 78) dX9_number_27 (by decide) (fun c5 => ?_) (fun c5 => ?_)
    · have h := ifP h c5
      refine x_wk [true, true, true, true, true, true] (lo' := [some (.ref v0), some (.int v1), some (.int v2), some (.int v3), some (.int v4), some (.int v5)]) rfl ?_
      obtain rfl := Option.some.inj h
      exact hk
    · have h := ifN h c5
      refine x_aload_n C (i := 0) dX9_number_30 rfl rfl ?_
      obtain ⟨x6, ex6, h⟩ := ob h
      refine x_getI C fl_X9_94 dX9_number_31 ex6 ?_
      refine x_iload C (i := 4) dX9_number_34 rfl ?_
      refine x_isub C dX9_number_36 ?_
      refine x_iconst C (v := 2) dX9_number_37 (by decide) ?_
      obtain ⟨z7, hz7, h⟩ := ob h
      have hJ10 : X κ 6 ω 63 [some (.ref v0), some (.int v1), some (.int v2), some (.int v3), some (.int v4), none] [.int z7] σ := by
        refine x_istore C (i := 5) (lo' := [some (.ref v0), some (.int v1), some (.int v2), some (.int v3), some (.int v4), some (.int z7)]) dX9_number_63 (by decide) rfl rfl ?_
        refine x_aload_n C (i := 0) dX9_number_65 rfl rfl ?_
        refine x_dup C dX9_number_66 rfl ?_
        obtain ⟨x8, ex8, h⟩ := ob h
        refine x_getI C fl_X9_94 dX9_number_67 ex8 ?_
        refine x_iconst C (v := 1) dX9_number_70 (by decide) ?_
        refine x_iadd C dX9_number_71 ?_
        obtain ⟨σ9, eσ9, h⟩ := ob h
        refine x_put C pl_X9_94 dX9_number_72 (fun _ => ⟨rfl, rfl⟩) eσ9 ?_
        refine x_goto C (tgt := 9) dX9_number_75 (by decide) ?_
        refine x_wk [true, true, true, true, true, true] (lo' := [some (.ref v0), some (.int v1), some (.int v2), some (.int v3), some (.int v4), some (.int z7)]) rfl ?_
        exact ih σ9 z7 h
      clear h
      have h := hz7
      refine x_icmp_ge C (tgt := 61) dX9_number_38 (by decide) (fun c12 => ?_) (fun c12 => ?_)
      · have h := ifP h c12
        refine x_iload C (i := 5) dX9_number_61 rfl ?_
        refine x_wk [true, true, true, true, true, false] (lo' := [some (.ref v0), some (.int v1), some (.int v2), some (.int v3), some (.int v4), none]) rfl ?_
        obtain rfl := Option.some.inj h
        exact hJ10
      · have h := ifN h c12
        refine x_bipush C (v := 10) dX9_number_41 (by decide) ?_
        refine x_iload C (i := 5) dX9_number_43 rfl ?_
        refine x_imul C dX9_number_45 ?_
        refine x_aload_n C (i := 0) dX9_number_46 rfl rfl ?_
        refine x_aload_n C (i := 0) dX9_number_47 rfl rfl ?_
        obtain ⟨x13, ex13, h⟩ := ob h
        refine x_getI C fl_X9_94 dX9_number_48 ex13 ?_
        obtain ⟨r14, er14, h⟩ := ob h
        refine x_callVr C Z mv_X9_byteAt lk_X9_97 (rv_h er14) (ct_X9_byteAt er14) (by decide) rfl rfl (Nat.le_of_ble_eq_true rfl) dX9_number_51 ?_
        refine x_iadd C dX9_number_54 ?_
        refine x_bipush C (v := 48) dX9_number_55 (by decide) ?_
        refine x_isub C dX9_number_57 ?_
        refine x_goto C (tgt := 63) dX9_number_58 (by decide) ?_
        refine x_wk [true, true, true, true, true, false] (lo' := [some (.ref v0), some (.int v1), some (.int v2), some (.int v3), some (.int v4), none]) rfl ?_
        obtain rfl := Option.some.inj h
        exact hJ10
set_option maxHeartbeats 4000000 in
set_option maxRecDepth 100000 in
theorem ct_X9_number {l : Launch} {D : va_G} {cy : Nat → Nat} {N : Nat} {σ : Hp} {t0 : Nat} {p1 : Int32} {p2 : Int32} {p3 : Int32} {r : Int32 × Hp} (h : m_X9_number N σ t0 p1 p2 p3 = some r) : Ct l D cy yX9_number cX9_number 6 (some .int) 1 [.ref t0, .int p1, .int p2, .int p3] N σ (fun v s' => v = (some (.int r.1)) ∧ s' = r.2) := by
  refine Ct.intro [some (.ref t0), some (.int p1), some (.int p2), some (.int p3), none, none] (by decide) rfl (Nat.le_of_ble_eq_true rfl) ?_
  intro κ ω e1 e2 e3 e4 C Z E
  subst e1; subst e2; subst e3; subst e4
  have C : Cx κ 6 1 cX9_number RX9 "number" := C
  have hE : ∀ x : Int32 × Hp, r = x → ((some (Value.int x.1)) = (some (Value.int r.1)) ∧ x.2 = r.2) := fun x hx => by subst hx; exact ⟨rfl, rfl⟩
  unfold m_X9_number at h
  obtain ⟨_, _, h⟩ := ob h
  refine x_aload_n C (i := 0) dX9_number_0 rfl rfl ?_
  obtain ⟨x1, ex1, h⟩ := ob h
  refine x_getI C fl_X9_94 dX9_number_1 ex1 ?_
  refine x_istore C (i := 4) (lo' := [some (.ref t0), some (.int p1), some (.int p2), some (.int p3), some (.int x1), none]) dX9_number_4 (by decide) rfl rfl ?_
  refine x_iconst C (v := 0) dX9_number_6 (by decide) ?_
  refine x_istore C (i := 5) (lo' := [some (.ref t0), some (.int p1), some (.int p2), some (.int p3), some (.int x1), some (.int 0)]) dX9_number_7 (by decide) rfl rfl ?_
  obtain ⟨z15, ez15, h⟩ := ob h
  refine x_wk [true, true, true, true, true, true] (lo' := [some (.ref t0), some (.int p1), some (.int p2), some (.int p3), some (.int x1), some (.int 0)]) rfl ?_
  refine lp_X9_number_9 C Z t0 p1 p2 p3 x1 ?_ _ σ 0 ez15
  refine x_aload_n C (i := 0) dX9_number_78 rfl rfl ?_
  obtain ⟨x16, ex16, h⟩ := ob h
  refine x_getI C fl_X9_94 dX9_number_79 ex16 ?_
  refine x_iload C (i := 4) dX9_number_82 rfl ?_
  obtain ⟨z17, hz17, h⟩ := ob h
  have hJ28 : X κ 6 ω 105 [some (.ref t0), some (.int p1), some (.int p2), some (.int p3), some (.int x1), some (.int z15.1)] [] z17 := by
    refine x_iload C (i := 5) dX9_number_105 rfl ?_
    refine x_i2l C dX9_number_107 ?_
    refine x_iload_n C (i := 1) dX9_number_108 rfl rfl ?_
    refine x_i2l C dX9_number_109 ?_
    refine x_iload_n C (i := 2) dX9_number_110 rfl rfl ?_
    refine x_i2l C dX9_number_111 ?_
    obtain ⟨r18, er18, h⟩ := ob h
    refine x_callSr C Z ms_X9_in lk_X9_56 (ct_X9_in (N := ω.1) (σ := z17) er18) (by decide) rfl rfl (Nat.le_of_ble_eq_true rfl) dX9_number_112 ?_
    obtain ⟨z19, hz19, h⟩ := ob h
    have hJ22 : X κ 6 ω 131 [some (.ref t0), none, none, none, none, some (.int z15.1)] [] z19 := by
      refine x_aload_n C (i := 0) dX9_number_131 rfl rfl ?_
      obtain ⟨x20, ex20, h⟩ := ob h
      refine x_getI C fl_X9_88 dX9_number_132 ex20 ?_
      refine x_if_ne C (tgt := 143) dX9_number_135 (by decide) (fun c21 => ?_) (fun c21 => ?_)
      · have h := ifN h c21
        refine x_iconst C (v := 0) dX9_number_143 (by decide) ?_
        exact x_iret C E dX9_number_144 (hE (0, z19) (Option.some.inj h).symm)
      · have h := ifP h c21
        refine x_iload C (i := 5) dX9_number_138 rfl ?_
        refine x_goto C (tgt := 144) dX9_number_140 (by decide) ?_
        exact x_iret C E dX9_number_144 (hE (z15.1, z19) (Option.some.inj h).symm)
    clear h
    have h := hz19
    refine x_if_eq C (tgt := 124) dX9_number_115 (by decide) (fun c24 => ?_) (fun c24 => ?_)
    · have h := ifP h c24
      refine x_aload_n C (i := 0) dX9_number_124 rfl rfl ?_
      refine x_iload C (i := 4) dX9_number_125 rfl ?_
      refine x_iconst C (v := 2) dX9_number_127 (by decide) ?_
      obtain ⟨r25, er25, h⟩ := ob h
      refine x_callVn C Z mv_X9_fails lk_X9_100 (rv_h er25) (ct_X9_fails er25) (by decide) rfl rfl (Nat.le_of_ble_eq_true rfl) dX9_number_128 ?_
      refine x_wk [true, false, false, false, false, true] (lo' := [some (.ref t0), none, none, none, none, some (.int z15.1)]) rfl ?_
      obtain rfl := Option.some.inj h
      exact hJ22
    · have h := ifN h c24
      refine x_iload C (i := 5) dX9_number_118 rfl ?_
      refine x_iload_n C (i := 3) dX9_number_120 rfl rfl ?_
      refine x_icmp_ne C (tgt := 131) dX9_number_121 (by decide) (fun c26 => ?_) (fun c26 => ?_)
      · have h := ifN h c26
        refine x_wk [true, false, false, false, false, true] (lo' := [some (.ref t0), none, none, none, none, some (.int z15.1)]) rfl ?_
        obtain rfl := Option.some.inj h
        exact hJ22
      · have h := ifP h c26
        refine x_aload_n C (i := 0) dX9_number_124 rfl rfl ?_
        refine x_iload C (i := 4) dX9_number_125 rfl ?_
        refine x_iconst C (v := 2) dX9_number_127 (by decide) ?_
        obtain ⟨r27, er27, h⟩ := ob h
        refine x_callVn C Z mv_X9_fails lk_X9_100 (rv_h er27) (ct_X9_fails er27) (by decide) rfl rfl (Nat.le_of_ble_eq_true rfl) dX9_number_128 ?_
        refine x_wk [true, false, false, false, false, true] (lo' := [some (.ref t0), none, none, none, none, some (.int z15.1)]) rfl ?_
        obtain rfl := Option.some.inj h
        exact hJ22
  clear h
  have h := hz17
  refine x_icmp_eq C (tgt := 98) dX9_number_84 (by decide) (fun c30 => ?_) (fun c30 => ?_)
  · have h := ifP h c30
    refine x_aload_n C (i := 0) dX9_number_98 rfl rfl ?_
    refine x_iload C (i := 4) dX9_number_99 rfl ?_
    refine x_iconst C (v := 1) dX9_number_101 (by decide) ?_
    obtain ⟨r31, er31, h⟩ := ob h
    refine x_callVn C Z mv_X9_fails lk_X9_100 (rv_h er31) (ct_X9_fails er31) (by decide) rfl rfl (Nat.le_of_ble_eq_true rfl) dX9_number_102 ?_
    refine x_wk [true, true, true, true, true, true] (lo' := [some (.ref t0), some (.int p1), some (.int p2), some (.int p3), some (.int x1), some (.int z15.1)]) rfl ?_
    obtain rfl := Option.some.inj h
    exact hJ28
  · have h := ifN h c30
    refine x_aload_n C (i := 0) dX9_number_87 rfl rfl ?_
    obtain ⟨x32, ex32, h⟩ := ob h
    refine x_getI C fl_X9_94 dX9_number_88 ex32 ?_
    refine x_iload C (i := 4) dX9_number_91 rfl ?_
    refine x_isub C dX9_number_93 ?_
    refine x_iconst C (v := 2) dX9_number_94 (by decide) ?_
    refine x_icmp_le C (tgt := 105) dX9_number_95 (by decide) (fun c33 => ?_) (fun c33 => ?_)
    · have h := ifP h c33
      refine x_wk [true, true, true, true, true, true] (lo' := [some (.ref t0), some (.int p1), some (.int p2), some (.int p3), some (.int x1), some (.int z15.1)]) rfl ?_
      obtain rfl := Option.some.inj h
      exact hJ28
    · have h := ifN h c33
      refine x_aload_n C (i := 0) dX9_number_98 rfl rfl ?_
      refine x_iload C (i := 4) dX9_number_99 rfl ?_
      refine x_iconst C (v := 1) dX9_number_101 (by decide) ?_
      obtain ⟨r34, er34, h⟩ := ob h
      refine x_callVn C Z mv_X9_fails lk_X9_100 (rv_h er34) (ct_X9_fails er34) (by decide) rfl rfl (Nat.le_of_ble_eq_true rfl) dX9_number_102 ?_
      refine x_wk [true, true, true, true, true, true] (lo' := [some (.ref t0), some (.int p1), some (.int p2), some (.int p3), some (.int x1), some (.int z15.1)]) rfl ?_
      obtain rfl := Option.some.inj h
      exact hJ28
