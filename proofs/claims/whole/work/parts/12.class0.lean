theorem dX2_init_0 : decode cX2_init 0 = .ok (.aload_n 0, 1) := by decide +kernel
theorem dX2_init_1 : decode cX2_init 1 = .ok (.invokespecial 3, 3) := by decide +kernel
theorem dX2_init_4 : decode cX2_init 4 = .ok (.return_, 1) := by decide +kernel
noncomputable def m_X2_init (N : Nat) (σ : Hp) (t0 : Nat) : Option (Nat × Hp) :=
  some (N, σ)
set_option maxHeartbeats 4000000 in
set_option maxRecDepth 100000 in
theorem ct_X2_init {l : Launch} {D : va_G} {cy : Nat → Nat} {N : Nat} {σ : Hp} {t0 : Nat} {r : Nat × Hp} (h : m_X2_init N σ t0 = some r) : CtA l D cy yX2_init cX2_init 1 none 1 0 0 [.ref t0] N σ (fun v n' s' => v = none ∧ n' = r.1 ∧ s' = r.2) := by
  refine CtA.intro [some (.ref t0)] (by decide) rfl (Nat.le_of_ble_eq_true rfl) ?_
  intro κ ad0 e1 e2 e3 hRc hRs C Z E
  subst e1; subst e2; subst e3
  have C : Cx κ 1 1 cX2_init RX2 "<init>" := C
  have G := Ag.rf N ad0 0 0
  have hE : ∀ x : Nat × Hp, r = x → ((none : Option Value) = (none : Option Value) ∧ x.1 = r.1 ∧ x.2 = r.2) := fun x hx => by subst hx; exact ⟨rfl, rfl, rfl⟩
  unfold m_X2_init at h
  refine x_aload_n C (i := 0) dX2_init_0 rfl rfl ?_
  refine x_objInit C (by decide) oi_X2 oi_inst oi_code (Nat.le_of_ble_eq_true rfl) dX2_init_1 ?_
  exact x_vretA C E G ⟨hRc ▸ Z.1.1, hRs ▸ Z.1.2⟩ dX2_init_4 (hE (N, σ) (Option.some.inj h).symm)
theorem dX0_init_0 : decode cX0_init 0 = .ok (.aload_n 0, 1) := by decide +kernel
theorem dX0_init_1 : decode cX0_init 1 = .ok (.invokespecial 3, 3) := by decide +kernel
theorem dX0_init_4 : decode cX0_init 4 = .ok (.aload_n 0, 1) := by decide +kernel
theorem dX0_init_5 : decode cX0_init 5 = .ok (.bipush 24, 2) := by decide +kernel
theorem dX0_init_7 : decode cX0_init 7 = .ok (.anewarray 9, 3) := by decide +kernel
theorem dX0_init_10 : decode cX0_init 10 = .ok (.putfield 11, 3) := by decide +kernel
theorem dX0_init_13 : decode cX0_init 13 = .ok (.iconst 0, 1) := by decide +kernel
theorem dX0_init_14 : decode cX0_init 14 = .ok (.istore_n 1, 1) := by decide +kernel
theorem dX0_init_15 : decode cX0_init 15 = .ok (.iload_n 1, 1) := by decide +kernel
theorem dX0_init_16 : decode cX0_init 16 = .ok (.bipush 24, 2) := by decide +kernel
theorem dX0_init_18 : decode cX0_init 18 = .ok (.if_icmp .ge 22, 3) := by decide +kernel
theorem dX0_init_21 : decode cX0_init 21 = .ok (.aload_n 0, 1) := by decide +kernel
theorem dX0_init_22 : decode cX0_init 22 = .ok (.getfield 11, 3) := by decide +kernel
theorem dX0_init_25 : decode cX0_init 25 = .ok (.iload_n 1, 1) := by decide +kernel
theorem dX0_init_26 : decode cX0_init 26 = .ok (.new 9, 3) := by decide +kernel
theorem dX0_init_29 : decode cX0_init 29 = .ok (.dup, 1) := by decide +kernel
theorem dX0_init_30 : decode cX0_init 30 = .ok (.invokespecial 17, 3) := by decide +kernel
theorem dX0_init_33 : decode cX0_init 33 = .ok (.aastore, 1) := by decide +kernel
theorem dX0_init_34 : decode cX0_init 34 = .ok (.iinc 1 1, 3) := by decide +kernel
theorem dX0_init_37 : decode cX0_init 37 = .ok (.goto (-22), 3) := by decide +kernel
theorem dX0_init_40 : decode cX0_init 40 = .ok (.return_, 1) := by decide +kernel
noncomputable def L_X0_init_15 (v0 : Nat) : Nat → Nat → Nat → Nat → Hp → Int32 → Option (Nat × Nat × Nat × Hp)
  | 0, _, _, _, _, _ => none
  | n + 1, N, c, s, σ, v1 =>
  if 24 ≤ v1 then
   some (N, c, s, σ)
  else
   (gR N σ v0 0 0).bind fun x5 =>
  (al N σ [v0, x5] (c + 1) (s + 6) 25 168).bind fun u6 =>
  (mkc σ N (.inr (2, [.int 0, .int 0, .int 0, .int 0, .int 0, .int 0]))).bind fun σ7 =>
  (al (N + 1) σ7 [v0, N, x5] (c + 1 + 0) (s + 6 + 0) 25 168).bind fun u8 =>
  (m_X2_init (N + 1) σ7 N).bind fun r10 =>
  (nb r10.1).bind fun u9 =>
  (sR 4 2 r10.1 r10.2 x5 v1 N).bind fun σ11 =>
  L_X0_init_15 v0 n r10.1 (c + 1 + 0) (s + 6 + 0) σ11 (v1 + 1)
noncomputable def m_X0_init (N : Nat) (σ : Hp) (t0 : Nat) : Option (Nat × Hp) :=
  (al N σ [t0, t0] (0 + 1) (0 + 24) 25 168).bind fun u1 =>
  (mkc σ N (.inl (4, 24, .inr (.inr (.inr (.inr (fun _ => none))))))).bind fun σ2 =>
  (pV (N + 1) σ2 t0 0 0 (.ref N)).bind fun σ3 =>
  (L_X0_init_15 t0 fu (N + 1) (0 + 1) (0 + 24) σ3 0).bind fun z12 =>
  some (z12.1, z12.2.2.2)
set_option maxHeartbeats 4000000 in
set_option maxRecDepth 100000 in
theorem lp_X0_init_15 {κ : Kx} {N0 : Nat} {ad0 : Nat → Nat} (C : Cx κ 2 2 cX0_init RX0 "<init>") (hRc : κ.R.cells = 25) (hRs : κ.R.slots = 168) (v0 : Nat) {r : Nat × Nat × Nat × Hp} (hk : ∀ ad, Zx κ (r.1, ad, r.2.1, r.2.2.1) → Ag N0 ad0 (r.1, ad, r.2.1, r.2.2.1) → X κ 2 (r.1, ad, r.2.1, r.2.2.1) 40 [none, none] [] r.2.2.2) : ∀ (n N : Nat) (ad : Nat → Nat) (c s : Nat) (σ : Hp) (v1 : Int32), L_X0_init_15 v0 n N c s σ v1 = some r → Zx κ (N, ad, c, s) → Ag N0 ad0 (N, ad, c, s) → X κ 2 (N, ad, c, s) 15 [some (.ref v0), some (.int v1)] [] σ := by
  intro n
  induction n with
  | zero => intro N ad c s σ v1 h; cases h
  | succ n ih =>
    intro N ad c s σ v1 h Z G
    rw [L_X0_init_15.eq_2] at h
    refine x_iload_n C (i := 1) dX0_init_15 rfl rfl ?_
    refine x_bipush C (v := 24) dX0_init_16 (by decide) ?_
    refine x_icmp_ge C (tgt := 40) dX0_init_18 (by decide) (fun c4 => ?_) (fun c4 => ?_)
    · have h := ifP h c4
      refine x_wk [false, false] (lo' := [none, none]) rfl ?_
      obtain rfl := Option.some.inj h
      exact hk _ Z G
    · have h := ifN h c4
      refine x_aload_n C (i := 0) dX0_init_21 rfl rfl ?_
      obtain ⟨x5, ex5, h⟩ := ob h
      refine x_getR C fl_X0_11 dX0_init_22 ex5 ?_
      refine x_iload_n C (i := 1) dX0_init_25 rfl rfl ?_
      obtain ⟨u6, eu6, h⟩ := ob h
      obtain ⟨σ7, eσ7, h⟩ := ob h
      refine g_new C Z G hRc hRs nw_X0_9 eu6 rfl eσ7 dX0_init_26 (fun ad Z G => ?_)
      refine x_dup C dX0_init_29 rfl ?_
      obtain ⟨u8, eu8, h⟩ := ob h
      obtain ⟨r10, er10, h⟩ := ob h
      obtain ⟨u9, eu9, h⟩ := ob h
      refine g_callI C Z G hRc hRs mi_X2_init lk_X0_17 (ct_X2_init er10) (by decide) rfl rfl (Nat.le_of_ble_eq_true rfl) eu8 rfl eu9 dX0_init_30 (fun ad Z G => ?_)
      obtain ⟨σ11, eσ11, h⟩ := ob h
      refine x_aast C (ci := 2) (t := 4) rfl rfl dX0_init_33 eσ11 ?_
      refine x_iinc C (i := 1) (y := v1 + 1) (lo' := [some (.ref v0), some (.int (v1 + 1))]) dX0_init_34 rfl rfl (by decide) rfl rfl ?_
      refine x_goto C (tgt := 15) dX0_init_37 (by decide) ?_
      refine x_wk [true, true] (lo' := [some (.ref v0), some (.int (v1 + 1))]) rfl ?_
      exact ih _ _ _ _ _ (v1 + 1) h Z G
set_option maxHeartbeats 4000000 in
set_option maxRecDepth 100000 in
theorem ct_X0_init {l : Launch} {D : va_G} {cy : Nat → Nat} {N : Nat} {σ : Hp} {t0 : Nat} {r : Nat × Hp} (h : m_X0_init N σ t0 = some r) : CtA l D cy yX0_init cX0_init 2 none 2 25 168 [.ref t0] N σ (fun v n' s' => v = none ∧ n' = r.1 ∧ s' = r.2) := by
  refine CtA.intro [some (.ref t0), none] (by decide) rfl (Nat.le_of_ble_eq_true rfl) ?_
  intro κ ad0 e1 e2 e3 hRc hRs C Z E
  subst e1; subst e2; subst e3
  have C : Cx κ 2 2 cX0_init RX0 "<init>" := C
  have G := Ag.rf N ad0 0 0
  have hE : ∀ x : Nat × Hp, r = x → ((none : Option Value) = (none : Option Value) ∧ x.1 = r.1 ∧ x.2 = r.2) := fun x hx => by subst hx; exact ⟨rfl, rfl, rfl⟩
  unfold m_X0_init at h
  refine x_aload_n C (i := 0) dX0_init_0 rfl rfl ?_
  refine x_objInit C (by decide) oi_X0 oi_inst oi_code (Nat.le_of_ble_eq_true rfl) dX0_init_1 ?_
  refine x_aload_n C (i := 0) dX0_init_4 rfl rfl ?_
  refine x_bipush C (v := 24) dX0_init_5 (by decide) ?_
  obtain ⟨u1, eu1, h⟩ := ob h
  obtain ⟨σ2, eσ2, h⟩ := ob h
  refine g_newQ C Z G hRc hRs 24 4 rfl wc_X0_9 wo_Board (by decide) (by decide) (by decide) eu1 rfl eσ2 dX0_init_7 (fun ad Z G => ?_)
  obtain ⟨σ3, eσ3, h⟩ := ob h
  refine x_putF C pf_X0_11 dX0_init_10 (fun _ => ⟨rfl, rfl⟩) eσ3 ?_
  refine x_iconst C (v := 0) dX0_init_13 (by decide) ?_
  refine x_istore_n C (i := 1) (lo' := [some (.ref t0), some (.int 0)]) dX0_init_14 rfl (by decide) rfl rfl ?_
  obtain ⟨z12, ez12, h⟩ := ob h
  refine x_wk [true, true] (lo' := [some (.ref t0), some (.int 0)]) rfl ?_
  refine lp_X0_init_15 C hRc hRs t0 (fun ad Z G => ?_) _ _ _ _ _ _ 0 ez12 Z G
  exact x_vretA C E G ⟨hRc ▸ Z.1.1, hRs ▸ Z.1.2⟩ dX0_init_40 (hE (z12.1, z12.2.2.2) (Option.some.inj h).symm)
theorem dX2_take_0 : decode cX2_take 0 = .ok (.aload_n 0, 1) := by decide +kernel
theorem dX2_take_1 : decode cX2_take 1 = .ok (.aload_n 1, 1) := by decide +kernel
theorem dX2_take_2 : decode cX2_take 2 = .ok (.getfield 9, 3) := by decide +kernel
theorem dX2_take_5 : decode cX2_take 5 = .ok (.putfield 9, 3) := by decide +kernel
theorem dX2_take_8 : decode cX2_take 8 = .ok (.aload_n 0, 1) := by decide +kernel
theorem dX2_take_9 : decode cX2_take 9 = .ok (.aload_n 1, 1) := by decide +kernel
theorem dX2_take_10 : decode cX2_take 10 = .ok (.getfield 15, 3) := by decide +kernel
theorem dX2_take_13 : decode cX2_take 13 = .ok (.putfield 15, 3) := by decide +kernel
theorem dX2_take_16 : decode cX2_take 16 = .ok (.aload_n 0, 1) := by decide +kernel
theorem dX2_take_17 : decode cX2_take 17 = .ok (.aload_n 1, 1) := by decide +kernel
theorem dX2_take_18 : decode cX2_take 18 = .ok (.getfield 18, 3) := by decide +kernel
theorem dX2_take_21 : decode cX2_take 21 = .ok (.putfield 18, 3) := by decide +kernel
theorem dX2_take_24 : decode cX2_take 24 = .ok (.aload_n 0, 1) := by decide +kernel
theorem dX2_take_25 : decode cX2_take 25 = .ok (.aload_n 1, 1) := by decide +kernel
theorem dX2_take_26 : decode cX2_take 26 = .ok (.getfield 21, 3) := by decide +kernel
theorem dX2_take_29 : decode cX2_take 29 = .ok (.putfield 21, 3) := by decide +kernel
theorem dX2_take_32 : decode cX2_take 32 = .ok (.aload_n 0, 1) := by decide +kernel
theorem dX2_take_33 : decode cX2_take 33 = .ok (.aload_n 1, 1) := by decide +kernel
theorem dX2_take_34 : decode cX2_take 34 = .ok (.getfield 24, 3) := by decide +kernel
theorem dX2_take_37 : decode cX2_take 37 = .ok (.putfield 24, 3) := by decide +kernel
theorem dX2_take_40 : decode cX2_take 40 = .ok (.aload_n 0, 1) := by decide +kernel
theorem dX2_take_41 : decode cX2_take 41 = .ok (.aload_n 1, 1) := by decide +kernel
theorem dX2_take_42 : decode cX2_take 42 = .ok (.getfield 27, 3) := by decide +kernel
theorem dX2_take_45 : decode cX2_take 45 = .ok (.putfield 27, 3) := by decide +kernel
theorem dX2_take_48 : decode cX2_take 48 = .ok (.return_, 1) := by decide +kernel
def m_X2_take (N : Nat) (σ : Hp) (t0 : Nat) (p1 : Nat) : Option (Hp) :=
  (rv N σ t0 2).bind fun _ =>
  (gI N σ p1 2 0).bind fun x1 =>
  (pV N σ t0 2 0 (.int x1)).bind fun σ2 =>
  (gI N σ2 p1 2 1).bind fun x3 =>
  (pV N σ2 t0 2 1 (.int x3)).bind fun σ4 =>
  (gI N σ4 p1 2 2).bind fun x5 =>
  (pV N σ4 t0 2 2 (.int x5)).bind fun σ6 =>
  (gI N σ6 p1 2 3).bind fun x7 =>
  (pV N σ6 t0 2 3 (.int x7)).bind fun σ8 =>
  (gI N σ8 p1 2 4).bind fun x9 =>
  (pV N σ8 t0 2 4 (.int x9)).bind fun σ10 =>
  (gI N σ10 p1 2 5).bind fun x11 =>
  (pV N σ10 t0 2 5 (.int x11)).bind fun σ12 =>
  some σ12
set_option maxHeartbeats 4000000 in
set_option maxRecDepth 100000 in
theorem ct_X2_take {l : Launch} {D : va_G} {cy : Nat → Nat} {N : Nat} {σ : Hp} {t0 : Nat} {p1 : Nat} {r : Hp} (h : m_X2_take N σ t0 p1 = some r) : Ct l D cy yX2_take cX2_take 2 none 0 [.ref t0, .ref p1] N σ (fun v s' => v = none ∧ s' = r) := by
  refine Ct.intro [some (.ref t0), some (.ref p1)] (by decide) rfl (Nat.le_of_ble_eq_true rfl) ?_
  intro κ ω e1 e2 e3 e4 C Z E
  subst e1; subst e2; subst e3; subst e4
  have C : Cx κ 2 0 cX2_take RX2 "take" := C
  have hE : ∀ x : Hp, r = x → ((none : Option Value) = none ∧ x = r) := fun x hx => by subst hx; exact ⟨rfl, rfl⟩
  unfold m_X2_take at h
  obtain ⟨_, _, h⟩ := ob h
  refine x_aload_n C (i := 0) dX2_take_0 rfl rfl ?_
  refine x_aload_n C (i := 1) dX2_take_1 rfl rfl ?_
  obtain ⟨x1, ex1, h⟩ := ob h
  refine x_getI C fl_X2_9 dX2_take_2 ex1 ?_
  obtain ⟨σ2, eσ2, h⟩ := ob h
  refine x_put C pl_X2_9 dX2_take_5 (fun _ => ⟨rfl, rfl⟩) eσ2 ?_
  refine x_aload_n C (i := 0) dX2_take_8 rfl rfl ?_
  refine x_aload_n C (i := 1) dX2_take_9 rfl rfl ?_
  obtain ⟨x3, ex3, h⟩ := ob h
  refine x_getI C fl_X2_15 dX2_take_10 ex3 ?_
  obtain ⟨σ4, eσ4, h⟩ := ob h
  refine x_put C pl_X2_15 dX2_take_13 (fun _ => ⟨rfl, rfl⟩) eσ4 ?_
  refine x_aload_n C (i := 0) dX2_take_16 rfl rfl ?_
  refine x_aload_n C (i := 1) dX2_take_17 rfl rfl ?_
  obtain ⟨x5, ex5, h⟩ := ob h
  refine x_getI C fl_X2_18 dX2_take_18 ex5 ?_
  obtain ⟨σ6, eσ6, h⟩ := ob h
  refine x_put C pl_X2_18 dX2_take_21 (fun _ => ⟨rfl, rfl⟩) eσ6 ?_
  refine x_aload_n C (i := 0) dX2_take_24 rfl rfl ?_
  refine x_aload_n C (i := 1) dX2_take_25 rfl rfl ?_
  obtain ⟨x7, ex7, h⟩ := ob h
  refine x_getI C fl_X2_21 dX2_take_26 ex7 ?_
  obtain ⟨σ8, eσ8, h⟩ := ob h
  refine x_put C pl_X2_21 dX2_take_29 (fun _ => ⟨rfl, rfl⟩) eσ8 ?_
  refine x_aload_n C (i := 0) dX2_take_32 rfl rfl ?_
  refine x_aload_n C (i := 1) dX2_take_33 rfl rfl ?_
  obtain ⟨x9, ex9, h⟩ := ob h
  refine x_getI C fl_X2_24 dX2_take_34 ex9 ?_
  obtain ⟨σ10, eσ10, h⟩ := ob h
  refine x_put C pl_X2_24 dX2_take_37 (fun _ => ⟨rfl, rfl⟩) eσ10 ?_
  refine x_aload_n C (i := 0) dX2_take_40 rfl rfl ?_
  refine x_aload_n C (i := 1) dX2_take_41 rfl rfl ?_
  obtain ⟨x11, ex11, h⟩ := ob h
  refine x_getI C fl_X2_27 dX2_take_42 ex11 ?_
  obtain ⟨σ12, eσ12, h⟩ := ob h
  refine x_put C pl_X2_27 dX2_take_45 (fun _ => ⟨rfl, rfl⟩) eσ12 ?_
  exact x_vret C E dX2_take_48 (hE σ12 (Option.some.inj h).symm)
theorem dX0_keep_0 : decode cX0_keep 0 = .ok (.aload_n 0, 1) := by decide +kernel
theorem dX0_keep_1 : decode cX0_keep 1 = .ok (.getfield 11, 3) := by decide +kernel
theorem dX0_keep_4 : decode cX0_keep 4 = .ok (.aload_n 0, 1) := by decide +kernel
theorem dX0_keep_5 : decode cX0_keep 5 = .ok (.getfield 18, 3) := by decide +kernel
theorem dX0_keep_8 : decode cX0_keep 8 = .ok (.aaload, 1) := by decide +kernel
theorem dX0_keep_9 : decode cX0_keep 9 = .ok (.aload_n 1, 1) := by decide +kernel
theorem dX0_keep_10 : decode cX0_keep 10 = .ok (.invokevirtual 22, 3) := by decide +kernel
theorem dX0_keep_13 : decode cX0_keep 13 = .ok (.aload_n 0, 1) := by decide +kernel
theorem dX0_keep_14 : decode cX0_keep 14 = .ok (.aload_n 0, 1) := by decide +kernel
theorem dX0_keep_15 : decode cX0_keep 15 = .ok (.getfield 18, 3) := by decide +kernel
theorem dX0_keep_18 : decode cX0_keep 18 = .ok (.iconst 1, 1) := by decide +kernel
theorem dX0_keep_19 : decode cX0_keep 19 = .ok (.iadd, 1) := by decide +kernel
theorem dX0_keep_20 : decode cX0_keep 20 = .ok (.bipush 24, 2) := by decide +kernel
theorem dX0_keep_22 : decode cX0_keep 22 = .ok (.if_icmp .ge 12, 3) := by decide +kernel
theorem dX0_keep_25 : decode cX0_keep 25 = .ok (.aload_n 0, 1) := by decide +kernel
theorem dX0_keep_26 : decode cX0_keep 26 = .ok (.getfield 18, 3) := by decide +kernel
theorem dX0_keep_29 : decode cX0_keep 29 = .ok (.iconst 1, 1) := by decide +kernel
theorem dX0_keep_30 : decode cX0_keep 30 = .ok (.iadd, 1) := by decide +kernel
theorem dX0_keep_31 : decode cX0_keep 31 = .ok (.goto 4, 3) := by decide +kernel
theorem dX0_keep_34 : decode cX0_keep 34 = .ok (.iconst 0, 1) := by decide +kernel
theorem dX0_keep_35 : decode cX0_keep 35 = .ok (.putfield 18, 3) := by decide +kernel
theorem dX0_keep_38 : decode cX0_keep 38 = .ok (.aload_n 0, 1) := by decide +kernel
theorem dX0_keep_39 : decode cX0_keep 39 = .ok (.aload_n 0, 1) := by decide +kernel
theorem dX0_keep_40 : decode cX0_keep 40 = .ok (.getfield 26, 3) := by decide +kernel
theorem dX0_keep_43 : decode cX0_keep 43 = .ok (.bipush 24, 2) := by decide +kernel
theorem dX0_keep_45 : decode cX0_keep 45 = .ok (.if_icmp .ge 12, 3) := by decide +kernel
theorem dX0_keep_48 : decode cX0_keep 48 = .ok (.aload_n 0, 1) := by decide +kernel
theorem dX0_keep_49 : decode cX0_keep 49 = .ok (.getfield 26, 3) := by decide +kernel
theorem dX0_keep_52 : decode cX0_keep 52 = .ok (.iconst 1, 1) := by decide +kernel
theorem dX0_keep_53 : decode cX0_keep 53 = .ok (.iadd, 1) := by decide +kernel
theorem dX0_keep_54 : decode cX0_keep 54 = .ok (.goto 5, 3) := by decide +kernel
theorem dX0_keep_57 : decode cX0_keep 57 = .ok (.bipush 24, 2) := by decide +kernel
theorem dX0_keep_59 : decode cX0_keep 59 = .ok (.putfield 26, 3) := by decide +kernel
theorem dX0_keep_62 : decode cX0_keep 62 = .ok (.return_, 1) := by decide +kernel
def m_X0_keep (N : Nat) (σ : Hp) (t0 : Nat) (p1 : Nat) : Option (Hp) :=
  (rv N σ t0 0).bind fun _ =>
  (gR N σ t0 0 0).bind fun x1 =>
  (gI N σ t0 0 1).bind fun x2 =>
  (aR 4 N σ x1 x2).bind fun x3 =>
  (m_X2_take N σ x3 p1).bind fun r4 =>
  (gI N r4 t0 0 1).bind fun x5 =>
  ((if 24 ≤ (x5 + 1) then
   some 0
  else
   (gI N r4 t0 0 1).bind fun x18 =>
  some (x18 + 1)) : Option (Int32)).bind fun z6 =>
  (pV N r4 t0 0 1 (.int z6)).bind fun σ7 =>
  (gI N σ7 t0 0 2).bind fun x8 =>
  ((if 24 ≤ x8 then
   some 24
  else
   (gI N σ7 t0 0 2).bind fun x14 =>
  some (x14 + 1)) : Option (Int32)).bind fun z9 =>
  (pV N σ7 t0 0 2 (.int z9)).bind fun σ10 =>
  some σ10
set_option maxHeartbeats 4000000 in
set_option maxRecDepth 100000 in
theorem ct_X0_keep {l : Launch} {D : va_G} {cy : Nat → Nat} {N : Nat} {σ : Hp} {t0 : Nat} {p1 : Nat} {r : Hp} (h : m_X0_keep N σ t0 p1 = some r) : Ct l D cy yX0_keep cX0_keep 2 none 1 [.ref t0, .ref p1] N σ (fun v s' => v = none ∧ s' = r) := by
  refine Ct.intro [some (.ref t0), some (.ref p1)] (by decide) rfl (Nat.le_of_ble_eq_true rfl) ?_
  intro κ ω e1 e2 e3 e4 C Z E
  subst e1; subst e2; subst e3; subst e4
  have C : Cx κ 2 1 cX0_keep RX0 "keep" := C
  have hE : ∀ x : Hp, r = x → ((none : Option Value) = none ∧ x = r) := fun x hx => by subst hx; exact ⟨rfl, rfl⟩
  unfold m_X0_keep at h
  obtain ⟨_, _, h⟩ := ob h
  refine x_aload_n C (i := 0) dX0_keep_0 rfl rfl ?_
  obtain ⟨x1, ex1, h⟩ := ob h
  refine x_getR C fl_X0_11 dX0_keep_1 ex1 ?_
  refine x_aload_n C (i := 0) dX0_keep_4 rfl rfl ?_
  obtain ⟨x2, ex2, h⟩ := ob h
  refine x_getI C fl_X0_18 dX0_keep_5 ex2 ?_
  obtain ⟨x3, ex3, h⟩ := ob h
  refine x_aald4 C dX0_keep_8 ex3 ?_
  refine x_aload_n C (i := 1) dX0_keep_9 rfl rfl ?_
  obtain ⟨r4, er4, h⟩ := ob h
  refine x_callVn C Z mv_X2_take lk_X0_22 (rv_h er4) (ct_X2_take er4) (by decide) rfl rfl (Nat.le_of_ble_eq_true rfl) dX0_keep_10 ?_
  refine x_aload_n C (i := 0) dX0_keep_13 rfl rfl ?_
  refine x_aload_n C (i := 0) dX0_keep_14 rfl rfl ?_
  obtain ⟨x5, ex5, h⟩ := ob h
  refine x_getI C fl_X0_18 dX0_keep_15 ex5 ?_
  refine x_iconst C (v := 1) dX0_keep_18 (by decide) ?_
  refine x_iadd C dX0_keep_19 ?_
  refine x_bipush C (v := 24) dX0_keep_20 (by decide) ?_
  obtain ⟨z6, hz6, h⟩ := ob h
  have hJ15 : X κ 2 ω 35 [some (.ref t0), none] [.int z6, .ref t0] r4 := by
    obtain ⟨σ7, eσ7, h⟩ := ob h
    refine x_put C pl_X0_18 dX0_keep_35 (fun _ => ⟨rfl, rfl⟩) eσ7 ?_
    refine x_aload_n C (i := 0) dX0_keep_38 rfl rfl ?_
    refine x_aload_n C (i := 0) dX0_keep_39 rfl rfl ?_
    obtain ⟨x8, ex8, h⟩ := ob h
    refine x_getI C fl_X0_26 dX0_keep_40 ex8 ?_
    refine x_bipush C (v := 24) dX0_keep_43 (by decide) ?_
    obtain ⟨z9, hz9, h⟩ := ob h
    have hJ11 : X κ 2 ω 59 [none, none] [.int z9, .ref t0] σ7 := by
      obtain ⟨σ10, eσ10, h⟩ := ob h
      refine x_put C pl_X0_26 dX0_keep_59 (fun _ => ⟨rfl, rfl⟩) eσ10 ?_
      exact x_vret C E dX0_keep_62 (hE σ10 (Option.some.inj h).symm)
    clear h
    have h := hz9
    refine x_icmp_ge C (tgt := 57) dX0_keep_45 (by decide) (fun c13 => ?_) (fun c13 => ?_)
    · have h := ifP h c13
      refine x_bipush C (v := 24) dX0_keep_57 (by decide) ?_
      refine x_wk [false, false] (lo' := [none, none]) rfl ?_
      obtain rfl := Option.some.inj h
      exact hJ11
    · have h := ifN h c13
      refine x_aload_n C (i := 0) dX0_keep_48 rfl rfl ?_
      obtain ⟨x14, ex14, h⟩ := ob h
      refine x_getI C fl_X0_26 dX0_keep_49 ex14 ?_
      refine x_iconst C (v := 1) dX0_keep_52 (by decide) ?_
      refine x_iadd C dX0_keep_53 ?_
      refine x_goto C (tgt := 59) dX0_keep_54 (by decide) ?_
      refine x_wk [false, false] (lo' := [none, none]) rfl ?_
      obtain rfl := Option.some.inj h
      exact hJ11
  clear h
  have h := hz6
  refine x_icmp_ge C (tgt := 34) dX0_keep_22 (by decide) (fun c17 => ?_) (fun c17 => ?_)
  · have h := ifP h c17
    refine x_iconst C (v := 0) dX0_keep_34 (by decide) ?_
    refine x_wk [true, false] (lo' := [some (.ref t0), none]) rfl ?_
    obtain rfl := Option.some.inj h
    exact hJ15
  · have h := ifN h c17
    refine x_aload_n C (i := 0) dX0_keep_25 rfl rfl ?_
    obtain ⟨x18, ex18, h⟩ := ob h
    refine x_getI C fl_X0_18 dX0_keep_26 ex18 ?_
    refine x_iconst C (v := 1) dX0_keep_29 (by decide) ?_
    refine x_iadd C dX0_keep_30 ?_
    refine x_goto C (tgt := 35) dX0_keep_31 (by decide) ?_
    refine x_wk [true, false] (lo' := [some (.ref t0), none]) rfl ?_
    obtain rfl := Option.some.inj h
    exact hJ15
theorem dX0_takeBack_0 : decode cX0_takeBack 0 = .ok (.aload_n 0, 1) := by decide +kernel
theorem dX0_takeBack_1 : decode cX0_takeBack 1 = .ok (.getfield 26, 3) := by decide +kernel
theorem dX0_takeBack_4 : decode cX0_takeBack 4 = .ok (.ifCond .ne 5, 3) := by decide +kernel
theorem dX0_takeBack_7 : decode cX0_takeBack 7 = .ok (.iconst 0, 1) := by decide +kernel
theorem dX0_takeBack_8 : decode cX0_takeBack 8 = .ok (.ireturn, 1) := by decide +kernel
theorem dX0_takeBack_9 : decode cX0_takeBack 9 = .ok (.aload_n 0, 1) := by decide +kernel
theorem dX0_takeBack_10 : decode cX0_takeBack 10 = .ok (.dup, 1) := by decide +kernel
theorem dX0_takeBack_11 : decode cX0_takeBack 11 = .ok (.getfield 26, 3) := by decide +kernel
theorem dX0_takeBack_14 : decode cX0_takeBack 14 = .ok (.iconst 1, 1) := by decide +kernel
theorem dX0_takeBack_15 : decode cX0_takeBack 15 = .ok (.isub, 1) := by decide +kernel
theorem dX0_takeBack_16 : decode cX0_takeBack 16 = .ok (.putfield 26, 3) := by decide +kernel
theorem dX0_takeBack_19 : decode cX0_takeBack 19 = .ok (.aload_n 0, 1) := by decide +kernel
theorem dX0_takeBack_20 : decode cX0_takeBack 20 = .ok (.aload_n 0, 1) := by decide +kernel
theorem dX0_takeBack_21 : decode cX0_takeBack 21 = .ok (.getfield 18, 3) := by decide +kernel
theorem dX0_takeBack_24 : decode cX0_takeBack 24 = .ok (.ifCond .le 12, 3) := by decide +kernel
theorem dX0_takeBack_27 : decode cX0_takeBack 27 = .ok (.aload_n 0, 1) := by decide +kernel
theorem dX0_takeBack_28 : decode cX0_takeBack 28 = .ok (.getfield 18, 3) := by decide +kernel
theorem dX0_takeBack_31 : decode cX0_takeBack 31 = .ok (.iconst 1, 1) := by decide +kernel
theorem dX0_takeBack_32 : decode cX0_takeBack 32 = .ok (.isub, 1) := by decide +kernel
theorem dX0_takeBack_33 : decode cX0_takeBack 33 = .ok (.goto 5, 3) := by decide +kernel
theorem dX0_takeBack_36 : decode cX0_takeBack 36 = .ok (.bipush 23, 2) := by decide +kernel
theorem dX0_takeBack_38 : decode cX0_takeBack 38 = .ok (.putfield 18, 3) := by decide +kernel
theorem dX0_takeBack_41 : decode cX0_takeBack 41 = .ok (.aload_n 1, 1) := by decide +kernel
theorem dX0_takeBack_42 : decode cX0_takeBack 42 = .ok (.aload_n 0, 1) := by decide +kernel
theorem dX0_takeBack_43 : decode cX0_takeBack 43 = .ok (.getfield 11, 3) := by decide +kernel
theorem dX0_takeBack_46 : decode cX0_takeBack 46 = .ok (.aload_n 0, 1) := by decide +kernel
theorem dX0_takeBack_47 : decode cX0_takeBack 47 = .ok (.getfield 18, 3) := by decide +kernel
theorem dX0_takeBack_50 : decode cX0_takeBack 50 = .ok (.aaload, 1) := by decide +kernel
theorem dX0_takeBack_51 : decode cX0_takeBack 51 = .ok (.invokevirtual 22, 3) := by decide +kernel
theorem dX0_takeBack_54 : decode cX0_takeBack 54 = .ok (.iconst 1, 1) := by decide +kernel
theorem dX0_takeBack_55 : decode cX0_takeBack 55 = .ok (.ireturn, 1) := by decide +kernel
def m_X0_takeBack (N : Nat) (σ : Hp) (t0 : Nat) (p1 : Nat) : Option (Int32 × Hp) :=
  (rv N σ t0 0).bind fun _ =>
  (gI N σ t0 0 2).bind fun x1 =>
  if x1 = 0 then
   some (0, σ)
  else
   (gI N σ t0 0 2).bind fun x3 =>
  (pV N σ t0 0 2 (.int (x3 - 1))).bind fun σ4 =>
  (gI N σ4 t0 0 1).bind fun x5 =>
  ((if x5 ≤ 0 then
   some 23
  else
   (gI N σ4 t0 0 1).bind fun x15 =>
  some (x15 - 1)) : Option (Int32)).bind fun z6 =>
  (pV N σ4 t0 0 1 (.int z6)).bind fun σ7 =>
  (gR N σ7 t0 0 0).bind fun x8 =>
  (gI N σ7 t0 0 1).bind fun x9 =>
  (aR 4 N σ7 x8 x9).bind fun x10 =>
  (m_X2_take N σ7 p1 x10).bind fun r11 =>
  some (1, r11)
set_option maxHeartbeats 4000000 in
set_option maxRecDepth 100000 in
theorem ct_X0_takeBack {l : Launch} {D : va_G} {cy : Nat → Nat} {N : Nat} {σ : Hp} {t0 : Nat} {p1 : Nat} {r : Int32 × Hp} (h : m_X0_takeBack N σ t0 p1 = some r) : Ct l D cy yX0_takeBack cX0_takeBack 2 (some .boolean) 1 [.ref t0, .ref p1] N σ (fun v s' => v = (some (.int r.1)) ∧ s' = r.2) := by
  refine Ct.intro [some (.ref t0), some (.ref p1)] (by decide) rfl (Nat.le_of_ble_eq_true rfl) ?_
  intro κ ω e1 e2 e3 e4 C Z E
  subst e1; subst e2; subst e3; subst e4
  have C : Cx κ 2 1 cX0_takeBack RX0 "takeBack" := C
  have hE : ∀ x : Int32 × Hp, r = x → ((some (Value.int x.1)) = (some (Value.int r.1)) ∧ x.2 = r.2) := fun x hx => by subst hx; exact ⟨rfl, rfl⟩
  unfold m_X0_takeBack at h
  obtain ⟨_, _, h⟩ := ob h
  refine x_aload_n C (i := 0) dX0_takeBack_0 rfl rfl ?_
  obtain ⟨x1, ex1, h⟩ := ob h
  refine x_getI C fl_X0_26 dX0_takeBack_1 ex1 ?_
  refine x_if_ne C (tgt := 9) dX0_takeBack_4 (by decide) (fun c2 => ?_) (fun c2 => ?_)
  · have h := ifN h c2
    refine x_aload_n C (i := 0) dX0_takeBack_9 rfl rfl ?_
    refine x_dup C dX0_takeBack_10 rfl ?_
    obtain ⟨x3, ex3, h⟩ := ob h
    refine x_getI C fl_X0_26 dX0_takeBack_11 ex3 ?_
    refine x_iconst C (v := 1) dX0_takeBack_14 (by decide) ?_
    refine x_isub C dX0_takeBack_15 ?_
    obtain ⟨σ4, eσ4, h⟩ := ob h
    refine x_put C pl_X0_26 dX0_takeBack_16 (fun _ => ⟨rfl, rfl⟩) eσ4 ?_
    refine x_aload_n C (i := 0) dX0_takeBack_19 rfl rfl ?_
    refine x_aload_n C (i := 0) dX0_takeBack_20 rfl rfl ?_
    obtain ⟨x5, ex5, h⟩ := ob h
    refine x_getI C fl_X0_18 dX0_takeBack_21 ex5 ?_
    obtain ⟨z6, hz6, h⟩ := ob h
    have hJ12 : X κ 2 ω 38 [some (.ref t0), some (.ref p1)] [.int z6, .ref t0] σ4 := by
      obtain ⟨σ7, eσ7, h⟩ := ob h
      refine x_put C pl_X0_18 dX0_takeBack_38 (fun _ => ⟨rfl, rfl⟩) eσ7 ?_
      refine x_aload_n C (i := 1) dX0_takeBack_41 rfl rfl ?_
      refine x_aload_n C (i := 0) dX0_takeBack_42 rfl rfl ?_
      obtain ⟨x8, ex8, h⟩ := ob h
      refine x_getR C fl_X0_11 dX0_takeBack_43 ex8 ?_
      refine x_aload_n C (i := 0) dX0_takeBack_46 rfl rfl ?_
      obtain ⟨x9, ex9, h⟩ := ob h
      refine x_getI C fl_X0_18 dX0_takeBack_47 ex9 ?_
      obtain ⟨x10, ex10, h⟩ := ob h
      refine x_aald4 C dX0_takeBack_50 ex10 ?_
      obtain ⟨r11, er11, h⟩ := ob h
      refine x_callVn C Z mv_X2_take lk_X0_22 (rv_h er11) (ct_X2_take er11) (by decide) rfl rfl (Nat.le_of_ble_eq_true rfl) dX0_takeBack_51 ?_
      refine x_iconst C (v := 1) dX0_takeBack_54 (by decide) ?_
      exact x_zret C E (by decide +kernel) dX0_takeBack_55 (hE (1, r11) (Option.some.inj h).symm)
    clear h
    have h := hz6
    refine x_if_le C (tgt := 36) dX0_takeBack_24 (by decide) (fun c14 => ?_) (fun c14 => ?_)
    · have h := ifP h c14
      refine x_bipush C (v := 23) dX0_takeBack_36 (by decide) ?_
      refine x_wk [true, true] (lo' := [some (.ref t0), some (.ref p1)]) rfl ?_
      obtain rfl := Option.some.inj h
      exact hJ12
    · have h := ifN h c14
      refine x_aload_n C (i := 0) dX0_takeBack_27 rfl rfl ?_
      obtain ⟨x15, ex15, h⟩ := ob h
      refine x_getI C fl_X0_18 dX0_takeBack_28 ex15 ?_
      refine x_iconst C (v := 1) dX0_takeBack_31 (by decide) ?_
      refine x_isub C dX0_takeBack_32 ?_
      refine x_goto C (tgt := 38) dX0_takeBack_33 (by decide) ?_
      refine x_wk [true, true] (lo' := [some (.ref t0), some (.ref p1)]) rfl ?_
      obtain rfl := Option.some.inj h
      exact hJ12
  · have h := ifP h c2
    refine x_iconst C (v := 0) dX0_takeBack_7 (by decide) ?_
    exact x_zret C E (by decide +kernel) dX0_takeBack_8 (hE (0, σ) (Option.some.inj h).symm)
theorem dX0_forget_0 : decode cX0_forget 0 = .ok (.aload_n 0, 1) := by decide +kernel
theorem dX0_forget_1 : decode cX0_forget 1 = .ok (.iconst 0, 1) := by decide +kernel
theorem dX0_forget_2 : decode cX0_forget 2 = .ok (.putfield 26, 3) := by decide +kernel
theorem dX0_forget_5 : decode cX0_forget 5 = .ok (.return_, 1) := by decide +kernel
def m_X0_forget (N : Nat) (σ : Hp) (t0 : Nat) : Option (Hp) :=
  (rv N σ t0 0).bind fun _ =>
  (pV N σ t0 0 2 (.int 0)).bind fun σ1 =>
  some σ1
set_option maxHeartbeats 4000000 in
set_option maxRecDepth 100000 in
theorem ct_X0_forget {l : Launch} {D : va_G} {cy : Nat → Nat} {N : Nat} {σ : Hp} {t0 : Nat} {r : Hp} (h : m_X0_forget N σ t0 = some r) : Ct l D cy yX0_forget cX0_forget 1 none 0 [.ref t0] N σ (fun v s' => v = none ∧ s' = r) := by
  refine Ct.intro [some (.ref t0)] (by decide) rfl (Nat.le_of_ble_eq_true rfl) ?_
  intro κ ω e1 e2 e3 e4 C Z E
  subst e1; subst e2; subst e3; subst e4
  have C : Cx κ 1 0 cX0_forget RX0 "forget" := C
  have hE : ∀ x : Hp, r = x → ((none : Option Value) = none ∧ x = r) := fun x hx => by subst hx; exact ⟨rfl, rfl⟩
  unfold m_X0_forget at h
  obtain ⟨_, _, h⟩ := ob h
  refine x_aload_n C (i := 0) dX0_forget_0 rfl rfl ?_
  refine x_iconst C (v := 0) dX0_forget_1 (by decide) ?_
  obtain ⟨σ1, eσ1, h⟩ := ob h
  refine x_put C pl_X0_26 dX0_forget_2 (fun _ => ⟨rfl, rfl⟩) eσ1 ?_
  exact x_vret C E dX0_forget_5 (hE σ1 (Option.some.inj h).symm)
theorem dX1_init_0 : decode cX1_init 0 = .ok (.aload_n 0, 1) := by decide +kernel
theorem dX1_init_1 : decode cX1_init 1 = .ok (.invokespecial 3, 3) := by decide +kernel
theorem dX1_init_4 : decode cX1_init 4 = .ok (.aload_n 0, 1) := by decide +kernel
theorem dX1_init_5 : decode cX1_init 5 = .ok (.bipush 16, 2) := by decide +kernel
theorem dX1_init_7 : decode cX1_init 7 = .ok (.newarray .int, 2) := by decide +kernel
theorem dX1_init_9 : decode cX1_init 9 = .ok (.putfield 9, 3) := by decide +kernel
theorem dX1_init_12 : decode cX1_init 12 = .ok (.return_, 1) := by decide +kernel
noncomputable def m_X1_init (N : Nat) (σ : Hp) (t0 : Nat) : Option (Nat × Hp) :=
  (al N σ [t0, t0] (0 + 1) (0 + 16) 1 16).bind fun u1 =>
  (mkc σ N (.inl (0, 16, .inl (fun _ => 0)))).bind fun σ2 =>
  (pV (N + 1) σ2 t0 1 0 (.ref N)).bind fun σ3 =>
  some (N + 1, σ3)
set_option maxHeartbeats 4000000 in
set_option maxRecDepth 100000 in
theorem ct_X1_init {l : Launch} {D : va_G} {cy : Nat → Nat} {N : Nat} {σ : Hp} {t0 : Nat} {r : Nat × Hp} (h : m_X1_init N σ t0 = some r) : CtA l D cy yX1_init cX1_init 1 none 1 1 16 [.ref t0] N σ (fun v n' s' => v = none ∧ n' = r.1 ∧ s' = r.2) := by
  refine CtA.intro [some (.ref t0)] (by decide) rfl (Nat.le_of_ble_eq_true rfl) ?_
  intro κ ad0 e1 e2 e3 hRc hRs C Z E
  subst e1; subst e2; subst e3
  have C : Cx κ 1 1 cX1_init RX1 "<init>" := C
  have G := Ag.rf N ad0 0 0
  have hE : ∀ x : Nat × Hp, r = x → ((none : Option Value) = (none : Option Value) ∧ x.1 = r.1 ∧ x.2 = r.2) := fun x hx => by subst hx; exact ⟨rfl, rfl, rfl⟩
  unfold m_X1_init at h
  refine x_aload_n C (i := 0) dX1_init_0 rfl rfl ?_
  refine x_objInit C (by decide) oi_X1 oi_inst oi_code (Nat.le_of_ble_eq_true rfl) dX1_init_1 ?_
  refine x_aload_n C (i := 0) dX1_init_4 rfl rfl ?_
  refine x_bipush C (v := 16) dX1_init_5 (by decide) ?_
  obtain ⟨u1, eu1, h⟩ := ob h
  obtain ⟨σ2, eσ2, h⟩ := ob h
  refine g_newI C Z G hRc hRs 16 wa_int (by decide) (by decide) (by decide) eu1 rfl eσ2 dX1_init_7 (fun ad Z G => ?_)
  obtain ⟨σ3, eσ3, h⟩ := ob h
  refine x_putF C pf_X1_9 dX1_init_9 (fun _ => ⟨rfl, rfl⟩) eσ3 ?_
  exact x_vretA C E G ⟨hRc ▸ Z.1.1, hRs ▸ Z.1.2⟩ dX1_init_12 (hE (N + 1, σ3) (Option.some.inj h).symm)
theorem dX2_kindOf_0 : decode cX2_kindOf 0 = .ok (.aload_n 0, 1) := by decide +kernel
theorem dX2_kindOf_1 : decode cX2_kindOf 1 = .ok (.getfield 24, 3) := by decide +kernel
theorem dX2_kindOf_4 : decode cX2_kindOf 4 = .ok (.iconst 3, 1) := by decide +kernel
theorem dX2_kindOf_5 : decode cX2_kindOf 5 = .ok (.iload_n 1, 1) := by decide +kernel
theorem dX2_kindOf_6 : decode cX2_kindOf 6 = .ok (.imul, 1) := by decide +kernel
theorem dX2_kindOf_7 : decode cX2_kindOf 7 = .ok (.ishr, 1) := by decide +kernel
theorem dX2_kindOf_8 : decode cX2_kindOf 8 = .ok (.bipush 7, 2) := by decide +kernel
theorem dX2_kindOf_10 : decode cX2_kindOf 10 = .ok (.iand, 1) := by decide +kernel
theorem dX2_kindOf_11 : decode cX2_kindOf 11 = .ok (.istore_n 2, 1) := by decide +kernel
theorem dX2_kindOf_12 : decode cX2_kindOf 12 = .ok (.iload_n 2, 1) := by decide +kernel
theorem dX2_kindOf_13 : decode cX2_kindOf 13 = .ok (.iconst 5, 1) := by decide +kernel
theorem dX2_kindOf_14 : decode cX2_kindOf 14 = .ok (.if_icmp .le 7, 3) := by decide +kernel
theorem dX2_kindOf_17 : decode cX2_kindOf 17 = .ok (.iconst 0, 1) := by decide +kernel
theorem dX2_kindOf_18 : decode cX2_kindOf 18 = .ok (.goto 4, 3) := by decide +kernel
theorem dX2_kindOf_21 : decode cX2_kindOf 21 = .ok (.iload_n 2, 1) := by decide +kernel
theorem dX2_kindOf_22 : decode cX2_kindOf 22 = .ok (.ireturn, 1) := by decide +kernel
def m_X2_kindOf (N : Nat) (σ : Hp) (t0 : Nat) (p1 : Int32) : Option (Int32) :=
  (rv N σ t0 2).bind fun _ =>
  (gI N σ t0 2 4).bind fun x1 =>
  lt ((x1 >>> (((3 : Int32) * p1) &&& 31)) &&& 7) fun y2 =>
  if y2 ≤ 5 then
   some y2
  else
   some 0
set_option maxHeartbeats 4000000 in
set_option maxRecDepth 100000 in
theorem ct_X2_kindOf {l : Launch} {D : va_G} {cy : Nat → Nat} {N : Nat} {σ : Hp} {t0 : Nat} {p1 : Int32} {r : Int32} (h : m_X2_kindOf N σ t0 p1 = some r) : Ct l D cy yX2_kindOf cX2_kindOf 3 (some .int) 0 [.ref t0, .int p1] N σ (fun v s' => v = (some (.int r)) ∧ s' = σ) := by
  refine Ct.intro [some (.ref t0), some (.int p1), none] (by decide) rfl (Nat.le_of_ble_eq_true rfl) ?_
  intro κ ω e1 e2 e3 e4 C Z E
  subst e1; subst e2; subst e3; subst e4
  have C : Cx κ 3 0 cX2_kindOf RX2 "kindOf" := C
  have hE : ∀ x : Int32, r = x → ((some (Value.int x)) = (some (Value.int r)) ∧ σ = σ) := fun x hx => by subst hx; exact ⟨rfl, rfl⟩
  unfold m_X2_kindOf at h
  obtain ⟨_, _, h⟩ := ob h
  refine x_aload_n C (i := 0) dX2_kindOf_0 rfl rfl ?_
  obtain ⟨x1, ex1, h⟩ := ob h
  refine x_getI C fl_X2_24 dX2_kindOf_1 ex1 ?_
  refine x_iconst C (v := 3) dX2_kindOf_4 (by decide) ?_
  refine x_iload_n C (i := 1) dX2_kindOf_5 rfl rfl ?_
  refine x_imul C dX2_kindOf_6 ?_
  refine x_ishr C dX2_kindOf_7 ?_
  refine x_bipush C (v := 7) dX2_kindOf_8 (by decide) ?_
  refine x_iand C dX2_kindOf_10 ?_
  refine x_topi (fun y2 ey2 => ?_)
  have h := lt_e h ey2
  refine x_istore_n C (i := 2) (lo' := [some (.ref t0), some (.int p1), some (.int y2)]) dX2_kindOf_11 rfl (by decide) rfl rfl ?_
  refine x_iload_n C (i := 2) dX2_kindOf_12 rfl rfl ?_
  refine x_iconst C (v := 5) dX2_kindOf_13 (by decide) ?_
  refine x_icmp_le C (tgt := 21) dX2_kindOf_14 (by decide) (fun c3 => ?_) (fun c3 => ?_)
  · have h := ifP h c3
    refine x_iload_n C (i := 2) dX2_kindOf_21 rfl rfl ?_
    exact x_iret C E dX2_kindOf_22 (hE y2 (Option.some.inj h).symm)
  · have h := ifN h c3
    refine x_iconst C (v := 0) dX2_kindOf_17 (by decide) ?_
    refine x_goto C (tgt := 22) dX2_kindOf_18 (by decide) ?_
    exact x_iret C E dX2_kindOf_22 (hE 0 (Option.some.inj h).symm)
theorem dX2_pegOf_0 : decode cX2_pegOf 0 = .ok (.aload_n 0, 1) := by decide +kernel
theorem dX2_pegOf_1 : decode cX2_pegOf 1 = .ok (.getfield 27, 3) := by decide +kernel
theorem dX2_pegOf_4 : decode cX2_pegOf 4 = .ok (.iconst 2, 1) := by decide +kernel
theorem dX2_pegOf_5 : decode cX2_pegOf 5 = .ok (.iload_n 1, 1) := by decide +kernel
theorem dX2_pegOf_6 : decode cX2_pegOf 6 = .ok (.imul, 1) := by decide +kernel
theorem dX2_pegOf_7 : decode cX2_pegOf 7 = .ok (.ishr, 1) := by decide +kernel
theorem dX2_pegOf_8 : decode cX2_pegOf 8 = .ok (.iconst 3, 1) := by decide +kernel
theorem dX2_pegOf_9 : decode cX2_pegOf 9 = .ok (.iand, 1) := by decide +kernel
theorem dX2_pegOf_10 : decode cX2_pegOf 10 = .ok (.ireturn, 1) := by decide +kernel
def m_X2_pegOf (N : Nat) (σ : Hp) (t0 : Nat) (p1 : Int32) : Option (Int32) :=
  (rv N σ t0 2).bind fun _ =>
  (gI N σ t0 2 5).bind fun x1 =>
  some ((x1 >>> (((2 : Int32) * p1) &&& 31)) &&& 3)
set_option maxHeartbeats 4000000 in
set_option maxRecDepth 100000 in
theorem ct_X2_pegOf {l : Launch} {D : va_G} {cy : Nat → Nat} {N : Nat} {σ : Hp} {t0 : Nat} {p1 : Int32} {r : Int32} (h : m_X2_pegOf N σ t0 p1 = some r) : Ct l D cy yX2_pegOf cX2_pegOf 2 (some .int) 0 [.ref t0, .int p1] N σ (fun v s' => v = (some (.int r)) ∧ s' = σ) := by
  refine Ct.intro [some (.ref t0), some (.int p1)] (by decide) rfl (Nat.le_of_ble_eq_true rfl) ?_
  intro κ ω e1 e2 e3 e4 C Z E
  subst e1; subst e2; subst e3; subst e4
  have C : Cx κ 2 0 cX2_pegOf RX2 "pegOf" := C
  have hE : ∀ x : Int32, r = x → ((some (Value.int x)) = (some (Value.int r)) ∧ σ = σ) := fun x hx => by subst hx; exact ⟨rfl, rfl⟩
  unfold m_X2_pegOf at h
  obtain ⟨_, _, h⟩ := ob h
  refine x_aload_n C (i := 0) dX2_pegOf_0 rfl rfl ?_
  obtain ⟨x1, ex1, h⟩ := ob h
  refine x_getI C fl_X2_27 dX2_pegOf_1 ex1 ?_
  refine x_iconst C (v := 2) dX2_pegOf_4 (by decide) ?_
  refine x_iload_n C (i := 1) dX2_pegOf_5 rfl rfl ?_
  refine x_imul C dX2_pegOf_6 ?_
  refine x_ishr C dX2_pegOf_7 ?_
  refine x_iconst C (v := 3) dX2_pegOf_8 (by decide) ?_
  refine x_iand C dX2_pegOf_9 ?_
  exact x_iret C E dX2_pegOf_10 (hE ((x1 >>> (((2 : Int32) * p1) &&& 31)) &&& 3) (Option.some.inj h).symm)
theorem dX2_lyingIn_0 : decode cX2_lyingIn 0 = .ok (.iconst 0, 1) := by decide +kernel
theorem dX2_lyingIn_1 : decode cX2_lyingIn 1 = .ok (.istore_n 2, 1) := by decide +kernel
theorem dX2_lyingIn_2 : decode cX2_lyingIn 2 = .ok (.iconst 0, 1) := by decide +kernel
theorem dX2_lyingIn_3 : decode cX2_lyingIn 3 = .ok (.istore_n 3, 1) := by decide +kernel
theorem dX2_lyingIn_4 : decode cX2_lyingIn 4 = .ok (.iload_n 3, 1) := by decide +kernel
theorem dX2_lyingIn_5 : decode cX2_lyingIn 5 = .ok (.aload_n 0, 1) := by decide +kernel
theorem dX2_lyingIn_6 : decode cX2_lyingIn 6 = .ok (.getfield 15, 3) := by decide +kernel
theorem dX2_lyingIn_9 : decode cX2_lyingIn 9 = .ok (.if_icmp .ge 26, 3) := by decide +kernel
theorem dX2_lyingIn_12 : decode cX2_lyingIn 12 = .ok (.iload_n 2, 1) := by decide +kernel
theorem dX2_lyingIn_13 : decode cX2_lyingIn 13 = .ok (.iconst 1, 1) := by decide +kernel
theorem dX2_lyingIn_14 : decode cX2_lyingIn 14 = .ok (.bipush 6, 2) := by decide +kernel
theorem dX2_lyingIn_16 : decode cX2_lyingIn 16 = .ok (.iload_n 1, 1) := by decide +kernel
theorem dX2_lyingIn_17 : decode cX2_lyingIn 17 = .ok (.iconst 2, 1) := by decide +kernel
theorem dX2_lyingIn_18 : decode cX2_lyingIn 18 = .ok (.iload_n 3, 1) := by decide +kernel
theorem dX2_lyingIn_19 : decode cX2_lyingIn 19 = .ok (.imul, 1) := by decide +kernel
theorem dX2_lyingIn_20 : decode cX2_lyingIn 20 = .ok (.ishr, 1) := by decide +kernel
theorem dX2_lyingIn_21 : decode cX2_lyingIn 21 = .ok (.iconst 3, 1) := by decide +kernel
theorem dX2_lyingIn_22 : decode cX2_lyingIn 22 = .ok (.iand, 1) := by decide +kernel
theorem dX2_lyingIn_23 : decode cX2_lyingIn 23 = .ok (.imul, 1) := by decide +kernel
theorem dX2_lyingIn_24 : decode cX2_lyingIn 24 = .ok (.iload_n 3, 1) := by decide +kernel
theorem dX2_lyingIn_25 : decode cX2_lyingIn 25 = .ok (.iadd, 1) := by decide +kernel
theorem dX2_lyingIn_26 : decode cX2_lyingIn 26 = .ok (.ishl, 1) := by decide +kernel
theorem dX2_lyingIn_27 : decode cX2_lyingIn 27 = .ok (.ior, 1) := by decide +kernel
theorem dX2_lyingIn_28 : decode cX2_lyingIn 28 = .ok (.istore_n 2, 1) := by decide +kernel
theorem dX2_lyingIn_29 : decode cX2_lyingIn 29 = .ok (.iinc 3 1, 3) := by decide +kernel
theorem dX2_lyingIn_32 : decode cX2_lyingIn 32 = .ok (.goto (-28), 3) := by decide +kernel
theorem dX2_lyingIn_35 : decode cX2_lyingIn 35 = .ok (.iload_n 2, 1) := by decide +kernel
theorem dX2_lyingIn_36 : decode cX2_lyingIn 36 = .ok (.ireturn, 1) := by decide +kernel
def L_X2_lyingIn_4 (N : Nat) (σ : Hp) (v0 : Nat) (v1 : Int32) : Nat → Int32 → Int32 → Option (Int32)
  | 0, _, _ => none
  | n + 1, v2, v3 =>
  (gI N σ v0 2 1).bind fun x1 =>
  if x1 ≤ v3 then
   some v2
  else
   lt (v2 ||| ((1 : Int32) <<< ((((6 : Int32) * ((v1 >>> (((2 : Int32) * v3) &&& 31)) &&& 3)) + v3) &&& 31))) fun y3 =>
  L_X2_lyingIn_4 N σ v0 v1 n y3 (v3 + 1)
def m_X2_lyingIn (N : Nat) (σ : Hp) (t0 : Nat) (p1 : Int32) : Option (Int32) :=
  (rv N σ t0 2).bind fun _ =>
  (L_X2_lyingIn_4 N σ t0 p1 fu 0 0).bind fun z4 =>
  some z4
set_option maxHeartbeats 4000000 in
set_option maxRecDepth 100000 in
theorem lp_X2_lyingIn_4 {κ : Kx} {ω : Om} (C : Cx κ 4 0 cX2_lyingIn RX2 "lyingIn") (Z : Zx κ ω) (σ : Hp) (v0 : Nat) (v1 : Int32) {r : Int32} (hk : X κ 4 ω 35 [none, none, some (.int r), none] [] σ) : ∀ (n : Nat) (v2 : Int32) (v3 : Int32), L_X2_lyingIn_4 ω.1 σ v0 v1 n v2 v3 = some r → X κ 4 ω 4 [some (.ref v0), some (.int v1), some (.int v2), some (.int v3)] [] σ := by
  intro n
  induction n with
  | zero => intro v2 v3 h; cases h
  | succ n ih =>
    intro v2 v3 h
    rw [L_X2_lyingIn_4.eq_2] at h
    refine x_iload_n C (i := 3) dX2_lyingIn_4 rfl rfl ?_
    refine x_aload_n C (i := 0) dX2_lyingIn_5 rfl rfl ?_
    obtain ⟨x1, ex1, h⟩ := ob h
    refine x_getI C fl_X2_15 dX2_lyingIn_6 ex1 ?_
    refine x_icmp_ge C (tgt := 35) dX2_lyingIn_9 (by decide) (fun c2 => ?_) (fun c2 => ?_)
    · have h := ifP h c2
      refine x_wk [false, false, true, false] (lo' := [none, none, some (.int v2), none]) rfl ?_
      obtain rfl := Option.some.inj h
      exact hk
    · have h := ifN h c2
      refine x_iload_n C (i := 2) dX2_lyingIn_12 rfl rfl ?_
      refine x_iconst C (v := 1) dX2_lyingIn_13 (by decide) ?_
      refine x_bipush C (v := 6) dX2_lyingIn_14 (by decide) ?_
      refine x_iload_n C (i := 1) dX2_lyingIn_16 rfl rfl ?_
      refine x_iconst C (v := 2) dX2_lyingIn_17 (by decide) ?_
      refine x_iload_n C (i := 3) dX2_lyingIn_18 rfl rfl ?_
      refine x_imul C dX2_lyingIn_19 ?_
      refine x_ishr C dX2_lyingIn_20 ?_
      refine x_iconst C (v := 3) dX2_lyingIn_21 (by decide) ?_
      refine x_iand C dX2_lyingIn_22 ?_
      refine x_imul C dX2_lyingIn_23 ?_
      refine x_iload_n C (i := 3) dX2_lyingIn_24 rfl rfl ?_
      refine x_iadd C dX2_lyingIn_25 ?_
      refine x_ishl C dX2_lyingIn_26 ?_
      refine x_ior C dX2_lyingIn_27 ?_
      refine x_topi (fun y3 ey3 => ?_)
      have h := lt_e h ey3
      refine x_istore_n C (i := 2) (lo' := [some (.ref v0), some (.int v1), some (.int y3), some (.int v3)]) dX2_lyingIn_28 rfl (by decide) rfl rfl ?_
      refine x_iinc C (i := 3) (y := v3 + 1) (lo' := [some (.ref v0), some (.int v1), some (.int y3), some (.int (v3 + 1))]) dX2_lyingIn_29 rfl rfl (by decide) rfl rfl ?_
      refine x_goto C (tgt := 4) dX2_lyingIn_32 (by decide) ?_
      refine x_wk [true, true, true, true] (lo' := [some (.ref v0), some (.int v1), some (.int y3), some (.int (v3 + 1))]) rfl ?_
      exact ih y3 (v3 + 1) h
set_option maxHeartbeats 4000000 in
set_option maxRecDepth 100000 in
theorem ct_X2_lyingIn {l : Launch} {D : va_G} {cy : Nat → Nat} {N : Nat} {σ : Hp} {t0 : Nat} {p1 : Int32} {r : Int32} (h : m_X2_lyingIn N σ t0 p1 = some r) : Ct l D cy yX2_lyingIn cX2_lyingIn 4 (some .int) 0 [.ref t0, .int p1] N σ (fun v s' => v = (some (.int r)) ∧ s' = σ) := by
  refine Ct.intro [some (.ref t0), some (.int p1), none, none] (by decide) rfl (Nat.le_of_ble_eq_true rfl) ?_
  intro κ ω e1 e2 e3 e4 C Z E
  subst e1; subst e2; subst e3; subst e4
  have C : Cx κ 4 0 cX2_lyingIn RX2 "lyingIn" := C
  have hE : ∀ x : Int32, r = x → ((some (Value.int x)) = (some (Value.int r)) ∧ σ = σ) := fun x hx => by subst hx; exact ⟨rfl, rfl⟩
  unfold m_X2_lyingIn at h
  obtain ⟨_, _, h⟩ := ob h
  refine x_iconst C (v := 0) dX2_lyingIn_0 (by decide) ?_
  refine x_istore_n C (i := 2) (lo' := [some (.ref t0), some (.int p1), some (.int 0), none]) dX2_lyingIn_1 rfl (by decide) rfl rfl ?_
  refine x_iconst C (v := 0) dX2_lyingIn_2 (by decide) ?_
  refine x_istore_n C (i := 3) (lo' := [some (.ref t0), some (.int p1), some (.int 0), some (.int 0)]) dX2_lyingIn_3 rfl (by decide) rfl rfl ?_
  obtain ⟨z4, ez4, h⟩ := ob h
  refine x_wk [true, true, true, true] (lo' := [some (.ref t0), some (.int p1), some (.int 0), some (.int 0)]) rfl ?_
  refine lp_X2_lyingIn_4 C Z σ t0 p1 ?_ _ 0 0 ez4
  refine x_iload_n C (i := 2) dX2_lyingIn_35 rfl rfl ?_
  exact x_iret C E dX2_lyingIn_36 (hE z4 (Option.some.inj h).symm)
theorem dX2_lyingOn_0 : decode cX2_lyingOn 0 = .ok (.aload_n 0, 1) := by decide +kernel
theorem dX2_lyingOn_1 : decode cX2_lyingOn 1 = .ok (.aload_n 0, 1) := by decide +kernel
theorem dX2_lyingOn_2 : decode cX2_lyingOn 2 = .ok (.getfield 27, 3) := by decide +kernel
theorem dX2_lyingOn_5 : decode cX2_lyingOn 5 = .ok (.invokevirtual 47, 3) := by decide +kernel
theorem dX2_lyingOn_8 : decode cX2_lyingOn 8 = .ok (.bipush 6, 2) := by decide +kernel
theorem dX2_lyingOn_10 : decode cX2_lyingOn 10 = .ok (.iload_n 1, 1) := by decide +kernel
theorem dX2_lyingOn_11 : decode cX2_lyingOn 11 = .ok (.imul, 1) := by decide +kernel
theorem dX2_lyingOn_12 : decode cX2_lyingOn 12 = .ok (.ishr, 1) := by decide +kernel
theorem dX2_lyingOn_13 : decode cX2_lyingOn 13 = .ok (.bipush 63, 2) := by decide +kernel
theorem dX2_lyingOn_15 : decode cX2_lyingOn 15 = .ok (.iand, 1) := by decide +kernel
theorem dX2_lyingOn_16 : decode cX2_lyingOn 16 = .ok (.ireturn, 1) := by decide +kernel
def m_X2_lyingOn (N : Nat) (σ : Hp) (t0 : Nat) (p1 : Int32) : Option (Int32) :=
  (rv N σ t0 2).bind fun _ =>
  (gI N σ t0 2 5).bind fun x1 =>
  (m_X2_lyingIn N σ t0 x1).bind fun r2 =>
  some ((r2 >>> (((6 : Int32) * p1) &&& 31)) &&& 63)
set_option maxHeartbeats 4000000 in
set_option maxRecDepth 100000 in
theorem ct_X2_lyingOn {l : Launch} {D : va_G} {cy : Nat → Nat} {N : Nat} {σ : Hp} {t0 : Nat} {p1 : Int32} {r : Int32} (h : m_X2_lyingOn N σ t0 p1 = some r) : Ct l D cy yX2_lyingOn cX2_lyingOn 2 (some .int) 1 [.ref t0, .int p1] N σ (fun v s' => v = (some (.int r)) ∧ s' = σ) := by
  refine Ct.intro [some (.ref t0), some (.int p1)] (by decide) rfl (Nat.le_of_ble_eq_true rfl) ?_
  intro κ ω e1 e2 e3 e4 C Z E
  subst e1; subst e2; subst e3; subst e4
  have C : Cx κ 2 1 cX2_lyingOn RX2 "lyingOn" := C
  have hE : ∀ x : Int32, r = x → ((some (Value.int x)) = (some (Value.int r)) ∧ σ = σ) := fun x hx => by subst hx; exact ⟨rfl, rfl⟩
  unfold m_X2_lyingOn at h
  obtain ⟨_, _, h⟩ := ob h
  refine x_aload_n C (i := 0) dX2_lyingOn_0 rfl rfl ?_
  refine x_aload_n C (i := 0) dX2_lyingOn_1 rfl rfl ?_
  obtain ⟨x1, ex1, h⟩ := ob h
  refine x_getI C fl_X2_27 dX2_lyingOn_2 ex1 ?_
  obtain ⟨r2, er2, h⟩ := ob h
  refine x_callVr C Z mv_X2_lyingIn lk_X2_47 (rv_h er2) (ct_X2_lyingIn er2) (by decide) rfl rfl (Nat.le_of_ble_eq_true rfl) dX2_lyingOn_5 ?_
  refine x_bipush C (v := 6) dX2_lyingOn_8 (by decide) ?_
  refine x_iload_n C (i := 1) dX2_lyingOn_10 rfl rfl ?_
  refine x_imul C dX2_lyingOn_11 ?_
  refine x_ishr C dX2_lyingOn_12 ?_
  refine x_bipush C (v := 63) dX2_lyingOn_13 (by decide) ?_
  refine x_iand C dX2_lyingOn_15 ?_
  exact x_iret C E dX2_lyingOn_16 (hE ((r2 >>> (((6 : Int32) * p1) &&& 31)) &&& 63) (Option.some.inj h).symm)
theorem dJ6_bitCount_0f7a4_0 : decode cJ6_bitCount_0f7a4 0 = .ok (.iload_n 0, 1) := by decide +kernel
theorem dJ6_bitCount_0f7a4_1 : decode cJ6_bitCount_0f7a4 1 = .ok (.iload_n 0, 1) := by decide +kernel
theorem dJ6_bitCount_0f7a4_2 : decode cJ6_bitCount_0f7a4 2 = .ok (.iconst 1, 1) := by decide +kernel
theorem dJ6_bitCount_0f7a4_3 : decode cJ6_bitCount_0f7a4 3 = .ok (.iushr, 1) := by decide +kernel
theorem dJ6_bitCount_0f7a4_4 : decode cJ6_bitCount_0f7a4 4 = .ok (.ldc_w 265, 3) := by decide +kernel
theorem dJ6_bitCount_0f7a4_7 : decode cJ6_bitCount_0f7a4 7 = .ok (.iand, 1) := by decide +kernel
theorem dJ6_bitCount_0f7a4_8 : decode cJ6_bitCount_0f7a4 8 = .ok (.isub, 1) := by decide +kernel
theorem dJ6_bitCount_0f7a4_9 : decode cJ6_bitCount_0f7a4 9 = .ok (.istore_n 0, 1) := by decide +kernel
theorem dJ6_bitCount_0f7a4_10 : decode cJ6_bitCount_0f7a4 10 = .ok (.iload_n 0, 1) := by decide +kernel
theorem dJ6_bitCount_0f7a4_11 : decode cJ6_bitCount_0f7a4 11 = .ok (.ldc_w 266, 3) := by decide +kernel
theorem dJ6_bitCount_0f7a4_14 : decode cJ6_bitCount_0f7a4 14 = .ok (.iand, 1) := by decide +kernel
theorem dJ6_bitCount_0f7a4_15 : decode cJ6_bitCount_0f7a4 15 = .ok (.iload_n 0, 1) := by decide +kernel
theorem dJ6_bitCount_0f7a4_16 : decode cJ6_bitCount_0f7a4 16 = .ok (.iconst 2, 1) := by decide +kernel
theorem dJ6_bitCount_0f7a4_17 : decode cJ6_bitCount_0f7a4 17 = .ok (.iushr, 1) := by decide +kernel
theorem dJ6_bitCount_0f7a4_18 : decode cJ6_bitCount_0f7a4 18 = .ok (.ldc_w 266, 3) := by decide +kernel
theorem dJ6_bitCount_0f7a4_21 : decode cJ6_bitCount_0f7a4 21 = .ok (.iand, 1) := by decide +kernel
theorem dJ6_bitCount_0f7a4_22 : decode cJ6_bitCount_0f7a4 22 = .ok (.iadd, 1) := by decide +kernel
theorem dJ6_bitCount_0f7a4_23 : decode cJ6_bitCount_0f7a4 23 = .ok (.istore_n 0, 1) := by decide +kernel
theorem dJ6_bitCount_0f7a4_24 : decode cJ6_bitCount_0f7a4 24 = .ok (.iload_n 0, 1) := by decide +kernel
theorem dJ6_bitCount_0f7a4_25 : decode cJ6_bitCount_0f7a4 25 = .ok (.iload_n 0, 1) := by decide +kernel
theorem dJ6_bitCount_0f7a4_26 : decode cJ6_bitCount_0f7a4 26 = .ok (.iconst 4, 1) := by decide +kernel
theorem dJ6_bitCount_0f7a4_27 : decode cJ6_bitCount_0f7a4 27 = .ok (.iushr, 1) := by decide +kernel
theorem dJ6_bitCount_0f7a4_28 : decode cJ6_bitCount_0f7a4 28 = .ok (.iadd, 1) := by decide +kernel
theorem dJ6_bitCount_0f7a4_29 : decode cJ6_bitCount_0f7a4 29 = .ok (.ldc_w 267, 3) := by decide +kernel
theorem dJ6_bitCount_0f7a4_32 : decode cJ6_bitCount_0f7a4 32 = .ok (.iand, 1) := by decide +kernel
theorem dJ6_bitCount_0f7a4_33 : decode cJ6_bitCount_0f7a4 33 = .ok (.istore_n 0, 1) := by decide +kernel
theorem dJ6_bitCount_0f7a4_34 : decode cJ6_bitCount_0f7a4 34 = .ok (.iload_n 0, 1) := by decide +kernel
theorem dJ6_bitCount_0f7a4_35 : decode cJ6_bitCount_0f7a4 35 = .ok (.iload_n 0, 1) := by decide +kernel
theorem dJ6_bitCount_0f7a4_36 : decode cJ6_bitCount_0f7a4 36 = .ok (.bipush 8, 2) := by decide +kernel
theorem dJ6_bitCount_0f7a4_38 : decode cJ6_bitCount_0f7a4 38 = .ok (.iushr, 1) := by decide +kernel
theorem dJ6_bitCount_0f7a4_39 : decode cJ6_bitCount_0f7a4 39 = .ok (.iadd, 1) := by decide +kernel
theorem dJ6_bitCount_0f7a4_40 : decode cJ6_bitCount_0f7a4 40 = .ok (.istore_n 0, 1) := by decide +kernel
theorem dJ6_bitCount_0f7a4_41 : decode cJ6_bitCount_0f7a4 41 = .ok (.iload_n 0, 1) := by decide +kernel
theorem dJ6_bitCount_0f7a4_42 : decode cJ6_bitCount_0f7a4 42 = .ok (.iload_n 0, 1) := by decide +kernel
theorem dJ6_bitCount_0f7a4_43 : decode cJ6_bitCount_0f7a4 43 = .ok (.bipush 16, 2) := by decide +kernel
theorem dJ6_bitCount_0f7a4_45 : decode cJ6_bitCount_0f7a4 45 = .ok (.iushr, 1) := by decide +kernel
theorem dJ6_bitCount_0f7a4_46 : decode cJ6_bitCount_0f7a4 46 = .ok (.iadd, 1) := by decide +kernel
theorem dJ6_bitCount_0f7a4_47 : decode cJ6_bitCount_0f7a4 47 = .ok (.istore_n 0, 1) := by decide +kernel
theorem dJ6_bitCount_0f7a4_48 : decode cJ6_bitCount_0f7a4 48 = .ok (.iload_n 0, 1) := by decide +kernel
theorem dJ6_bitCount_0f7a4_49 : decode cJ6_bitCount_0f7a4 49 = .ok (.bipush 63, 2) := by decide +kernel
theorem dJ6_bitCount_0f7a4_51 : decode cJ6_bitCount_0f7a4 51 = .ok (.iand, 1) := by decide +kernel
theorem dJ6_bitCount_0f7a4_52 : decode cJ6_bitCount_0f7a4 52 = .ok (.ireturn, 1) := by decide +kernel
def m_J6_bitCount_0f7a4 (p0 : Int32) : Option (Int32) :=
  lt (p0 - (((p0.toUInt32 >>> (Int32.toUInt32 1 &&& Int32.toUInt32 31)).toInt32) &&& 1431655765)) fun y1 =>
  lt ((y1 &&& 858993459) + (((y1.toUInt32 >>> (Int32.toUInt32 2 &&& Int32.toUInt32 31)).toInt32) &&& 858993459)) fun y2 =>
  lt ((y2 + ((y2.toUInt32 >>> (Int32.toUInt32 4 &&& Int32.toUInt32 31)).toInt32)) &&& 252645135) fun y3 =>
  lt (y3 + ((y3.toUInt32 >>> (Int32.toUInt32 8 &&& Int32.toUInt32 31)).toInt32)) fun y4 =>
  lt (y4 + ((y4.toUInt32 >>> (Int32.toUInt32 16 &&& Int32.toUInt32 31)).toInt32)) fun y5 =>
  some (y5 &&& 63)
set_option maxHeartbeats 4000000 in
set_option maxRecDepth 100000 in
theorem ct_J6_bitCount_0f7a4 {l : Launch} {D : va_G} {cy : Nat → Nat} {N : Nat} {σ : Hp} {p0 : Int32} {r : Int32} (h : m_J6_bitCount_0f7a4 p0 = some r) : Ct l D cy yJ6_bitCount_0f7a4 cJ6_bitCount_0f7a4 1 (some .int) 0 [.int p0] N σ (fun v s' => v = (some (.int r)) ∧ s' = σ) := by
  refine Ct.intro [some (.int p0)] (by decide) rfl (Nat.le_of_ble_eq_true rfl) ?_
  intro κ ω e1 e2 e3 e4 C Z E
  subst e1; subst e2; subst e3; subst e4
  have C : Cx κ 1 0 cJ6_bitCount_0f7a4 RJ6 "bitCount" := C
  have hE : ∀ x : Int32, r = x → ((some (Value.int x)) = (some (Value.int r)) ∧ σ = σ) := fun x hx => by subst hx; exact ⟨rfl, rfl⟩
  unfold m_J6_bitCount_0f7a4 at h
  refine x_iload_n C (i := 0) dJ6_bitCount_0f7a4_0 rfl rfl ?_
  refine x_iload_n C (i := 0) dJ6_bitCount_0f7a4_1 rfl rfl ?_
  refine x_iconst C (v := 1) dJ6_bitCount_0f7a4_2 (by decide) ?_
  refine x_iushr C dJ6_bitCount_0f7a4_3 ?_
  refine x_ldcw C kc_J6_265 dJ6_bitCount_0f7a4_4 ?_
  refine x_iand C dJ6_bitCount_0f7a4_7 ?_
  refine x_isub C dJ6_bitCount_0f7a4_8 ?_
  refine x_topi (fun y1 ey1 => ?_)
  have h := lt_e h ey1
  refine x_istore_n C (i := 0) (lo' := [some (.int y1)]) dJ6_bitCount_0f7a4_9 rfl (by decide) rfl rfl ?_
  refine x_iload_n C (i := 0) dJ6_bitCount_0f7a4_10 rfl rfl ?_
  refine x_ldcw C kc_J6_266 dJ6_bitCount_0f7a4_11 ?_
  refine x_iand C dJ6_bitCount_0f7a4_14 ?_
  refine x_iload_n C (i := 0) dJ6_bitCount_0f7a4_15 rfl rfl ?_
  refine x_iconst C (v := 2) dJ6_bitCount_0f7a4_16 (by decide) ?_
  refine x_iushr C dJ6_bitCount_0f7a4_17 ?_
  refine x_ldcw C kc_J6_266 dJ6_bitCount_0f7a4_18 ?_
  refine x_iand C dJ6_bitCount_0f7a4_21 ?_
  refine x_iadd C dJ6_bitCount_0f7a4_22 ?_
  refine x_topi (fun y2 ey2 => ?_)
  have h := lt_e h ey2
  refine x_istore_n C (i := 0) (lo' := [some (.int y2)]) dJ6_bitCount_0f7a4_23 rfl (by decide) rfl rfl ?_
  refine x_iload_n C (i := 0) dJ6_bitCount_0f7a4_24 rfl rfl ?_
  refine x_iload_n C (i := 0) dJ6_bitCount_0f7a4_25 rfl rfl ?_
  refine x_iconst C (v := 4) dJ6_bitCount_0f7a4_26 (by decide) ?_
  refine x_iushr C dJ6_bitCount_0f7a4_27 ?_
  refine x_iadd C dJ6_bitCount_0f7a4_28 ?_
  refine x_ldcw C kc_J6_267 dJ6_bitCount_0f7a4_29 ?_
  refine x_iand C dJ6_bitCount_0f7a4_32 ?_
  refine x_topi (fun y3 ey3 => ?_)
  have h := lt_e h ey3
  refine x_istore_n C (i := 0) (lo' := [some (.int y3)]) dJ6_bitCount_0f7a4_33 rfl (by decide) rfl rfl ?_
  refine x_iload_n C (i := 0) dJ6_bitCount_0f7a4_34 rfl rfl ?_
  refine x_iload_n C (i := 0) dJ6_bitCount_0f7a4_35 rfl rfl ?_
  refine x_bipush C (v := 8) dJ6_bitCount_0f7a4_36 (by decide) ?_
  refine x_iushr C dJ6_bitCount_0f7a4_38 ?_
  refine x_iadd C dJ6_bitCount_0f7a4_39 ?_
  refine x_topi (fun y4 ey4 => ?_)
  have h := lt_e h ey4
  refine x_istore_n C (i := 0) (lo' := [some (.int y4)]) dJ6_bitCount_0f7a4_40 rfl (by decide) rfl rfl ?_
  refine x_iload_n C (i := 0) dJ6_bitCount_0f7a4_41 rfl rfl ?_
  refine x_iload_n C (i := 0) dJ6_bitCount_0f7a4_42 rfl rfl ?_
  refine x_bipush C (v := 16) dJ6_bitCount_0f7a4_43 (by decide) ?_
  refine x_iushr C dJ6_bitCount_0f7a4_45 ?_
  refine x_iadd C dJ6_bitCount_0f7a4_46 ?_
  refine x_topi (fun y5 ey5 => ?_)
  have h := lt_e h ey5
  refine x_istore_n C (i := 0) (lo' := [some (.int y5)]) dJ6_bitCount_0f7a4_47 rfl (by decide) rfl rfl ?_
  refine x_iload_n C (i := 0) dJ6_bitCount_0f7a4_48 rfl rfl ?_
  refine x_bipush C (v := 63) dJ6_bitCount_0f7a4_49 (by decide) ?_
  refine x_iand C dJ6_bitCount_0f7a4_51 ?_
  exact x_iret C E dJ6_bitCount_0f7a4_52 (hE (y5 &&& 63) (Option.some.inj h).symm)
theorem dX1_leaveNumber_0 : decode cX1_leaveNumber 0 = .ok (.aload_n 0, 1) := by decide +kernel
theorem dX1_leaveNumber_1 : decode cX1_leaveNumber 1 = .ok (.getfield 15, 3) := by decide +kernel
theorem dX1_leaveNumber_4 : decode cX1_leaveNumber 4 = .ok (.bipush 16, 2) := by decide +kernel
theorem dX1_leaveNumber_6 : decode cX1_leaveNumber 6 = .ok (.if_icmp .ge 23, 3) := by decide +kernel
theorem dX1_leaveNumber_9 : decode cX1_leaveNumber 9 = .ok (.aload_n 0, 1) := by decide +kernel
theorem dX1_leaveNumber_10 : decode cX1_leaveNumber 10 = .ok (.getfield 9, 3) := by decide +kernel
theorem dX1_leaveNumber_13 : decode cX1_leaveNumber 13 = .ok (.aload_n 0, 1) := by decide +kernel
theorem dX1_leaveNumber_14 : decode cX1_leaveNumber 14 = .ok (.getfield 15, 3) := by decide +kernel
theorem dX1_leaveNumber_17 : decode cX1_leaveNumber 17 = .ok (.iload_n 1, 1) := by decide +kernel
theorem dX1_leaveNumber_18 : decode cX1_leaveNumber 18 = .ok (.iastore, 1) := by decide +kernel
theorem dX1_leaveNumber_19 : decode cX1_leaveNumber 19 = .ok (.aload_n 0, 1) := by decide +kernel
theorem dX1_leaveNumber_20 : decode cX1_leaveNumber 20 = .ok (.dup, 1) := by decide +kernel
theorem dX1_leaveNumber_21 : decode cX1_leaveNumber 21 = .ok (.getfield 15, 3) := by decide +kernel
theorem dX1_leaveNumber_24 : decode cX1_leaveNumber 24 = .ok (.iconst 1, 1) := by decide +kernel
theorem dX1_leaveNumber_25 : decode cX1_leaveNumber 25 = .ok (.iadd, 1) := by decide +kernel
theorem dX1_leaveNumber_26 : decode cX1_leaveNumber 26 = .ok (.putfield 15, 3) := by decide +kernel
theorem dX1_leaveNumber_29 : decode cX1_leaveNumber 29 = .ok (.return_, 1) := by decide +kernel
def m_X1_leaveNumber (N : Nat) (σ : Hp) (t0 : Nat) (p1 : Int32) : Option (Hp) :=
  (rv N σ t0 1).bind fun _ =>
  (gI N σ t0 1 1).bind fun x1 =>
  if 16 ≤ x1 then
   some σ
  else
   (gR N σ t0 1 0).bind fun x3 =>
  (gI N σ t0 1 1).bind fun x4 =>
  (sI 0 N σ x3 x4 p1).bind fun σ5 =>
  (gI N σ5 t0 1 1).bind fun x6 =>
  (pV N σ5 t0 1 1 (.int (x6 + 1))).bind fun σ7 =>
  some σ7
set_option maxHeartbeats 4000000 in
set_option maxRecDepth 100000 in
theorem ct_X1_leaveNumber {l : Launch} {D : va_G} {cy : Nat → Nat} {N : Nat} {σ : Hp} {t0 : Nat} {p1 : Int32} {r : Hp} (h : m_X1_leaveNumber N σ t0 p1 = some r) : Ct l D cy yX1_leaveNumber cX1_leaveNumber 2 none 0 [.ref t0, .int p1] N σ (fun v s' => v = none ∧ s' = r) := by
  refine Ct.intro [some (.ref t0), some (.int p1)] (by decide) rfl (Nat.le_of_ble_eq_true rfl) ?_
  intro κ ω e1 e2 e3 e4 C Z E
  subst e1; subst e2; subst e3; subst e4
  have C : Cx κ 2 0 cX1_leaveNumber RX1 "leaveNumber" := C
  have hE : ∀ x : Hp, r = x → ((none : Option Value) = none ∧ x = r) := fun x hx => by subst hx; exact ⟨rfl, rfl⟩
  unfold m_X1_leaveNumber at h
  obtain ⟨_, _, h⟩ := ob h
  refine x_aload_n C (i := 0) dX1_leaveNumber_0 rfl rfl ?_
  obtain ⟨x1, ex1, h⟩ := ob h
  refine x_getI C fl_X1_15 dX1_leaveNumber_1 ex1 ?_
  refine x_bipush C (v := 16) dX1_leaveNumber_4 (by decide) ?_
  refine x_icmp_ge C (tgt := 29) dX1_leaveNumber_6 (by decide) (fun c2 => ?_) (fun c2 => ?_)
  · have h := ifP h c2
    exact x_vret C E dX1_leaveNumber_29 (hE σ (Option.some.inj h).symm)
  · have h := ifN h c2
    refine x_aload_n C (i := 0) dX1_leaveNumber_9 rfl rfl ?_
    obtain ⟨x3, ex3, h⟩ := ob h
    refine x_getR C fl_X1_9 dX1_leaveNumber_10 ex3 ?_
    refine x_aload_n C (i := 0) dX1_leaveNumber_13 rfl rfl ?_
    obtain ⟨x4, ex4, h⟩ := ob h
    refine x_getI C fl_X1_15 dX1_leaveNumber_14 ex4 ?_
    refine x_iload_n C (i := 1) dX1_leaveNumber_17 rfl rfl ?_
    obtain ⟨σ5, eσ5, h⟩ := ob h
    refine x_iast C dX1_leaveNumber_18 eσ5 ?_
    refine x_aload_n C (i := 0) dX1_leaveNumber_19 rfl rfl ?_
    refine x_dup C dX1_leaveNumber_20 rfl ?_
    obtain ⟨x6, ex6, h⟩ := ob h
    refine x_getI C fl_X1_15 dX1_leaveNumber_21 ex6 ?_
    refine x_iconst C (v := 1) dX1_leaveNumber_24 (by decide) ?_
    refine x_iadd C dX1_leaveNumber_25 ?_
    obtain ⟨σ7, eσ7, h⟩ := ob h
    refine x_put C pl_X1_15 dX1_leaveNumber_26 (fun _ => ⟨rfl, rfl⟩) eσ7 ?_
    exact x_vret C E dX1_leaveNumber_29 (hE σ7 (Option.some.inj h).symm)
theorem dX1_give_0 : decode cX1_give 0 = .ok (.iload_n 2, 1) := by decide +kernel
theorem dX1_give_1 : decode cX1_give 1 = .ok (.bipush 8, 2) := by decide +kernel
theorem dX1_give_3 : decode cX1_give 3 = .ok (.if_icmp .le 5, 3) := by decide +kernel
theorem dX1_give_6 : decode cX1_give 6 = .ok (.iconst 0, 1) := by decide +kernel
theorem dX1_give_7 : decode cX1_give 7 = .ok (.ireturn, 1) := by decide +kernel
theorem dX1_give_8 : decode cX1_give 8 = .ok (.aload_n 0, 1) := by decide +kernel
theorem dX1_give_9 : decode cX1_give 9 = .ok (.iload_n 1, 1) := by decide +kernel
theorem dX1_give_10 : decode cX1_give 10 = .ok (.invokevirtual 59, 3) := by decide +kernel
theorem dX1_give_13 : decode cX1_give 13 = .ok (.iload_n 2, 1) := by decide +kernel
theorem dX1_give_14 : decode cX1_give 14 = .ok (.iconst 1, 1) := by decide +kernel
theorem dX1_give_15 : decode cX1_give 15 = .ok (.iadd, 1) := by decide +kernel
theorem dX1_give_16 : decode cX1_give 16 = .ok (.istore_n 3, 1) := by decide +kernel
theorem dX1_give_17 : decode cX1_give 17 = .ok (.iload_n 1, 1) := by decide +kernel
theorem dX1_give_18 : decode cX1_give 18 = .ok (.tableswitch 193 10 24 #[74, 79, 101, 110, 121, 193, 193, 193, 193, 193, 131, 136, 149, 161, 183], 74) := by decide +kernel
theorem dX1_give_92 : decode cX1_give 92 = .ok (.aload_n 0, 1) := by decide +kernel
theorem dX1_give_93 : decode cX1_give 93 = .ok (.getfield 19, 3) := by decide +kernel
theorem dX1_give_96 : decode cX1_give 96 = .ok (.ireturn, 1) := by decide +kernel
theorem dX1_give_97 : decode cX1_give 97 = .ok (.aload_n 0, 1) := by decide +kernel
theorem dX1_give_98 : decode cX1_give 98 = .ok (.bipush 10, 2) := by decide +kernel
theorem dX1_give_100 : decode cX1_give 100 = .ok (.iload_n 3, 1) := by decide +kernel
theorem dX1_give_101 : decode cX1_give 101 = .ok (.invokevirtual 54, 3) := by decide +kernel
theorem dX1_give_104 : decode cX1_give 104 = .ok (.aload_n 0, 1) := by decide +kernel
theorem dX1_give_105 : decode cX1_give 105 = .ok (.getstatic 51, 3) := by decide +kernel
theorem dX1_give_108 : decode cX1_give 108 = .ok (.aload_n 0, 1) := by decide +kernel
theorem dX1_give_109 : decode cX1_give 109 = .ok (.getfield 28, 3) := by decide +kernel
theorem dX1_give_112 : decode cX1_give 112 = .ok (.iaload, 1) := by decide +kernel
theorem dX1_give_113 : decode cX1_give 113 = .ok (.iload_n 3, 1) := by decide +kernel
theorem dX1_give_114 : decode cX1_give 114 = .ok (.invokevirtual 54, 3) := by decide +kernel
theorem dX1_give_117 : decode cX1_give 117 = .ok (.iadd, 1) := by decide +kernel
theorem dX1_give_118 : decode cX1_give 118 = .ok (.ireturn, 1) := by decide +kernel
theorem dX1_give_119 : decode cX1_give 119 = .ok (.aload_n 0, 1) := by decide +kernel
theorem dX1_give_120 : decode cX1_give 120 = .ok (.bipush 11, 2) := by decide +kernel
theorem dX1_give_122 : decode cX1_give 122 = .ok (.iload_n 3, 1) := by decide +kernel
theorem dX1_give_123 : decode cX1_give 123 = .ok (.invokevirtual 54, 3) := by decide +kernel
theorem dX1_give_126 : decode cX1_give 126 = .ok (.ineg, 1) := by decide +kernel
theorem dX1_give_127 : decode cX1_give 127 = .ok (.ireturn, 1) := by decide +kernel
theorem dX1_give_128 : decode cX1_give 128 = .ok (.aload_n 0, 1) := by decide +kernel
theorem dX1_give_129 : decode cX1_give 129 = .ok (.bipush 10, 2) := by decide +kernel
theorem dX1_give_131 : decode cX1_give 131 = .ok (.iload_n 3, 1) := by decide +kernel
theorem dX1_give_132 : decode cX1_give 132 = .ok (.invokevirtual 54, 3) := by decide +kernel
theorem dX1_give_135 : decode cX1_give 135 = .ok (.bipush 100, 2) := by decide +kernel
theorem dX1_give_137 : decode cX1_give 137 = .ok (.isub, 1) := by decide +kernel
theorem dX1_give_138 : decode cX1_give 138 = .ok (.ireturn, 1) := by decide +kernel
theorem dX1_give_139 : decode cX1_give 139 = .ok (.iconst 2, 1) := by decide +kernel
theorem dX1_give_140 : decode cX1_give 140 = .ok (.aload_n 0, 1) := by decide +kernel
theorem dX1_give_141 : decode cX1_give 141 = .ok (.bipush 13, 2) := by decide +kernel
theorem dX1_give_143 : decode cX1_give 143 = .ok (.iload_n 3, 1) := by decide +kernel
theorem dX1_give_144 : decode cX1_give 144 = .ok (.invokevirtual 54, 3) := by decide +kernel
theorem dX1_give_147 : decode cX1_give 147 = .ok (.imul, 1) := by decide +kernel
theorem dX1_give_148 : decode cX1_give 148 = .ok (.ireturn, 1) := by decide +kernel
theorem dX1_give_149 : decode cX1_give 149 = .ok (.aload_n 0, 1) := by decide +kernel
theorem dX1_give_150 : decode cX1_give 150 = .ok (.getfield 34, 3) := by decide +kernel
theorem dX1_give_153 : decode cX1_give 153 = .ok (.ireturn, 1) := by decide +kernel
theorem dX1_give_154 : decode cX1_give 154 = .ok (.aload_n 0, 1) := by decide +kernel
theorem dX1_give_155 : decode cX1_give 155 = .ok (.bipush 20, 2) := by decide +kernel
theorem dX1_give_157 : decode cX1_give 157 = .ok (.iload_n 3, 1) := by decide +kernel
theorem dX1_give_158 : decode cX1_give 158 = .ok (.invokevirtual 54, 3) := by decide +kernel
theorem dX1_give_161 : decode cX1_give 161 = .ok (.aload_n 0, 1) := by decide +kernel
theorem dX1_give_162 : decode cX1_give 162 = .ok (.getfield 45, 3) := by decide +kernel
theorem dX1_give_165 : decode cX1_give 165 = .ok (.iadd, 1) := by decide +kernel
theorem dX1_give_166 : decode cX1_give 166 = .ok (.ireturn, 1) := by decide +kernel
theorem dX1_give_167 : decode cX1_give 167 = .ok (.aload_n 0, 1) := by decide +kernel
theorem dX1_give_168 : decode cX1_give 168 = .ok (.bipush 21, 2) := by decide +kernel
theorem dX1_give_170 : decode cX1_give 170 = .ok (.iload_n 3, 1) := by decide +kernel
theorem dX1_give_171 : decode cX1_give 171 = .ok (.invokevirtual 54, 3) := by decide +kernel
theorem dX1_give_174 : decode cX1_give 174 = .ok (.sipush 1000, 3) := by decide +kernel
theorem dX1_give_177 : decode cX1_give 177 = .ok (.isub, 1) := by decide +kernel
theorem dX1_give_178 : decode cX1_give 178 = .ok (.ireturn, 1) := by decide +kernel
theorem dX1_give_179 : decode cX1_give 179 = .ok (.aload_n 0, 1) := by decide +kernel
theorem dX1_give_180 : decode cX1_give 180 = .ok (.bipush 20, 2) := by decide +kernel
theorem dX1_give_182 : decode cX1_give 182 = .ok (.iload_n 3, 1) := by decide +kernel
theorem dX1_give_183 : decode cX1_give 183 = .ok (.invokevirtual 54, 3) := by decide +kernel
theorem dX1_give_186 : decode cX1_give 186 = .ok (.aload_n 0, 1) := by decide +kernel
theorem dX1_give_187 : decode cX1_give 187 = .ok (.getstatic 48, 3) := by decide +kernel
theorem dX1_give_190 : decode cX1_give 190 = .ok (.aload_n 0, 1) := by decide +kernel
theorem dX1_give_191 : decode cX1_give 191 = .ok (.getfield 28, 3) := by decide +kernel
theorem dX1_give_194 : decode cX1_give 194 = .ok (.iaload, 1) := by decide +kernel
theorem dX1_give_195 : decode cX1_give 195 = .ok (.iload_n 3, 1) := by decide +kernel
theorem dX1_give_196 : decode cX1_give 196 = .ok (.invokevirtual 54, 3) := by decide +kernel
theorem dX1_give_199 : decode cX1_give 199 = .ok (.isub, 1) := by decide +kernel
theorem dX1_give_200 : decode cX1_give 200 = .ok (.ireturn, 1) := by decide +kernel
theorem dX1_give_201 : decode cX1_give 201 = .ok (.iconst 2, 1) := by decide +kernel
theorem dX1_give_202 : decode cX1_give 202 = .ok (.aload_n 0, 1) := by decide +kernel
theorem dX1_give_203 : decode cX1_give 203 = .ok (.bipush 21, 2) := by decide +kernel
theorem dX1_give_205 : decode cX1_give 205 = .ok (.iload_n 3, 1) := by decide +kernel
theorem dX1_give_206 : decode cX1_give 206 = .ok (.invokevirtual 54, 3) := by decide +kernel
theorem dX1_give_209 : decode cX1_give 209 = .ok (.imul, 1) := by decide +kernel
theorem dX1_give_210 : decode cX1_give 210 = .ok (.ireturn, 1) := by decide +kernel
theorem dX1_give_211 : decode cX1_give 211 = .ok (.iconst 0, 1) := by decide +kernel
theorem dX1_give_212 : decode cX1_give 212 = .ok (.ireturn, 1) := by decide +kernel
def m_X1_give : Nat → Nat → Hp → Nat → Int32 → Int32 → Option (Int32 × Hp)
  | 0, _, _, _, _, _ => none
  | n + 1, N, σ, t0, p1, p2 =>
  if p2 ≤ 8 then
   (m_X1_leaveNumber N σ t0 p1).bind fun r2 =>
  if p1 = 10 then
   (gI N r2 t0 1 2).bind fun x4 =>
  some (x4, r2)
  else if p1 = 11 then
   (rv N r2 t0 1).bind fun u7 =>
  (m_X1_give n N r2 t0 10 (p2 + 1)).bind fun r6 =>
  (gI N r6.2 t0 1 3).bind fun x8 =>
  (sA 2 x8).bind fun x9 =>
  (rv N r6.2 t0 1).bind fun u11 =>
  (m_X1_give n N r6.2 t0 x9 (p2 + 1)).bind fun r10 =>
  some (r6.1 + r10.1, r10.2)
  else if p1 = 12 then
   (rv N r2 t0 1).bind fun u14 =>
  (m_X1_give n N r2 t0 11 (p2 + 1)).bind fun r13 =>
  some (-r13.1, r13.2)
  else if p1 = 13 then
   (rv N r2 t0 1).bind fun u17 =>
  (m_X1_give n N r2 t0 10 (p2 + 1)).bind fun r16 =>
  some (r16.1 - 100, r16.2)
  else if p1 = 14 then
   (rv N r2 t0 1).bind fun u20 =>
  (m_X1_give n N r2 t0 13 (p2 + 1)).bind fun r19 =>
  some ((2 : Int32) * r19.1, r19.2)
  else if p1 = 15 then
   some (0, r2)
  else if p1 = 16 then
   some (0, r2)
  else if p1 = 17 then
   some (0, r2)
  else if p1 = 18 then
   some (0, r2)
  else if p1 = 19 then
   some (0, r2)
  else if p1 = 20 then
   (gI N r2 t0 1 4).bind fun x27 =>
  some (x27, r2)
  else if p1 = 21 then
   (rv N r2 t0 1).bind fun u30 =>
  (m_X1_give n N r2 t0 20 (p2 + 1)).bind fun r29 =>
  (gI N r29.2 t0 1 5).bind fun x31 =>
  some (r29.1 + x31, r29.2)
  else if p1 = 22 then
   (rv N r2 t0 1).bind fun u34 =>
  (m_X1_give n N r2 t0 21 (p2 + 1)).bind fun r33 =>
  some (r33.1 - 1000, r33.2)
  else if p1 = 23 then
   (rv N r2 t0 1).bind fun u37 =>
  (m_X1_give n N r2 t0 20 (p2 + 1)).bind fun r36 =>
  (gI N r36.2 t0 1 3).bind fun x38 =>
  (sA 1 x38).bind fun x39 =>
  (rv N r36.2 t0 1).bind fun u41 =>
  (m_X1_give n N r36.2 t0 x39 (p2 + 1)).bind fun r40 =>
  some (r36.1 - r40.1, r40.2)
  else if p1 = 24 then
   (rv N r2 t0 1).bind fun u44 =>
  (m_X1_give n N r2 t0 21 (p2 + 1)).bind fun r43 =>
  some ((2 : Int32) * r43.1, r43.2)
  else 
   some (0, r2)
  else
   some (0, σ)
set_option maxHeartbeats 4000000 in
set_option maxRecDepth 100000 in
theorem ct_X1_give {l : Launch} {D : va_G} {cy : Nat → Nat} : ∀ (n : Nat) {N : Nat} {σ : Hp} {t0 : Nat} {p1 : Int32} {p2 : Int32} {r : Int32 × Hp}, m_X1_give n N σ t0 p1 p2 = some r → Ct l D cy yX1_give cX1_give 4 (some .int) (1 + n) [.ref t0, .int p1, .int p2] N σ (fun v s' => v = (some (.int r.1)) ∧ s' = r.2) := by
  intro n
  induction n with
  | zero => intro N σ t0 p1 p2 r h; cases h
  | succ n ih =>
    intro N σ t0 p1 p2 r h
    rw [m_X1_give.eq_2] at h
    refine Ct.intro [some (.ref t0), some (.int p1), some (.int p2), none] (by decide) rfl (Nat.le_of_ble_eq_true rfl) ?_
    intro κ ω e1 e2 e3 e4 C Z E
    subst e1; subst e2; subst e3; subst e4
    have C : Cx κ 4 (1 + (n + 1)) cX1_give RX1 "give" := C
    have hE : ∀ x : Int32 × Hp, r = x → ((some (Value.int x.1)) = (some (Value.int r.1)) ∧ x.2 = r.2) := fun x hx => by subst hx; exact ⟨rfl, rfl⟩
    refine x_iload_n C (i := 2) dX1_give_0 rfl rfl ?_
    refine x_bipush C (v := 8) dX1_give_1 (by decide) ?_
    refine x_icmp_le C (tgt := 8) dX1_give_3 (by decide) (fun c1 => ?_) (fun c1 => ?_)
    · have h := ifP h c1
      refine x_aload_n C (i := 0) dX1_give_8 rfl rfl ?_
      refine x_iload_n C (i := 1) dX1_give_9 rfl rfl ?_
      obtain ⟨r2, er2, h⟩ := ob h
      refine x_callVn C Z mv_X1_leaveNumber lk_X1_59 (rv_h er2) (ct_X1_leaveNumber er2) (by omega) rfl rfl (Nat.le_of_ble_eq_true rfl) dX1_give_10 ?_
      refine x_iload_n C (i := 2) dX1_give_13 rfl rfl ?_
      refine x_iconst C (v := 1) dX1_give_14 (by decide) ?_
      refine x_iadd C dX1_give_15 ?_
      refine x_istore_n C (i := 3) (lo' := [some (.ref t0), some (.int p1), some (.int p2), some (.int (p2 + 1))]) dX1_give_16 rfl (by decide) rfl rfl ?_
      refine x_iload_n C (i := 1) dX1_give_17 rfl rfl ?_
      by_cases c3 : p1 = 10
      · have h := ifP h c3
        refine x_tableIn C (off := 74) (tgt := 92) dX1_give_18 (by rw [c3]; decide) (by rw [c3]; decide) (by rw [c3]; rfl) (by decide) ?_
        refine x_aload_n C (i := 0) dX1_give_92 rfl rfl ?_
        obtain ⟨x4, ex4, h⟩ := ob h
        refine x_getI C fl_X1_19 dX1_give_93 ex4 ?_
        exact x_iret C E dX1_give_96 (hE (x4, r2) (Option.some.inj h).symm)
      · have h := ifN h c3
        by_cases c5 : p1 = 11
        · have h := ifP h c5
          refine x_tableIn C (off := 79) (tgt := 97) dX1_give_18 (by rw [c5]; decide) (by rw [c5]; decide) (by rw [c5]; rfl) (by decide) ?_
          refine x_aload_n C (i := 0) dX1_give_97 rfl rfl ?_
          refine x_bipush C (v := 10) dX1_give_98 (by decide) ?_
          refine x_iload_n C (i := 3) dX1_give_100 rfl rfl ?_
          obtain ⟨u7, eu7, h⟩ := ob h
          obtain ⟨r6, er6, h⟩ := ob h
          refine x_callVr C Z mv_X1_give lk_X1_54 (rv_spec eu7) (ih er6) (by omega) rfl rfl (Nat.le_of_ble_eq_true rfl) dX1_give_101 ?_
          refine x_aload_n C (i := 0) dX1_give_104 rfl rfl ?_
          refine x_getsN C Z (k := 2) (by decide) gs_X1_51 dX1_give_105 ?_
          refine x_aload_n C (i := 0) dX1_give_108 rfl rfl ?_
          obtain ⟨x8, ex8, h⟩ := ob h
          refine x_getI C fl_X1_28 dX1_give_109 ex8 ?_
          obtain ⟨x9, ex9, h⟩ := ob h
          refine x_sald C Z (k := 2) (by decide) dX1_give_112 ex9 ?_
          refine x_iload_n C (i := 3) dX1_give_113 rfl rfl ?_
          obtain ⟨u11, eu11, h⟩ := ob h
          obtain ⟨r10, er10, h⟩ := ob h
          refine x_callVr C Z mv_X1_give lk_X1_54 (rv_spec eu11) (ih er10) (by omega) rfl rfl (Nat.le_of_ble_eq_true rfl) dX1_give_114 ?_
          refine x_iadd C dX1_give_117 ?_
          exact x_iret C E dX1_give_118 (hE (r6.1 + r10.1, r10.2) (Option.some.inj h).symm)
        · have h := ifN h c5
          by_cases c12 : p1 = 12
          · have h := ifP h c12
            refine x_tableIn C (off := 101) (tgt := 119) dX1_give_18 (by rw [c12]; decide) (by rw [c12]; decide) (by rw [c12]; rfl) (by decide) ?_
            refine x_aload_n C (i := 0) dX1_give_119 rfl rfl ?_
            refine x_bipush C (v := 11) dX1_give_120 (by decide) ?_
            refine x_iload_n C (i := 3) dX1_give_122 rfl rfl ?_
            obtain ⟨u14, eu14, h⟩ := ob h
            obtain ⟨r13, er13, h⟩ := ob h
            refine x_callVr C Z mv_X1_give lk_X1_54 (rv_spec eu14) (ih er13) (by omega) rfl rfl (Nat.le_of_ble_eq_true rfl) dX1_give_123 ?_
            refine x_ineg C dX1_give_126 ?_
            exact x_iret C E dX1_give_127 (hE (-r13.1, r13.2) (Option.some.inj h).symm)
          · have h := ifN h c12
            by_cases c15 : p1 = 13
            · have h := ifP h c15
              refine x_tableIn C (off := 110) (tgt := 128) dX1_give_18 (by rw [c15]; decide) (by rw [c15]; decide) (by rw [c15]; rfl) (by decide) ?_
              refine x_aload_n C (i := 0) dX1_give_128 rfl rfl ?_
              refine x_bipush C (v := 10) dX1_give_129 (by decide) ?_
              refine x_iload_n C (i := 3) dX1_give_131 rfl rfl ?_
              obtain ⟨u17, eu17, h⟩ := ob h
              obtain ⟨r16, er16, h⟩ := ob h
              refine x_callVr C Z mv_X1_give lk_X1_54 (rv_spec eu17) (ih er16) (by omega) rfl rfl (Nat.le_of_ble_eq_true rfl) dX1_give_132 ?_
              refine x_bipush C (v := 100) dX1_give_135 (by decide) ?_
              refine x_isub C dX1_give_137 ?_
              exact x_iret C E dX1_give_138 (hE (r16.1 - 100, r16.2) (Option.some.inj h).symm)
            · have h := ifN h c15
              by_cases c18 : p1 = 14
              · have h := ifP h c18
                refine x_tableIn C (off := 121) (tgt := 139) dX1_give_18 (by rw [c18]; decide) (by rw [c18]; decide) (by rw [c18]; rfl) (by decide) ?_
                refine x_iconst C (v := 2) dX1_give_139 (by decide) ?_
                refine x_aload_n C (i := 0) dX1_give_140 rfl rfl ?_
                refine x_bipush C (v := 13) dX1_give_141 (by decide) ?_
                refine x_iload_n C (i := 3) dX1_give_143 rfl rfl ?_
                obtain ⟨u20, eu20, h⟩ := ob h
                obtain ⟨r19, er19, h⟩ := ob h
                refine x_callVr C Z mv_X1_give lk_X1_54 (rv_spec eu20) (ih er19) (by omega) rfl rfl (Nat.le_of_ble_eq_true rfl) dX1_give_144 ?_
                refine x_imul C dX1_give_147 ?_
                exact x_iret C E dX1_give_148 (hE ((2 : Int32) * r19.1, r19.2) (Option.some.inj h).symm)
              · have h := ifN h c18
                by_cases c21 : p1 = 15
                · have h := ifP h c21
                  refine x_tableIn C (off := 193) (tgt := 211) dX1_give_18 (by rw [c21]; decide) (by rw [c21]; decide) (by rw [c21]; rfl) (by decide) ?_
                  refine x_iconst C (v := 0) dX1_give_211 (by decide) ?_
                  exact x_iret C E dX1_give_212 (hE (0, r2) (Option.some.inj h).symm)
                · have h := ifN h c21
                  by_cases c22 : p1 = 16
                  · have h := ifP h c22
                    refine x_tableIn C (off := 193) (tgt := 211) dX1_give_18 (by rw [c22]; decide) (by rw [c22]; decide) (by rw [c22]; rfl) (by decide) ?_
                    refine x_iconst C (v := 0) dX1_give_211 (by decide) ?_
                    exact x_iret C E dX1_give_212 (hE (0, r2) (Option.some.inj h).symm)
                  · have h := ifN h c22
                    by_cases c23 : p1 = 17
                    · have h := ifP h c23
                      refine x_tableIn C (off := 193) (tgt := 211) dX1_give_18 (by rw [c23]; decide) (by rw [c23]; decide) (by rw [c23]; rfl) (by decide) ?_
                      refine x_iconst C (v := 0) dX1_give_211 (by decide) ?_
                      exact x_iret C E dX1_give_212 (hE (0, r2) (Option.some.inj h).symm)
                    · have h := ifN h c23
                      by_cases c24 : p1 = 18
                      · have h := ifP h c24
                        refine x_tableIn C (off := 193) (tgt := 211) dX1_give_18 (by rw [c24]; decide) (by rw [c24]; decide) (by rw [c24]; rfl) (by decide) ?_
                        refine x_iconst C (v := 0) dX1_give_211 (by decide) ?_
                        exact x_iret C E dX1_give_212 (hE (0, r2) (Option.some.inj h).symm)
                      · have h := ifN h c24
                        by_cases c25 : p1 = 19
                        · have h := ifP h c25
                          refine x_tableIn C (off := 193) (tgt := 211) dX1_give_18 (by rw [c25]; decide) (by rw [c25]; decide) (by rw [c25]; rfl) (by decide) ?_
                          refine x_iconst C (v := 0) dX1_give_211 (by decide) ?_
                          exact x_iret C E dX1_give_212 (hE (0, r2) (Option.some.inj h).symm)
                        · have h := ifN h c25
                          by_cases c26 : p1 = 20
                          · have h := ifP h c26
                            refine x_tableIn C (off := 131) (tgt := 149) dX1_give_18 (by rw [c26]; decide) (by rw [c26]; decide) (by rw [c26]; rfl) (by decide) ?_
                            refine x_aload_n C (i := 0) dX1_give_149 rfl rfl ?_
                            obtain ⟨x27, ex27, h⟩ := ob h
                            refine x_getI C fl_X1_34 dX1_give_150 ex27 ?_
                            exact x_iret C E dX1_give_153 (hE (x27, r2) (Option.some.inj h).symm)
                          · have h := ifN h c26
                            by_cases c28 : p1 = 21
                            · have h := ifP h c28
                              refine x_tableIn C (off := 136) (tgt := 154) dX1_give_18 (by rw [c28]; decide) (by rw [c28]; decide) (by rw [c28]; rfl) (by decide) ?_
                              refine x_aload_n C (i := 0) dX1_give_154 rfl rfl ?_
                              refine x_bipush C (v := 20) dX1_give_155 (by decide) ?_
                              refine x_iload_n C (i := 3) dX1_give_157 rfl rfl ?_
                              obtain ⟨u30, eu30, h⟩ := ob h
                              obtain ⟨r29, er29, h⟩ := ob h
                              refine x_callVr C Z mv_X1_give lk_X1_54 (rv_spec eu30) (ih er29) (by omega) rfl rfl (Nat.le_of_ble_eq_true rfl) dX1_give_158 ?_
                              refine x_aload_n C (i := 0) dX1_give_161 rfl rfl ?_
                              obtain ⟨x31, ex31, h⟩ := ob h
                              refine x_getI C fl_X1_45 dX1_give_162 ex31 ?_
                              refine x_iadd C dX1_give_165 ?_
                              exact x_iret C E dX1_give_166 (hE (r29.1 + x31, r29.2) (Option.some.inj h).symm)
                            · have h := ifN h c28
                              by_cases c32 : p1 = 22
                              · have h := ifP h c32
                                refine x_tableIn C (off := 149) (tgt := 167) dX1_give_18 (by rw [c32]; decide) (by rw [c32]; decide) (by rw [c32]; rfl) (by decide) ?_
                                refine x_aload_n C (i := 0) dX1_give_167 rfl rfl ?_
                                refine x_bipush C (v := 21) dX1_give_168 (by decide) ?_
                                refine x_iload_n C (i := 3) dX1_give_170 rfl rfl ?_
                                obtain ⟨u34, eu34, h⟩ := ob h
                                obtain ⟨r33, er33, h⟩ := ob h
                                refine x_callVr C Z mv_X1_give lk_X1_54 (rv_spec eu34) (ih er33) (by omega) rfl rfl (Nat.le_of_ble_eq_true rfl) dX1_give_171 ?_
                                refine x_sipush C (v := 1000) dX1_give_174 (by decide) ?_
                                refine x_isub C dX1_give_177 ?_
                                exact x_iret C E dX1_give_178 (hE (r33.1 - 1000, r33.2) (Option.some.inj h).symm)
                              · have h := ifN h c32
                                by_cases c35 : p1 = 23
                                · have h := ifP h c35
                                  refine x_tableIn C (off := 161) (tgt := 179) dX1_give_18 (by rw [c35]; decide) (by rw [c35]; decide) (by rw [c35]; rfl) (by decide) ?_
                                  refine x_aload_n C (i := 0) dX1_give_179 rfl rfl ?_
                                  refine x_bipush C (v := 20) dX1_give_180 (by decide) ?_
                                  refine x_iload_n C (i := 3) dX1_give_182 rfl rfl ?_
                                  obtain ⟨u37, eu37, h⟩ := ob h
                                  obtain ⟨r36, er36, h⟩ := ob h
                                  refine x_callVr C Z mv_X1_give lk_X1_54 (rv_spec eu37) (ih er36) (by omega) rfl rfl (Nat.le_of_ble_eq_true rfl) dX1_give_183 ?_
                                  refine x_aload_n C (i := 0) dX1_give_186 rfl rfl ?_
                                  refine x_getsN C Z (k := 1) (by decide) gs_X1_48 dX1_give_187 ?_
                                  refine x_aload_n C (i := 0) dX1_give_190 rfl rfl ?_
                                  obtain ⟨x38, ex38, h⟩ := ob h
                                  refine x_getI C fl_X1_28 dX1_give_191 ex38 ?_
                                  obtain ⟨x39, ex39, h⟩ := ob h
                                  refine x_sald C Z (k := 1) (by decide) dX1_give_194 ex39 ?_
                                  refine x_iload_n C (i := 3) dX1_give_195 rfl rfl ?_
                                  obtain ⟨u41, eu41, h⟩ := ob h
                                  obtain ⟨r40, er40, h⟩ := ob h
                                  refine x_callVr C Z mv_X1_give lk_X1_54 (rv_spec eu41) (ih er40) (by omega) rfl rfl (Nat.le_of_ble_eq_true rfl) dX1_give_196 ?_
                                  refine x_isub C dX1_give_199 ?_
                                  exact x_iret C E dX1_give_200 (hE (r36.1 - r40.1, r40.2) (Option.some.inj h).symm)
                                · have h := ifN h c35
                                  by_cases c42 : p1 = 24
                                  · have h := ifP h c42
                                    refine x_tableIn C (off := 183) (tgt := 201) dX1_give_18 (by rw [c42]; decide) (by rw [c42]; decide) (by rw [c42]; rfl) (by decide) ?_
                                    refine x_iconst C (v := 2) dX1_give_201 (by decide) ?_
                                    refine x_aload_n C (i := 0) dX1_give_202 rfl rfl ?_
                                    refine x_bipush C (v := 21) dX1_give_203 (by decide) ?_
                                    refine x_iload_n C (i := 3) dX1_give_205 rfl rfl ?_
                                    obtain ⟨u44, eu44, h⟩ := ob h
                                    obtain ⟨r43, er43, h⟩ := ob h
                                    refine x_callVr C Z mv_X1_give lk_X1_54 (rv_spec eu44) (ih er43) (by omega) rfl rfl (Nat.le_of_ble_eq_true rfl) dX1_give_206 ?_
                                    refine x_imul C dX1_give_209 ?_
                                    exact x_iret C E dX1_give_210 (hE ((2 : Int32) * r43.1, r43.2) (Option.some.inj h).symm)
                                  · have h := ifN h c42
                                    refine x_tableOut C (tgt := 211) dX1_give_18 (by have q10 := lv_neT (a := 10) c3 (by decide); have q11 := lv_neT (a := 11) c5 (by decide); have q12 := lv_neT (a := 12) c12 (by decide); have q13 := lv_neT (a := 13) c15 (by decide); have q14 := lv_neT (a := 14) c18 (by decide); have q15 := lv_neT (a := 15) c21 (by decide); have q16 := lv_neT (a := 16) c22 (by decide); have q17 := lv_neT (a := 17) c23 (by decide); have q18 := lv_neT (a := 18) c24 (by decide); have q19 := lv_neT (a := 19) c25 (by decide); have q20 := lv_neT (a := 20) c26 (by decide); have q21 := lv_neT (a := 21) c28 (by decide); have q22 := lv_neT (a := 22) c32 (by decide); have q23 := lv_neT (a := 23) c35 (by decide); have q24 := lv_neT (a := 24) c42 (by decide); omega) (by decide) ?_
                                    refine x_iconst C (v := 0) dX1_give_211 (by decide) ?_
                                    exact x_iret C E dX1_give_212 (hE (0, r2) (Option.some.inj h).symm)
    · have h := ifN h c1
      refine x_iconst C (v := 0) dX1_give_6 (by decide) ?_
      exact x_iret C E dX1_give_7 (hE (0, σ) (Option.some.inj h).symm)
theorem dX1_answer_0 : decode cX1_answer 0 = .ok (.aload_n 0, 1) := by decide +kernel
theorem dX1_answer_1 : decode cX1_answer 1 = .ok (.iconst 0, 1) := by decide +kernel
theorem dX1_answer_2 : decode cX1_answer 2 = .ok (.putfield 15, 3) := by decide +kernel
theorem dX1_answer_5 : decode cX1_answer 5 = .ok (.aload_n 0, 1) := by decide +kernel
theorem dX1_answer_6 : decode cX1_answer 6 = .ok (.iload_n 2, 1) := by decide +kernel
theorem dX1_answer_7 : decode cX1_answer 7 = .ok (.putfield 19, 3) := by decide +kernel
theorem dX1_answer_10 : decode cX1_answer 10 = .ok (.aload_n 0, 1) := by decide +kernel
theorem dX1_answer_11 : decode cX1_answer 11 = .ok (.aload_n 1, 1) := by decide +kernel
theorem dX1_answer_12 : decode cX1_answer 12 = .ok (.iload_n 2, 1) := by decide +kernel
theorem dX1_answer_13 : decode cX1_answer 13 = .ok (.invokevirtual 22, 3) := by decide +kernel
theorem dX1_answer_16 : decode cX1_answer 16 = .ok (.putfield 28, 3) := by decide +kernel
theorem dX1_answer_19 : decode cX1_answer 19 = .ok (.aload_n 0, 1) := by decide +kernel
theorem dX1_answer_20 : decode cX1_answer 20 = .ok (.aload_n 1, 1) := by decide +kernel
theorem dX1_answer_21 : decode cX1_answer 21 = .ok (.iload_n 2, 1) := by decide +kernel
theorem dX1_answer_22 : decode cX1_answer 22 = .ok (.invokevirtual 31, 3) := by decide +kernel
theorem dX1_answer_25 : decode cX1_answer 25 = .ok (.putfield 34, 3) := by decide +kernel
theorem dX1_answer_28 : decode cX1_answer 28 = .ok (.aload_n 0, 1) := by decide +kernel
theorem dX1_answer_29 : decode cX1_answer 29 = .ok (.aload_n 1, 1) := by decide +kernel
theorem dX1_answer_30 : decode cX1_answer 30 = .ok (.aload_n 0, 1) := by decide +kernel
theorem dX1_answer_31 : decode cX1_answer 31 = .ok (.getfield 34, 3) := by decide +kernel
theorem dX1_answer_34 : decode cX1_answer 34 = .ok (.invokevirtual 37, 3) := by decide +kernel
theorem dX1_answer_37 : decode cX1_answer 37 = .ok (.invokestatic 40, 3) := by decide +kernel
theorem dX1_answer_40 : decode cX1_answer 40 = .ok (.putfield 45, 3) := by decide +kernel
theorem dX1_answer_43 : decode cX1_answer 43 = .ok (.aload_n 0, 1) := by decide +kernel
theorem dX1_answer_44 : decode cX1_answer 44 = .ok (.iload_n 3, 1) := by decide +kernel
theorem dX1_answer_45 : decode cX1_answer 45 = .ok (.ifCond .ne 14, 3) := by decide +kernel
theorem dX1_answer_48 : decode cX1_answer 48 = .ok (.getstatic 48, 3) := by decide +kernel
theorem dX1_answer_51 : decode cX1_answer 51 = .ok (.aload_n 0, 1) := by decide +kernel
theorem dX1_answer_52 : decode cX1_answer 52 = .ok (.getfield 28, 3) := by decide +kernel
theorem dX1_answer_55 : decode cX1_answer 55 = .ok (.iaload, 1) := by decide +kernel
theorem dX1_answer_56 : decode cX1_answer 56 = .ok (.goto 11, 3) := by decide +kernel
theorem dX1_answer_59 : decode cX1_answer 59 = .ok (.getstatic 51, 3) := by decide +kernel
theorem dX1_answer_62 : decode cX1_answer 62 = .ok (.aload_n 0, 1) := by decide +kernel
theorem dX1_answer_63 : decode cX1_answer 63 = .ok (.getfield 28, 3) := by decide +kernel
theorem dX1_answer_66 : decode cX1_answer 66 = .ok (.iaload, 1) := by decide +kernel
theorem dX1_answer_67 : decode cX1_answer 67 = .ok (.iconst 0, 1) := by decide +kernel
theorem dX1_answer_68 : decode cX1_answer 68 = .ok (.invokevirtual 54, 3) := by decide +kernel
theorem dX1_answer_71 : decode cX1_answer 71 = .ok (.ireturn, 1) := by decide +kernel
def m_X1_answer (N : Nat) (σ : Hp) (t0 : Nat) (p1 : Nat) (p2 : Int32) (p3 : Int32) : Option (Int32 × Hp) :=
  (rv N σ t0 1).bind fun _ =>
  (pV N σ t0 1 1 (.int 0)).bind fun σ1 =>
  (pV N σ1 t0 1 2 (.int p2)).bind fun σ2 =>
  (m_X2_kindOf N σ2 p1 p2).bind fun r3 =>
  (pV N σ2 t0 1 3 (.int r3)).bind fun σ4 =>
  (m_X2_pegOf N σ4 p1 p2).bind fun r5 =>
  (pV N σ4 t0 1 4 (.int r5)).bind fun σ6 =>
  (gI N σ6 t0 1 4).bind fun x7 =>
  (m_X2_lyingOn N σ6 p1 x7).bind fun r8 =>
  (m_J6_bitCount_0f7a4 r8).bind fun r9 =>
  (pV N σ6 t0 1 5 (.int r9)).bind fun σ10 =>
  ((if p3 = 0 then
   (gI N σ10 t0 1 3).bind fun x19 =>
  (sA 1 x19).bind fun x20 =>
  some x20
  else
   (gI N σ10 t0 1 3).bind fun x17 =>
  (sA 2 x17).bind fun x18 =>
  some x18) : Option (Int32)).bind fun z11 =>
  (rv N σ10 t0 1).bind fun u13 =>
  (m_X1_give 12 N σ10 t0 z11 0).bind fun r12 =>
  some (r12.1, r12.2)
set_option maxHeartbeats 4000000 in
set_option maxRecDepth 100000 in
theorem ct_X1_answer {l : Launch} {D : va_G} {cy : Nat → Nat} {N : Nat} {σ : Hp} {t0 : Nat} {p1 : Nat} {p2 : Int32} {p3 : Int32} {r : Int32 × Hp} (h : m_X1_answer N σ t0 p1 p2 p3 = some r) : Ct l D cy yX1_answer cX1_answer 4 (some .int) 14 [.ref t0, .ref p1, .int p2, .int p3] N σ (fun v s' => v = (some (.int r.1)) ∧ s' = r.2) := by
  refine Ct.intro [some (.ref t0), some (.ref p1), some (.int p2), some (.int p3)] (by decide) rfl (Nat.le_of_ble_eq_true rfl) ?_
  intro κ ω e1 e2 e3 e4 C Z E
  subst e1; subst e2; subst e3; subst e4
  have C : Cx κ 4 14 cX1_answer RX1 "answer" := C
  have hE : ∀ x : Int32 × Hp, r = x → ((some (Value.int x.1)) = (some (Value.int r.1)) ∧ x.2 = r.2) := fun x hx => by subst hx; exact ⟨rfl, rfl⟩
  unfold m_X1_answer at h
  obtain ⟨_, _, h⟩ := ob h
  refine x_aload_n C (i := 0) dX1_answer_0 rfl rfl ?_
  refine x_iconst C (v := 0) dX1_answer_1 (by decide) ?_
  obtain ⟨σ1, eσ1, h⟩ := ob h
  refine x_put C pl_X1_15 dX1_answer_2 (fun _ => ⟨rfl, rfl⟩) eσ1 ?_
  refine x_aload_n C (i := 0) dX1_answer_5 rfl rfl ?_
  refine x_iload_n C (i := 2) dX1_answer_6 rfl rfl ?_
  obtain ⟨σ2, eσ2, h⟩ := ob h
  refine x_put C pl_X1_19 dX1_answer_7 (fun _ => ⟨rfl, rfl⟩) eσ2 ?_
  refine x_aload_n C (i := 0) dX1_answer_10 rfl rfl ?_
  refine x_aload_n C (i := 1) dX1_answer_11 rfl rfl ?_
  refine x_iload_n C (i := 2) dX1_answer_12 rfl rfl ?_
  obtain ⟨r3, er3, h⟩ := ob h
  refine x_callVr C Z mv_X2_kindOf lk_X1_22 (rv_h er3) (ct_X2_kindOf er3) (by decide) rfl rfl (Nat.le_of_ble_eq_true rfl) dX1_answer_13 ?_
  obtain ⟨σ4, eσ4, h⟩ := ob h
  refine x_put C pl_X1_28 dX1_answer_16 (fun _ => ⟨rfl, rfl⟩) eσ4 ?_
  refine x_aload_n C (i := 0) dX1_answer_19 rfl rfl ?_
  refine x_aload_n C (i := 1) dX1_answer_20 rfl rfl ?_
  refine x_iload_n C (i := 2) dX1_answer_21 rfl rfl ?_
  obtain ⟨r5, er5, h⟩ := ob h
  refine x_callVr C Z mv_X2_pegOf lk_X1_31 (rv_h er5) (ct_X2_pegOf er5) (by decide) rfl rfl (Nat.le_of_ble_eq_true rfl) dX1_answer_22 ?_
  obtain ⟨σ6, eσ6, h⟩ := ob h
  refine x_put C pl_X1_34 dX1_answer_25 (fun _ => ⟨rfl, rfl⟩) eσ6 ?_
  refine x_aload_n C (i := 0) dX1_answer_28 rfl rfl ?_
  refine x_aload_n C (i := 1) dX1_answer_29 rfl rfl ?_
  refine x_aload_n C (i := 0) dX1_answer_30 rfl rfl ?_
  obtain ⟨x7, ex7, h⟩ := ob h
  refine x_getI C fl_X1_34 dX1_answer_31 ex7 ?_
  obtain ⟨r8, er8, h⟩ := ob h
  refine x_callVr C Z mv_X2_lyingOn lk_X1_37 (rv_h er8) (ct_X2_lyingOn er8) (by decide) rfl rfl (Nat.le_of_ble_eq_true rfl) dX1_answer_34 ?_
  obtain ⟨r9, er9, h⟩ := ob h
  refine x_callSr C Z ms_J6_bitCount_0f7a4 lk_X1_40 (ct_J6_bitCount_0f7a4 (N := ω.1) (σ := σ6) er9) (by decide) rfl rfl (Nat.le_of_ble_eq_true rfl) dX1_answer_37 ?_
  obtain ⟨σ10, eσ10, h⟩ := ob h
  refine x_put C pl_X1_45 dX1_answer_40 (fun _ => ⟨rfl, rfl⟩) eσ10 ?_
  refine x_aload_n C (i := 0) dX1_answer_43 rfl rfl ?_
  refine x_iload_n C (i := 3) dX1_answer_44 rfl rfl ?_
  obtain ⟨z11, hz11, h⟩ := ob h
  have hJ14 : X κ 4 ω 67 [none, none, none, none] [.int z11, .ref t0] σ10 := by
    refine x_iconst C (v := 0) dX1_answer_67 (by decide) ?_
    obtain ⟨u13, eu13, h⟩ := ob h
    obtain ⟨r12, er12, h⟩ := ob h
    refine x_callVr C Z mv_X1_give lk_X1_54 (rv_spec eu13) (ct_X1_give 12 er12) (by decide) rfl rfl (Nat.le_of_ble_eq_true rfl) dX1_answer_68 ?_
    exact x_iret C E dX1_answer_71 (hE (r12.1, r12.2) (Option.some.inj h).symm)
  clear h
  have h := hz11
  refine x_if_ne C (tgt := 59) dX1_answer_45 (by decide) (fun c16 => ?_) (fun c16 => ?_)
  · have h := ifN h c16
    refine x_getsN C Z (k := 2) (by decide) gs_X1_51 dX1_answer_59 ?_
    refine x_aload_n C (i := 0) dX1_answer_62 rfl rfl ?_
    obtain ⟨x17, ex17, h⟩ := ob h
    refine x_getI C fl_X1_28 dX1_answer_63 ex17 ?_
    obtain ⟨x18, ex18, h⟩ := ob h
    refine x_sald C Z (k := 2) (by decide) dX1_answer_66 ex18 ?_
    refine x_wk [false, false, false, false] (lo' := [none, none, none, none]) rfl ?_
    obtain rfl := Option.some.inj h
    exact hJ14
  · have h := ifP h c16
    refine x_getsN C Z (k := 1) (by decide) gs_X1_48 dX1_answer_48 ?_
    refine x_aload_n C (i := 0) dX1_answer_51 rfl rfl ?_
    obtain ⟨x19, ex19, h⟩ := ob h
    refine x_getI C fl_X1_28 dX1_answer_52 ex19 ?_
    obtain ⟨x20, ex20, h⟩ := ob h
    refine x_sald C Z (k := 1) (by decide) dX1_answer_55 ex20 ?_
    refine x_goto C (tgt := 67) dX1_answer_56 (by decide) ?_
    refine x_wk [false, false, false, false] (lo' := [none, none, none, none]) rfl ?_
    obtain rfl := Option.some.inj h
    exact hJ14
theorem dX1_tracedAt_0 : decode cX1_tracedAt 0 = .ok (.iload_n 1, 1) := by decide +kernel
theorem dX1_tracedAt_1 : decode cX1_tracedAt 1 = .ok (.ifCond .lt 11, 3) := by decide +kernel
theorem dX1_tracedAt_4 : decode cX1_tracedAt 4 = .ok (.iload_n 1, 1) := by decide +kernel
theorem dX1_tracedAt_5 : decode cX1_tracedAt 5 = .ok (.aload_n 0, 1) := by decide +kernel
theorem dX1_tracedAt_6 : decode cX1_tracedAt 6 = .ok (.getfield 15, 3) := by decide +kernel
theorem dX1_tracedAt_9 : decode cX1_tracedAt 9 = .ok (.if_icmp .lt 8, 3) := by decide +kernel
theorem dX1_tracedAt_12 : decode cX1_tracedAt 12 = .ok (.ldc 58, 2) := by decide +kernel
theorem dX1_tracedAt_14 : decode cX1_tracedAt 14 = .ok (.goto 9, 3) := by decide +kernel
theorem dX1_tracedAt_17 : decode cX1_tracedAt 17 = .ok (.aload_n 0, 1) := by decide +kernel
theorem dX1_tracedAt_18 : decode cX1_tracedAt 18 = .ok (.getfield 9, 3) := by decide +kernel
theorem dX1_tracedAt_21 : decode cX1_tracedAt 21 = .ok (.iload_n 1, 1) := by decide +kernel
theorem dX1_tracedAt_22 : decode cX1_tracedAt 22 = .ok (.iaload, 1) := by decide +kernel
theorem dX1_tracedAt_23 : decode cX1_tracedAt 23 = .ok (.ireturn, 1) := by decide +kernel
def m_X1_tracedAt (N : Nat) (σ : Hp) (t0 : Nat) (p1 : Int32) : Option (Int32) :=
  (rv N σ t0 1).bind fun _ =>
  if p1 < 0 then
   some (-1000000)
  else
   (gI N σ t0 1 1).bind fun x2 =>
  if p1 < x2 then
   (gR N σ t0 1 0).bind fun x4 =>
  (aI 0 N σ x4 p1).bind fun x5 =>
  some x5
  else
   some (-1000000)
set_option maxHeartbeats 4000000 in
set_option maxRecDepth 100000 in
theorem ct_X1_tracedAt {l : Launch} {D : va_G} {cy : Nat → Nat} {N : Nat} {σ : Hp} {t0 : Nat} {p1 : Int32} {r : Int32} (h : m_X1_tracedAt N σ t0 p1 = some r) : Ct l D cy yX1_tracedAt cX1_tracedAt 2 (some .int) 0 [.ref t0, .int p1] N σ (fun v s' => v = (some (.int r)) ∧ s' = σ) := by
  refine Ct.intro [some (.ref t0), some (.int p1)] (by decide) rfl (Nat.le_of_ble_eq_true rfl) ?_
  intro κ ω e1 e2 e3 e4 C Z E
  subst e1; subst e2; subst e3; subst e4
  have C : Cx κ 2 0 cX1_tracedAt RX1 "tracedAt" := C
  have hE : ∀ x : Int32, r = x → ((some (Value.int x)) = (some (Value.int r)) ∧ σ = σ) := fun x hx => by subst hx; exact ⟨rfl, rfl⟩
  unfold m_X1_tracedAt at h
  obtain ⟨_, _, h⟩ := ob h
  refine x_iload_n C (i := 1) dX1_tracedAt_0 rfl rfl ?_
  refine x_if_lt C (tgt := 12) dX1_tracedAt_1 (by decide) (fun c1 => ?_) (fun c1 => ?_)
  · have h := ifP h c1
    refine x_ldc C kc_X1_58 dX1_tracedAt_12 ?_
    refine x_goto C (tgt := 23) dX1_tracedAt_14 (by decide) ?_
    exact x_iret C E dX1_tracedAt_23 (hE (-1000000) (Option.some.inj h).symm)
  · have h := ifN h c1
    refine x_iload_n C (i := 1) dX1_tracedAt_4 rfl rfl ?_
    refine x_aload_n C (i := 0) dX1_tracedAt_5 rfl rfl ?_
    obtain ⟨x2, ex2, h⟩ := ob h
    refine x_getI C fl_X1_15 dX1_tracedAt_6 ex2 ?_
    refine x_icmp_lt C (tgt := 17) dX1_tracedAt_9 (by decide) (fun c3 => ?_) (fun c3 => ?_)
    · have h := ifP h c3
      refine x_aload_n C (i := 0) dX1_tracedAt_17 rfl rfl ?_
      obtain ⟨x4, ex4, h⟩ := ob h
      refine x_getR C fl_X1_9 dX1_tracedAt_18 ex4 ?_
      refine x_iload_n C (i := 1) dX1_tracedAt_21 rfl rfl ?_
      obtain ⟨x5, ex5, h⟩ := ob h
      refine x_iald C dX1_tracedAt_22 ex5 ?_
      exact x_iret C E dX1_tracedAt_23 (hE x5 (Option.some.inj h).symm)
    · have h := ifN h c3
      refine x_ldc C kc_X1_58 dX1_tracedAt_12 ?_
      refine x_goto C (tgt := 23) dX1_tracedAt_14 (by decide) ?_
      exact x_iret C E dX1_tracedAt_23 (hE (-1000000) (Option.some.inj h).symm)
theorem dX2_clear_0 : decode cX2_clear 0 = .ok (.aload_n 0, 1) := by decide +kernel
theorem dX2_clear_1 : decode cX2_clear 1 = .ok (.iconst 0, 1) := by decide +kernel
theorem dX2_clear_2 : decode cX2_clear 2 = .ok (.putfield 9, 3) := by decide +kernel
theorem dX2_clear_5 : decode cX2_clear 5 = .ok (.aload_n 0, 1) := by decide +kernel
theorem dX2_clear_6 : decode cX2_clear 6 = .ok (.iconst 0, 1) := by decide +kernel
theorem dX2_clear_7 : decode cX2_clear 7 = .ok (.putfield 15, 3) := by decide +kernel
theorem dX2_clear_10 : decode cX2_clear 10 = .ok (.aload_n 0, 1) := by decide +kernel
theorem dX2_clear_11 : decode cX2_clear 11 = .ok (.iconst 0, 1) := by decide +kernel
theorem dX2_clear_12 : decode cX2_clear 12 = .ok (.putfield 18, 3) := by decide +kernel
theorem dX2_clear_15 : decode cX2_clear 15 = .ok (.aload_n 0, 1) := by decide +kernel
theorem dX2_clear_16 : decode cX2_clear 16 = .ok (.iconst 0, 1) := by decide +kernel
theorem dX2_clear_17 : decode cX2_clear 17 = .ok (.putfield 21, 3) := by decide +kernel
theorem dX2_clear_20 : decode cX2_clear 20 = .ok (.aload_n 0, 1) := by decide +kernel
theorem dX2_clear_21 : decode cX2_clear 21 = .ok (.iconst 0, 1) := by decide +kernel
theorem dX2_clear_22 : decode cX2_clear 22 = .ok (.putfield 24, 3) := by decide +kernel
theorem dX2_clear_25 : decode cX2_clear 25 = .ok (.aload_n 0, 1) := by decide +kernel
theorem dX2_clear_26 : decode cX2_clear 26 = .ok (.iconst 0, 1) := by decide +kernel
theorem dX2_clear_27 : decode cX2_clear 27 = .ok (.putfield 27, 3) := by decide +kernel
theorem dX2_clear_30 : decode cX2_clear 30 = .ok (.return_, 1) := by decide +kernel
def m_X2_clear (N : Nat) (σ : Hp) (t0 : Nat) : Option (Hp) :=
  (rv N σ t0 2).bind fun _ =>
  (pV N σ t0 2 0 (.int 0)).bind fun σ1 =>
  (pV N σ1 t0 2 1 (.int 0)).bind fun σ2 =>
  (pV N σ2 t0 2 2 (.int 0)).bind fun σ3 =>
  (pV N σ3 t0 2 3 (.int 0)).bind fun σ4 =>
  (pV N σ4 t0 2 4 (.int 0)).bind fun σ5 =>
  (pV N σ5 t0 2 5 (.int 0)).bind fun σ6 =>
  some σ6
set_option maxHeartbeats 4000000 in
set_option maxRecDepth 100000 in
theorem ct_X2_clear {l : Launch} {D : va_G} {cy : Nat → Nat} {N : Nat} {σ : Hp} {t0 : Nat} {r : Hp} (h : m_X2_clear N σ t0 = some r) : Ct l D cy yX2_clear cX2_clear 1 none 0 [.ref t0] N σ (fun v s' => v = none ∧ s' = r) := by
  refine Ct.intro [some (.ref t0)] (by decide) rfl (Nat.le_of_ble_eq_true rfl) ?_
  intro κ ω e1 e2 e3 e4 C Z E
  subst e1; subst e2; subst e3; subst e4
  have C : Cx κ 1 0 cX2_clear RX2 "clear" := C
  have hE : ∀ x : Hp, r = x → ((none : Option Value) = none ∧ x = r) := fun x hx => by subst hx; exact ⟨rfl, rfl⟩
  unfold m_X2_clear at h
  obtain ⟨_, _, h⟩ := ob h
  refine x_aload_n C (i := 0) dX2_clear_0 rfl rfl ?_
  refine x_iconst C (v := 0) dX2_clear_1 (by decide) ?_
  obtain ⟨σ1, eσ1, h⟩ := ob h
  refine x_put C pl_X2_9 dX2_clear_2 (fun _ => ⟨rfl, rfl⟩) eσ1 ?_
  refine x_aload_n C (i := 0) dX2_clear_5 rfl rfl ?_
  refine x_iconst C (v := 0) dX2_clear_6 (by decide) ?_
  obtain ⟨σ2, eσ2, h⟩ := ob h
  refine x_put C pl_X2_15 dX2_clear_7 (fun _ => ⟨rfl, rfl⟩) eσ2 ?_
  refine x_aload_n C (i := 0) dX2_clear_10 rfl rfl ?_
  refine x_iconst C (v := 0) dX2_clear_11 (by decide) ?_
  obtain ⟨σ3, eσ3, h⟩ := ob h
  refine x_put C pl_X2_18 dX2_clear_12 (fun _ => ⟨rfl, rfl⟩) eσ3 ?_
  refine x_aload_n C (i := 0) dX2_clear_15 rfl rfl ?_
  refine x_iconst C (v := 0) dX2_clear_16 (by decide) ?_
  obtain ⟨σ4, eσ4, h⟩ := ob h
  refine x_put C pl_X2_21 dX2_clear_17 (fun _ => ⟨rfl, rfl⟩) eσ4 ?_
  refine x_aload_n C (i := 0) dX2_clear_20 rfl rfl ?_
  refine x_iconst C (v := 0) dX2_clear_21 (by decide) ?_
  obtain ⟨σ5, eσ5, h⟩ := ob h
  refine x_put C pl_X2_24 dX2_clear_22 (fun _ => ⟨rfl, rfl⟩) eσ5 ?_
  refine x_aload_n C (i := 0) dX2_clear_25 rfl rfl ?_
  refine x_iconst C (v := 0) dX2_clear_26 (by decide) ?_
  obtain ⟨σ6, eσ6, h⟩ := ob h
  refine x_put C pl_X2_27 dX2_clear_27 (fun _ => ⟨rfl, rfl⟩) eσ6 ?_
  exact x_vret C E dX2_clear_30 (hE σ6 (Option.some.inj h).symm)
theorem dX2_isNone_0 : decode cX2_isNone 0 = .ok (.aload_n 0, 1) := by decide +kernel
theorem dX2_isNone_1 : decode cX2_isNone 1 = .ok (.getfield 9, 3) := by decide +kernel
theorem dX2_isNone_4 : decode cX2_isNone 4 = .ok (.ifCond .ne 7, 3) := by decide +kernel
theorem dX2_isNone_7 : decode cX2_isNone 7 = .ok (.iconst 1, 1) := by decide +kernel
theorem dX2_isNone_8 : decode cX2_isNone 8 = .ok (.goto 4, 3) := by decide +kernel
theorem dX2_isNone_11 : decode cX2_isNone 11 = .ok (.iconst 0, 1) := by decide +kernel
theorem dX2_isNone_12 : decode cX2_isNone 12 = .ok (.ireturn, 1) := by decide +kernel
def m_X2_isNone (N : Nat) (σ : Hp) (t0 : Nat) : Option (Int32) :=
  (rv N σ t0 2).bind fun _ =>
  (gI N σ t0 2 0).bind fun x1 =>
  if x1 = 0 then
   some 1
  else
   some 0
set_option maxHeartbeats 4000000 in
set_option maxRecDepth 100000 in
theorem ct_X2_isNone {l : Launch} {D : va_G} {cy : Nat → Nat} {N : Nat} {σ : Hp} {t0 : Nat} {r : Int32} (h : m_X2_isNone N σ t0 = some r) : Ct l D cy yX2_isNone cX2_isNone 1 (some .boolean) 0 [.ref t0] N σ (fun v s' => v = (some (.int r)) ∧ s' = σ) := by
  refine Ct.intro [some (.ref t0)] (by decide) rfl (Nat.le_of_ble_eq_true rfl) ?_
  intro κ ω e1 e2 e3 e4 C Z E
  subst e1; subst e2; subst e3; subst e4
  have C : Cx κ 1 0 cX2_isNone RX2 "isNone" := C
  have hE : ∀ x : Int32, r = x → ((some (Value.int x)) = (some (Value.int r)) ∧ σ = σ) := fun x hx => by subst hx; exact ⟨rfl, rfl⟩
  unfold m_X2_isNone at h
  obtain ⟨_, _, h⟩ := ob h
  refine x_aload_n C (i := 0) dX2_isNone_0 rfl rfl ?_
  obtain ⟨x1, ex1, h⟩ := ob h
  refine x_getI C fl_X2_9 dX2_isNone_1 ex1 ?_
  refine x_if_ne C (tgt := 11) dX2_isNone_4 (by decide) (fun c2 => ?_) (fun c2 => ?_)
  · have h := ifN h c2
    refine x_iconst C (v := 0) dX2_isNone_11 (by decide) ?_
    exact x_zret C E (by decide +kernel) dX2_isNone_12 (hE 0 (Option.some.inj h).symm)
  · have h := ifP h c2
    refine x_iconst C (v := 1) dX2_isNone_7 (by decide) ?_
    refine x_goto C (tgt := 12) dX2_isNone_8 (by decide) ?_
    exact x_zret C E (by decide +kernel) dX2_isNone_12 (hE 1 (Option.some.inj h).symm)
theorem dX2_hasPeg_0 : decode cX2_hasPeg 0 = .ok (.iload_n 1, 1) := by decide +kernel
theorem dX2_hasPeg_1 : decode cX2_hasPeg 1 = .ok (.ifCond .lt 15, 3) := by decide +kernel
theorem dX2_hasPeg_4 : decode cX2_hasPeg 4 = .ok (.iload_n 1, 1) := by decide +kernel
theorem dX2_hasPeg_5 : decode cX2_hasPeg 5 = .ok (.aload_n 0, 1) := by decide +kernel
theorem dX2_hasPeg_6 : decode cX2_hasPeg 6 = .ok (.getfield 9, 3) := by decide +kernel
theorem dX2_hasPeg_9 : decode cX2_hasPeg 9 = .ok (.if_icmp .ge 7, 3) := by decide +kernel
theorem dX2_hasPeg_12 : decode cX2_hasPeg 12 = .ok (.iconst 1, 1) := by decide +kernel
theorem dX2_hasPeg_13 : decode cX2_hasPeg 13 = .ok (.goto 4, 3) := by decide +kernel
theorem dX2_hasPeg_16 : decode cX2_hasPeg 16 = .ok (.iconst 0, 1) := by decide +kernel
theorem dX2_hasPeg_17 : decode cX2_hasPeg 17 = .ok (.ireturn, 1) := by decide +kernel
def m_X2_hasPeg (N : Nat) (σ : Hp) (t0 : Nat) (p1 : Int32) : Option (Int32) :=
  (rv N σ t0 2).bind fun _ =>
  if p1 < 0 then
   some 0
  else
   (gI N σ t0 2 0).bind fun x2 =>
  if x2 ≤ p1 then
   some 0
  else
   some 1
set_option maxHeartbeats 4000000 in
set_option maxRecDepth 100000 in
theorem ct_X2_hasPeg {l : Launch} {D : va_G} {cy : Nat → Nat} {N : Nat} {σ : Hp} {t0 : Nat} {p1 : Int32} {r : Int32} (h : m_X2_hasPeg N σ t0 p1 = some r) : Ct l D cy yX2_hasPeg cX2_hasPeg 2 (some .boolean) 0 [.ref t0, .int p1] N σ (fun v s' => v = (some (.int r)) ∧ s' = σ) := by
  refine Ct.intro [some (.ref t0), some (.int p1)] (by decide) rfl (Nat.le_of_ble_eq_true rfl) ?_
  intro κ ω e1 e2 e3 e4 C Z E
  subst e1; subst e2; subst e3; subst e4
  have C : Cx κ 2 0 cX2_hasPeg RX2 "hasPeg" := C
  have hE : ∀ x : Int32, r = x → ((some (Value.int x)) = (some (Value.int r)) ∧ σ = σ) := fun x hx => by subst hx; exact ⟨rfl, rfl⟩
  unfold m_X2_hasPeg at h
  obtain ⟨_, _, h⟩ := ob h
  refine x_iload_n C (i := 1) dX2_hasPeg_0 rfl rfl ?_
  refine x_if_lt C (tgt := 16) dX2_hasPeg_1 (by decide) (fun c1 => ?_) (fun c1 => ?_)
  · have h := ifP h c1
    refine x_iconst C (v := 0) dX2_hasPeg_16 (by decide) ?_
    exact x_zret C E (by decide +kernel) dX2_hasPeg_17 (hE 0 (Option.some.inj h).symm)
  · have h := ifN h c1
    refine x_iload_n C (i := 1) dX2_hasPeg_4 rfl rfl ?_
    refine x_aload_n C (i := 0) dX2_hasPeg_5 rfl rfl ?_
    obtain ⟨x2, ex2, h⟩ := ob h
    refine x_getI C fl_X2_9 dX2_hasPeg_6 ex2 ?_
    refine x_icmp_ge C (tgt := 16) dX2_hasPeg_9 (by decide) (fun c3 => ?_) (fun c3 => ?_)
    · have h := ifP h c3
      refine x_iconst C (v := 0) dX2_hasPeg_16 (by decide) ?_
      exact x_zret C E (by decide +kernel) dX2_hasPeg_17 (hE 0 (Option.some.inj h).symm)
    · have h := ifN h c3
      refine x_iconst C (v := 1) dX2_hasPeg_12 (by decide) ?_
      refine x_goto C (tgt := 17) dX2_hasPeg_13 (by decide) ?_
      exact x_zret C E (by decide +kernel) dX2_hasPeg_17 (hE 1 (Option.some.inj h).symm)
theorem dX2_hasDisc_0 : decode cX2_hasDisc 0 = .ok (.iload_n 1, 1) := by decide +kernel
theorem dX2_hasDisc_1 : decode cX2_hasDisc 1 = .ok (.ifCond .lt 15, 3) := by decide +kernel
theorem dX2_hasDisc_4 : decode cX2_hasDisc 4 = .ok (.iload_n 1, 1) := by decide +kernel
theorem dX2_hasDisc_5 : decode cX2_hasDisc 5 = .ok (.aload_n 0, 1) := by decide +kernel
theorem dX2_hasDisc_6 : decode cX2_hasDisc 6 = .ok (.getfield 15, 3) := by decide +kernel
theorem dX2_hasDisc_9 : decode cX2_hasDisc 9 = .ok (.if_icmp .ge 7, 3) := by decide +kernel
theorem dX2_hasDisc_12 : decode cX2_hasDisc 12 = .ok (.iconst 1, 1) := by decide +kernel
theorem dX2_hasDisc_13 : decode cX2_hasDisc 13 = .ok (.goto 4, 3) := by decide +kernel
theorem dX2_hasDisc_16 : decode cX2_hasDisc 16 = .ok (.iconst 0, 1) := by decide +kernel
theorem dX2_hasDisc_17 : decode cX2_hasDisc 17 = .ok (.ireturn, 1) := by decide +kernel
def m_X2_hasDisc (N : Nat) (σ : Hp) (t0 : Nat) (p1 : Int32) : Option (Int32) :=
  (rv N σ t0 2).bind fun _ =>
  if p1 < 0 then
   some 0
  else
   (gI N σ t0 2 1).bind fun x2 =>
  if x2 ≤ p1 then
   some 0
  else
   some 1
set_option maxHeartbeats 4000000 in
set_option maxRecDepth 100000 in
theorem ct_X2_hasDisc {l : Launch} {D : va_G} {cy : Nat → Nat} {N : Nat} {σ : Hp} {t0 : Nat} {p1 : Int32} {r : Int32} (h : m_X2_hasDisc N σ t0 p1 = some r) : Ct l D cy yX2_hasDisc cX2_hasDisc 2 (some .boolean) 0 [.ref t0, .int p1] N σ (fun v s' => v = (some (.int r)) ∧ s' = σ) := by
  refine Ct.intro [some (.ref t0), some (.int p1)] (by decide) rfl (Nat.le_of_ble_eq_true rfl) ?_
  intro κ ω e1 e2 e3 e4 C Z E
  subst e1; subst e2; subst e3; subst e4
  have C : Cx κ 2 0 cX2_hasDisc RX2 "hasDisc" := C
  have hE : ∀ x : Int32, r = x → ((some (Value.int x)) = (some (Value.int r)) ∧ σ = σ) := fun x hx => by subst hx; exact ⟨rfl, rfl⟩
  unfold m_X2_hasDisc at h
  obtain ⟨_, _, h⟩ := ob h
  refine x_iload_n C (i := 1) dX2_hasDisc_0 rfl rfl ?_
  refine x_if_lt C (tgt := 16) dX2_hasDisc_1 (by decide) (fun c1 => ?_) (fun c1 => ?_)
  · have h := ifP h c1
    refine x_iconst C (v := 0) dX2_hasDisc_16 (by decide) ?_
    exact x_zret C E (by decide +kernel) dX2_hasDisc_17 (hE 0 (Option.some.inj h).symm)
  · have h := ifN h c1
    refine x_iload_n C (i := 1) dX2_hasDisc_4 rfl rfl ?_
    refine x_aload_n C (i := 0) dX2_hasDisc_5 rfl rfl ?_
    obtain ⟨x2, ex2, h⟩ := ob h
    refine x_getI C fl_X2_15 dX2_hasDisc_6 ex2 ?_
    refine x_icmp_ge C (tgt := 16) dX2_hasDisc_9 (by decide) (fun c3 => ?_) (fun c3 => ?_)
    · have h := ifP h c3
      refine x_iconst C (v := 0) dX2_hasDisc_16 (by decide) ?_
      exact x_zret C E (by decide +kernel) dX2_hasDisc_17 (hE 0 (Option.some.inj h).symm)
    · have h := ifN h c3
      refine x_iconst C (v := 1) dX2_hasDisc_12 (by decide) ?_
      refine x_goto C (tgt := 17) dX2_hasDisc_13 (by decide) ?_
      exact x_zret C E (by decide +kernel) dX2_hasDisc_17 (hE 1 (Option.some.inj h).symm)
theorem dX2_layBy_0 : decode cX2_layBy 0 = .ok (.aload_n 0, 1) := by decide +kernel
theorem dX2_layBy_1 : decode cX2_layBy 1 = .ok (.aload_n 0, 1) := by decide +kernel
theorem dX2_layBy_2 : decode cX2_layBy 2 = .ok (.getfield 27, 3) := by decide +kernel
theorem dX2_layBy_5 : decode cX2_layBy 5 = .ok (.iconst 3, 1) := by decide +kernel
theorem dX2_layBy_6 : decode cX2_layBy 6 = .ok (.iconst 2, 1) := by decide +kernel
theorem dX2_layBy_7 : decode cX2_layBy 7 = .ok (.iload_n 1, 1) := by decide +kernel
theorem dX2_layBy_8 : decode cX2_layBy 8 = .ok (.imul, 1) := by decide +kernel
theorem dX2_layBy_9 : decode cX2_layBy 9 = .ok (.ishl, 1) := by decide +kernel
theorem dX2_layBy_10 : decode cX2_layBy 10 = .ok (.iconst (-1), 1) := by decide +kernel
theorem dX2_layBy_11 : decode cX2_layBy 11 = .ok (.ixor, 1) := by decide +kernel
theorem dX2_layBy_12 : decode cX2_layBy 12 = .ok (.iand, 1) := by decide +kernel
theorem dX2_layBy_13 : decode cX2_layBy 13 = .ok (.iload_n 2, 1) := by decide +kernel
theorem dX2_layBy_14 : decode cX2_layBy 14 = .ok (.iconst 3, 1) := by decide +kernel
theorem dX2_layBy_15 : decode cX2_layBy 15 = .ok (.iand, 1) := by decide +kernel
theorem dX2_layBy_16 : decode cX2_layBy 16 = .ok (.iconst 2, 1) := by decide +kernel
theorem dX2_layBy_17 : decode cX2_layBy 17 = .ok (.iload_n 1, 1) := by decide +kernel
theorem dX2_layBy_18 : decode cX2_layBy 18 = .ok (.imul, 1) := by decide +kernel
theorem dX2_layBy_19 : decode cX2_layBy 19 = .ok (.ishl, 1) := by decide +kernel
theorem dX2_layBy_20 : decode cX2_layBy 20 = .ok (.ior, 1) := by decide +kernel
theorem dX2_layBy_21 : decode cX2_layBy 21 = .ok (.putfield 27, 3) := by decide +kernel
theorem dX2_layBy_24 : decode cX2_layBy 24 = .ok (.return_, 1) := by decide +kernel
def m_X2_layBy (N : Nat) (σ : Hp) (t0 : Nat) (p1 : Int32) (p2 : Int32) : Option (Hp) :=
  (rv N σ t0 2).bind fun _ =>
  (gI N σ t0 2 5).bind fun x1 =>
  (pV N σ t0 2 5 (.int ((x1 &&& (((3 : Int32) <<< (((2 : Int32) * p1) &&& 31)) ^^^ (-1))) ||| ((p2 &&& 3) <<< (((2 : Int32) * p1) &&& 31))))).bind fun σ2 =>
  some σ2
set_option maxHeartbeats 4000000 in
set_option maxRecDepth 100000 in
theorem ct_X2_layBy {l : Launch} {D : va_G} {cy : Nat → Nat} {N : Nat} {σ : Hp} {t0 : Nat} {p1 : Int32} {p2 : Int32} {r : Hp} (h : m_X2_layBy N σ t0 p1 p2 = some r) : Ct l D cy yX2_layBy cX2_layBy 3 none 0 [.ref t0, .int p1, .int p2] N σ (fun v s' => v = none ∧ s' = r) := by
  refine Ct.intro [some (.ref t0), some (.int p1), some (.int p2)] (by decide) rfl (Nat.le_of_ble_eq_true rfl) ?_
  intro κ ω e1 e2 e3 e4 C Z E
  subst e1; subst e2; subst e3; subst e4
  have C : Cx κ 3 0 cX2_layBy RX2 "layBy" := C
  have hE : ∀ x : Hp, r = x → ((none : Option Value) = none ∧ x = r) := fun x hx => by subst hx; exact ⟨rfl, rfl⟩
  unfold m_X2_layBy at h
  obtain ⟨_, _, h⟩ := ob h
  refine x_aload_n C (i := 0) dX2_layBy_0 rfl rfl ?_
  refine x_aload_n C (i := 0) dX2_layBy_1 rfl rfl ?_
  obtain ⟨x1, ex1, h⟩ := ob h
  refine x_getI C fl_X2_27 dX2_layBy_2 ex1 ?_
  refine x_iconst C (v := 3) dX2_layBy_5 (by decide) ?_
  refine x_iconst C (v := 2) dX2_layBy_6 (by decide) ?_
  refine x_iload_n C (i := 1) dX2_layBy_7 rfl rfl ?_
  refine x_imul C dX2_layBy_8 ?_
  refine x_ishl C dX2_layBy_9 ?_
  refine x_iconst C (v := (-1)) dX2_layBy_10 (by decide) ?_
  refine x_ixor C dX2_layBy_11 ?_
  refine x_iand C dX2_layBy_12 ?_
  refine x_iload_n C (i := 2) dX2_layBy_13 rfl rfl ?_
  refine x_iconst C (v := 3) dX2_layBy_14 (by decide) ?_
  refine x_iand C dX2_layBy_15 ?_
  refine x_iconst C (v := 2) dX2_layBy_16 (by decide) ?_
  refine x_iload_n C (i := 1) dX2_layBy_17 rfl rfl ?_
  refine x_imul C dX2_layBy_18 ?_
  refine x_ishl C dX2_layBy_19 ?_
  refine x_ior C dX2_layBy_20 ?_
  obtain ⟨σ2, eσ2, h⟩ := ob h
  refine x_put C pl_X2_27 dX2_layBy_21 (fun _ => ⟨rfl, rfl⟩) eσ2 ?_
  exact x_vret C E dX2_layBy_24 (hE σ2 (Option.some.inj h).symm)
theorem dX2_sortAs_0 : decode cX2_sortAs 0 = .ok (.aload_n 0, 1) := by decide +kernel
theorem dX2_sortAs_1 : decode cX2_sortAs 1 = .ok (.aload_n 0, 1) := by decide +kernel
theorem dX2_sortAs_2 : decode cX2_sortAs 2 = .ok (.getfield 24, 3) := by decide +kernel
theorem dX2_sortAs_5 : decode cX2_sortAs 5 = .ok (.bipush 7, 2) := by decide +kernel
theorem dX2_sortAs_7 : decode cX2_sortAs 7 = .ok (.iconst 3, 1) := by decide +kernel
theorem dX2_sortAs_8 : decode cX2_sortAs 8 = .ok (.iload_n 1, 1) := by decide +kernel
theorem dX2_sortAs_9 : decode cX2_sortAs 9 = .ok (.imul, 1) := by decide +kernel
theorem dX2_sortAs_10 : decode cX2_sortAs 10 = .ok (.ishl, 1) := by decide +kernel
theorem dX2_sortAs_11 : decode cX2_sortAs 11 = .ok (.iconst (-1), 1) := by decide +kernel
theorem dX2_sortAs_12 : decode cX2_sortAs 12 = .ok (.ixor, 1) := by decide +kernel
theorem dX2_sortAs_13 : decode cX2_sortAs 13 = .ok (.iand, 1) := by decide +kernel
theorem dX2_sortAs_14 : decode cX2_sortAs 14 = .ok (.iload_n 2, 1) := by decide +kernel
theorem dX2_sortAs_15 : decode cX2_sortAs 15 = .ok (.bipush 7, 2) := by decide +kernel
theorem dX2_sortAs_17 : decode cX2_sortAs 17 = .ok (.iand, 1) := by decide +kernel
theorem dX2_sortAs_18 : decode cX2_sortAs 18 = .ok (.iconst 3, 1) := by decide +kernel
theorem dX2_sortAs_19 : decode cX2_sortAs 19 = .ok (.iload_n 1, 1) := by decide +kernel
theorem dX2_sortAs_20 : decode cX2_sortAs 20 = .ok (.imul, 1) := by decide +kernel
theorem dX2_sortAs_21 : decode cX2_sortAs 21 = .ok (.ishl, 1) := by decide +kernel
theorem dX2_sortAs_22 : decode cX2_sortAs 22 = .ok (.ior, 1) := by decide +kernel
theorem dX2_sortAs_23 : decode cX2_sortAs 23 = .ok (.putfield 24, 3) := by decide +kernel
theorem dX2_sortAs_26 : decode cX2_sortAs 26 = .ok (.return_, 1) := by decide +kernel
def m_X2_sortAs (N : Nat) (σ : Hp) (t0 : Nat) (p1 : Int32) (p2 : Int32) : Option (Hp) :=
  (rv N σ t0 2).bind fun _ =>
  (gI N σ t0 2 4).bind fun x1 =>
  (pV N σ t0 2 4 (.int ((x1 &&& (((7 : Int32) <<< (((3 : Int32) * p1) &&& 31)) ^^^ (-1))) ||| ((p2 &&& 7) <<< (((3 : Int32) * p1) &&& 31))))).bind fun σ2 =>
  some σ2
set_option maxHeartbeats 4000000 in
set_option maxRecDepth 100000 in
theorem ct_X2_sortAs {l : Launch} {D : va_G} {cy : Nat → Nat} {N : Nat} {σ : Hp} {t0 : Nat} {p1 : Int32} {p2 : Int32} {r : Hp} (h : m_X2_sortAs N σ t0 p1 p2 = some r) : Ct l D cy yX2_sortAs cX2_sortAs 3 none 0 [.ref t0, .int p1, .int p2] N σ (fun v s' => v = none ∧ s' = r) := by
  refine Ct.intro [some (.ref t0), some (.int p1), some (.int p2)] (by decide) rfl (Nat.le_of_ble_eq_true rfl) ?_
  intro κ ω e1 e2 e3 e4 C Z E
  subst e1; subst e2; subst e3; subst e4
  have C : Cx κ 3 0 cX2_sortAs RX2 "sortAs" := C
  have hE : ∀ x : Hp, r = x → ((none : Option Value) = none ∧ x = r) := fun x hx => by subst hx; exact ⟨rfl, rfl⟩
  unfold m_X2_sortAs at h
  obtain ⟨_, _, h⟩ := ob h
  refine x_aload_n C (i := 0) dX2_sortAs_0 rfl rfl ?_
  refine x_aload_n C (i := 0) dX2_sortAs_1 rfl rfl ?_
  obtain ⟨x1, ex1, h⟩ := ob h
  refine x_getI C fl_X2_24 dX2_sortAs_2 ex1 ?_
  refine x_bipush C (v := 7) dX2_sortAs_5 (by decide) ?_
  refine x_iconst C (v := 3) dX2_sortAs_7 (by decide) ?_
  refine x_iload_n C (i := 1) dX2_sortAs_8 rfl rfl ?_
  refine x_imul C dX2_sortAs_9 ?_
  refine x_ishl C dX2_sortAs_10 ?_
  refine x_iconst C (v := (-1)) dX2_sortAs_11 (by decide) ?_
  refine x_ixor C dX2_sortAs_12 ?_
  refine x_iand C dX2_sortAs_13 ?_
  refine x_iload_n C (i := 2) dX2_sortAs_14 rfl rfl ?_
  refine x_bipush C (v := 7) dX2_sortAs_15 (by decide) ?_
  refine x_iand C dX2_sortAs_17 ?_
  refine x_iconst C (v := 3) dX2_sortAs_18 (by decide) ?_
  refine x_iload_n C (i := 1) dX2_sortAs_19 rfl rfl ?_
  refine x_imul C dX2_sortAs_20 ?_
  refine x_ishl C dX2_sortAs_21 ?_
  refine x_ior C dX2_sortAs_22 ?_
  obtain ⟨σ2, eσ2, h⟩ := ob h
  refine x_put C pl_X2_24 dX2_sortAs_23 (fun _ => ⟨rfl, rfl⟩) eσ2 ?_
  exact x_vret C E dX2_sortAs_26 (hE σ2 (Option.some.inj h).symm)
theorem dX2_hasLawOf_0 : decode cX2_hasLawOf 0 = .ok (.aload_n 0, 1) := by decide +kernel
theorem dX2_hasLawOf_1 : decode cX2_hasLawOf 1 = .ok (.getfield 9, 3) := by decide +kernel
theorem dX2_hasLawOf_4 : decode cX2_hasLawOf 4 = .ok (.aload_n 1, 1) := by decide +kernel
theorem dX2_hasLawOf_5 : decode cX2_hasLawOf 5 = .ok (.getfield 9, 3) := by decide +kernel
theorem dX2_hasLawOf_8 : decode cX2_hasLawOf 8 = .ok (.if_icmp .ne 40, 3) := by decide +kernel
theorem dX2_hasLawOf_11 : decode cX2_hasLawOf 11 = .ok (.aload_n 0, 1) := by decide +kernel
theorem dX2_hasLawOf_12 : decode cX2_hasLawOf 12 = .ok (.getfield 15, 3) := by decide +kernel
theorem dX2_hasLawOf_15 : decode cX2_hasLawOf 15 = .ok (.aload_n 1, 1) := by decide +kernel
theorem dX2_hasLawOf_16 : decode cX2_hasLawOf 16 = .ok (.getfield 15, 3) := by decide +kernel
theorem dX2_hasLawOf_19 : decode cX2_hasLawOf 19 = .ok (.if_icmp .ne 29, 3) := by decide +kernel
theorem dX2_hasLawOf_22 : decode cX2_hasLawOf 22 = .ok (.aload_n 0, 1) := by decide +kernel
theorem dX2_hasLawOf_23 : decode cX2_hasLawOf 23 = .ok (.getfield 18, 3) := by decide +kernel
theorem dX2_hasLawOf_26 : decode cX2_hasLawOf 26 = .ok (.aload_n 1, 1) := by decide +kernel
theorem dX2_hasLawOf_27 : decode cX2_hasLawOf 27 = .ok (.getfield 18, 3) := by decide +kernel
theorem dX2_hasLawOf_30 : decode cX2_hasLawOf 30 = .ok (.if_icmp .ne 18, 3) := by decide +kernel
theorem dX2_hasLawOf_33 : decode cX2_hasLawOf 33 = .ok (.aload_n 0, 1) := by decide +kernel
theorem dX2_hasLawOf_34 : decode cX2_hasLawOf 34 = .ok (.getfield 24, 3) := by decide +kernel
theorem dX2_hasLawOf_37 : decode cX2_hasLawOf 37 = .ok (.aload_n 1, 1) := by decide +kernel
theorem dX2_hasLawOf_38 : decode cX2_hasLawOf 38 = .ok (.getfield 24, 3) := by decide +kernel
theorem dX2_hasLawOf_41 : decode cX2_hasLawOf 41 = .ok (.if_icmp .ne 7, 3) := by decide +kernel
theorem dX2_hasLawOf_44 : decode cX2_hasLawOf 44 = .ok (.iconst 1, 1) := by decide +kernel
theorem dX2_hasLawOf_45 : decode cX2_hasLawOf 45 = .ok (.goto 4, 3) := by decide +kernel
theorem dX2_hasLawOf_48 : decode cX2_hasLawOf 48 = .ok (.iconst 0, 1) := by decide +kernel
theorem dX2_hasLawOf_49 : decode cX2_hasLawOf 49 = .ok (.ireturn, 1) := by decide +kernel
def m_X2_hasLawOf (N : Nat) (σ : Hp) (t0 : Nat) (p1 : Nat) : Option (Int32) :=
  (rv N σ t0 2).bind fun _ =>
  (gI N σ t0 2 0).bind fun x1 =>
  (gI N σ p1 2 0).bind fun x2 =>
  if x1 = x2 then
   (gI N σ t0 2 1).bind fun x4 =>
  (gI N σ p1 2 1).bind fun x5 =>
  if x4 = x5 then
   (gI N σ t0 2 2).bind fun x7 =>
  (gI N σ p1 2 2).bind fun x8 =>
  if x7 = x8 then
   (gI N σ t0 2 4).bind fun x10 =>
  (gI N σ p1 2 4).bind fun x11 =>
  if x10 = x11 then
   some 1
  else
   some 0
  else
   some 0
  else
   some 0
  else
   some 0
set_option maxHeartbeats 4000000 in
set_option maxRecDepth 100000 in
theorem ct_X2_hasLawOf {l : Launch} {D : va_G} {cy : Nat → Nat} {N : Nat} {σ : Hp} {t0 : Nat} {p1 : Nat} {r : Int32} (h : m_X2_hasLawOf N σ t0 p1 = some r) : Ct l D cy yX2_hasLawOf cX2_hasLawOf 2 (some .boolean) 0 [.ref t0, .ref p1] N σ (fun v s' => v = (some (.int r)) ∧ s' = σ) := by
  refine Ct.intro [some (.ref t0), some (.ref p1)] (by decide) rfl (Nat.le_of_ble_eq_true rfl) ?_
  intro κ ω e1 e2 e3 e4 C Z E
  subst e1; subst e2; subst e3; subst e4
  have C : Cx κ 2 0 cX2_hasLawOf RX2 "hasLawOf" := C
  have hE : ∀ x : Int32, r = x → ((some (Value.int x)) = (some (Value.int r)) ∧ σ = σ) := fun x hx => by subst hx; exact ⟨rfl, rfl⟩
  unfold m_X2_hasLawOf at h
  obtain ⟨_, _, h⟩ := ob h
  refine x_aload_n C (i := 0) dX2_hasLawOf_0 rfl rfl ?_
  obtain ⟨x1, ex1, h⟩ := ob h
  refine x_getI C fl_X2_9 dX2_hasLawOf_1 ex1 ?_
  refine x_aload_n C (i := 1) dX2_hasLawOf_4 rfl rfl ?_
  obtain ⟨x2, ex2, h⟩ := ob h
  refine x_getI C fl_X2_9 dX2_hasLawOf_5 ex2 ?_
  refine x_icmp_ne C (tgt := 48) dX2_hasLawOf_8 (by decide) (fun c3 => ?_) (fun c3 => ?_)
  · have h := ifN h c3
    refine x_iconst C (v := 0) dX2_hasLawOf_48 (by decide) ?_
    exact x_zret C E (by decide +kernel) dX2_hasLawOf_49 (hE 0 (Option.some.inj h).symm)
  · have h := ifP h c3
    refine x_aload_n C (i := 0) dX2_hasLawOf_11 rfl rfl ?_
    obtain ⟨x4, ex4, h⟩ := ob h
    refine x_getI C fl_X2_15 dX2_hasLawOf_12 ex4 ?_
    refine x_aload_n C (i := 1) dX2_hasLawOf_15 rfl rfl ?_
    obtain ⟨x5, ex5, h⟩ := ob h
    refine x_getI C fl_X2_15 dX2_hasLawOf_16 ex5 ?_
    refine x_icmp_ne C (tgt := 48) dX2_hasLawOf_19 (by decide) (fun c6 => ?_) (fun c6 => ?_)
    · have h := ifN h c6
      refine x_iconst C (v := 0) dX2_hasLawOf_48 (by decide) ?_
      exact x_zret C E (by decide +kernel) dX2_hasLawOf_49 (hE 0 (Option.some.inj h).symm)
    · have h := ifP h c6
      refine x_aload_n C (i := 0) dX2_hasLawOf_22 rfl rfl ?_
      obtain ⟨x7, ex7, h⟩ := ob h
      refine x_getI C fl_X2_18 dX2_hasLawOf_23 ex7 ?_
      refine x_aload_n C (i := 1) dX2_hasLawOf_26 rfl rfl ?_
      obtain ⟨x8, ex8, h⟩ := ob h
      refine x_getI C fl_X2_18 dX2_hasLawOf_27 ex8 ?_
      refine x_icmp_ne C (tgt := 48) dX2_hasLawOf_30 (by decide) (fun c9 => ?_) (fun c9 => ?_)
      · have h := ifN h c9
        refine x_iconst C (v := 0) dX2_hasLawOf_48 (by decide) ?_
        exact x_zret C E (by decide +kernel) dX2_hasLawOf_49 (hE 0 (Option.some.inj h).symm)
      · have h := ifP h c9
        refine x_aload_n C (i := 0) dX2_hasLawOf_33 rfl rfl ?_
        obtain ⟨x10, ex10, h⟩ := ob h
        refine x_getI C fl_X2_24 dX2_hasLawOf_34 ex10 ?_
        refine x_aload_n C (i := 1) dX2_hasLawOf_37 rfl rfl ?_
        obtain ⟨x11, ex11, h⟩ := ob h
        refine x_getI C fl_X2_24 dX2_hasLawOf_38 ex11 ?_
        refine x_icmp_ne C (tgt := 48) dX2_hasLawOf_41 (by decide) (fun c12 => ?_) (fun c12 => ?_)
        · have h := ifN h c12
          refine x_iconst C (v := 0) dX2_hasLawOf_48 (by decide) ?_
          exact x_zret C E (by decide +kernel) dX2_hasLawOf_49 (hE 0 (Option.some.inj h).symm)
        · have h := ifP h c12
          refine x_iconst C (v := 1) dX2_hasLawOf_44 (by decide) ?_
          refine x_goto C (tgt := 49) dX2_hasLawOf_45 (by decide) ?_
          exact x_zret C E (by decide +kernel) dX2_hasLawOf_49 (hE 1 (Option.some.inj h).symm)
theorem dX2_hasFutureOf_0 : decode cX2_hasFutureOf 0 = .ok (.aload_n 0, 1) := by decide +kernel
theorem dX2_hasFutureOf_1 : decode cX2_hasFutureOf 1 = .ok (.aload_n 1, 1) := by decide +kernel
theorem dX2_hasFutureOf_2 : decode cX2_hasFutureOf 2 = .ok (.invokevirtual 30, 3) := by decide +kernel
theorem dX2_hasFutureOf_5 : decode cX2_hasFutureOf 5 = .ok (.ifCond .eq 33, 3) := by decide +kernel
theorem dX2_hasFutureOf_8 : decode cX2_hasFutureOf 8 = .ok (.aload_n 0, 1) := by decide +kernel
theorem dX2_hasFutureOf_9 : decode cX2_hasFutureOf 9 = .ok (.getfield 27, 3) := by decide +kernel
theorem dX2_hasFutureOf_12 : decode cX2_hasFutureOf 12 = .ok (.aload_n 1, 1) := by decide +kernel
theorem dX2_hasFutureOf_13 : decode cX2_hasFutureOf 13 = .ok (.getfield 27, 3) := by decide +kernel
theorem dX2_hasFutureOf_16 : decode cX2_hasFutureOf 16 = .ok (.if_icmp .ne 22, 3) := by decide +kernel
theorem dX2_hasFutureOf_19 : decode cX2_hasFutureOf 19 = .ok (.aload_n 0, 1) := by decide +kernel
theorem dX2_hasFutureOf_20 : decode cX2_hasFutureOf 20 = .ok (.getfield 21, 3) := by decide +kernel
theorem dX2_hasFutureOf_23 : decode cX2_hasFutureOf 23 = .ok (.iconst 1, 1) := by decide +kernel
theorem dX2_hasFutureOf_24 : decode cX2_hasFutureOf 24 = .ok (.iand, 1) := by decide +kernel
theorem dX2_hasFutureOf_25 : decode cX2_hasFutureOf 25 = .ok (.aload_n 1, 1) := by decide +kernel
theorem dX2_hasFutureOf_26 : decode cX2_hasFutureOf 26 = .ok (.getfield 21, 3) := by decide +kernel
theorem dX2_hasFutureOf_29 : decode cX2_hasFutureOf 29 = .ok (.iconst 1, 1) := by decide +kernel
theorem dX2_hasFutureOf_30 : decode cX2_hasFutureOf 30 = .ok (.iand, 1) := by decide +kernel
theorem dX2_hasFutureOf_31 : decode cX2_hasFutureOf 31 = .ok (.if_icmp .ne 7, 3) := by decide +kernel
theorem dX2_hasFutureOf_34 : decode cX2_hasFutureOf 34 = .ok (.iconst 1, 1) := by decide +kernel
theorem dX2_hasFutureOf_35 : decode cX2_hasFutureOf 35 = .ok (.goto 4, 3) := by decide +kernel
theorem dX2_hasFutureOf_38 : decode cX2_hasFutureOf 38 = .ok (.iconst 0, 1) := by decide +kernel
theorem dX2_hasFutureOf_39 : decode cX2_hasFutureOf 39 = .ok (.ireturn, 1) := by decide +kernel
def m_X2_hasFutureOf (N : Nat) (σ : Hp) (t0 : Nat) (p1 : Nat) : Option (Int32) :=
  (rv N σ t0 2).bind fun _ =>
  (m_X2_hasLawOf N σ t0 p1).bind fun r1 =>
  if r1 = 0 then
   some 0
  else
   (gI N σ t0 2 5).bind fun x3 =>
  (gI N σ p1 2 5).bind fun x4 =>
  if x3 = x4 then
   (gI N σ t0 2 3).bind fun x6 =>
  (gI N σ p1 2 3).bind fun x7 =>
  if (x6 &&& 1) = (x7 &&& 1) then
   some 1
  else
   some 0
  else
   some 0
set_option maxHeartbeats 4000000 in
set_option maxRecDepth 100000 in
theorem ct_X2_hasFutureOf {l : Launch} {D : va_G} {cy : Nat → Nat} {N : Nat} {σ : Hp} {t0 : Nat} {p1 : Nat} {r : Int32} (h : m_X2_hasFutureOf N σ t0 p1 = some r) : Ct l D cy yX2_hasFutureOf cX2_hasFutureOf 2 (some .boolean) 1 [.ref t0, .ref p1] N σ (fun v s' => v = (some (.int r)) ∧ s' = σ) := by
  refine Ct.intro [some (.ref t0), some (.ref p1)] (by decide) rfl (Nat.le_of_ble_eq_true rfl) ?_
  intro κ ω e1 e2 e3 e4 C Z E
  subst e1; subst e2; subst e3; subst e4
  have C : Cx κ 2 1 cX2_hasFutureOf RX2 "hasFutureOf" := C
  have hE : ∀ x : Int32, r = x → ((some (Value.int x)) = (some (Value.int r)) ∧ σ = σ) := fun x hx => by subst hx; exact ⟨rfl, rfl⟩
  unfold m_X2_hasFutureOf at h
  obtain ⟨_, _, h⟩ := ob h
  refine x_aload_n C (i := 0) dX2_hasFutureOf_0 rfl rfl ?_
  refine x_aload_n C (i := 1) dX2_hasFutureOf_1 rfl rfl ?_
  obtain ⟨r1, er1, h⟩ := ob h
  refine x_callVr C Z mv_X2_hasLawOf lk_X2_30 (rv_h er1) (ct_X2_hasLawOf er1) (by decide) rfl rfl (Nat.le_of_ble_eq_true rfl) dX2_hasFutureOf_2 ?_
  refine x_if_eq C (tgt := 38) dX2_hasFutureOf_5 (by decide) (fun c2 => ?_) (fun c2 => ?_)
  · have h := ifP h c2
    refine x_iconst C (v := 0) dX2_hasFutureOf_38 (by decide) ?_
    exact x_zret C E (by decide +kernel) dX2_hasFutureOf_39 (hE 0 (Option.some.inj h).symm)
  · have h := ifN h c2
    refine x_aload_n C (i := 0) dX2_hasFutureOf_8 rfl rfl ?_
    obtain ⟨x3, ex3, h⟩ := ob h
    refine x_getI C fl_X2_27 dX2_hasFutureOf_9 ex3 ?_
    refine x_aload_n C (i := 1) dX2_hasFutureOf_12 rfl rfl ?_
    obtain ⟨x4, ex4, h⟩ := ob h
    refine x_getI C fl_X2_27 dX2_hasFutureOf_13 ex4 ?_
    refine x_icmp_ne C (tgt := 38) dX2_hasFutureOf_16 (by decide) (fun c5 => ?_) (fun c5 => ?_)
    · have h := ifN h c5
      refine x_iconst C (v := 0) dX2_hasFutureOf_38 (by decide) ?_
      exact x_zret C E (by decide +kernel) dX2_hasFutureOf_39 (hE 0 (Option.some.inj h).symm)
    · have h := ifP h c5
      refine x_aload_n C (i := 0) dX2_hasFutureOf_19 rfl rfl ?_
      obtain ⟨x6, ex6, h⟩ := ob h
      refine x_getI C fl_X2_21 dX2_hasFutureOf_20 ex6 ?_
      refine x_iconst C (v := 1) dX2_hasFutureOf_23 (by decide) ?_
      refine x_iand C dX2_hasFutureOf_24 ?_
      refine x_aload_n C (i := 1) dX2_hasFutureOf_25 rfl rfl ?_
      obtain ⟨x7, ex7, h⟩ := ob h
      refine x_getI C fl_X2_21 dX2_hasFutureOf_26 ex7 ?_
      refine x_iconst C (v := 1) dX2_hasFutureOf_29 (by decide) ?_
      refine x_iand C dX2_hasFutureOf_30 ?_
      refine x_icmp_ne C (tgt := 38) dX2_hasFutureOf_31 (by decide) (fun c8 => ?_) (fun c8 => ?_)
      · have h := ifN h c8
        refine x_iconst C (v := 0) dX2_hasFutureOf_38 (by decide) ?_
        exact x_zret C E (by decide +kernel) dX2_hasFutureOf_39 (hE 0 (Option.some.inj h).symm)
      · have h := ifP h c8
        refine x_iconst C (v := 1) dX2_hasFutureOf_34 (by decide) ?_
        refine x_goto C (tgt := 39) dX2_hasFutureOf_35 (by decide) ?_
        exact x_zret C E (by decide +kernel) dX2_hasFutureOf_39 (hE 1 (Option.some.inj h).symm)
