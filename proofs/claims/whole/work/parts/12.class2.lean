theorem dX4_start_0 : decode cX4_start 0 = .ok (.aload_n 0, 1) := by decide +kernel
theorem dX4_start_1 : decode cX4_start 1 = .ok (.getfield 12, 3) := by decide +kernel
theorem dX4_start_4 : decode cX4_start 4 = .ok (.getfield 44, 3) := by decide +kernel
theorem dX4_start_7 : decode cX4_start 7 = .ok (.aload_n 0, 1) := by decide +kernel
theorem dX4_start_8 : decode cX4_start 8 = .ok (.getfield 12, 3) := by decide +kernel
theorem dX4_start_11 : decode cX4_start 11 = .ok (.getfield 47, 3) := by decide +kernel
theorem dX4_start_14 : decode cX4_start 14 = .ok (.iconst 1, 1) := by decide +kernel
theorem dX4_start_15 : decode cX4_start 15 = .ok (.iand, 1) := by decide +kernel
theorem dX4_start_16 : decode cX4_start 16 = .ok (.ifCond .eq 10, 3) := by decide +kernel
theorem dX4_start_19 : decode cX4_start 19 = .ok (.aload_n 0, 1) := by decide +kernel
theorem dX4_start_20 : decode cX4_start 20 = .ok (.getfield 36, 3) := by decide +kernel
theorem dX4_start_23 : decode cX4_start 23 = .ok (.goto 4, 3) := by decide +kernel
theorem dX4_start_26 : decode cX4_start 26 = .ok (.iconst 0, 1) := by decide +kernel
theorem dX4_start_27 : decode cX4_start 27 = .ok (.ior, 1) := by decide +kernel
theorem dX4_start_28 : decode cX4_start 28 = .ok (.ireturn, 1) := by decide +kernel
def m_X4_start (N : Nat) (σ : Hp) (t0 : Nat) : Option (Int32) :=
  (rv N σ t0 4).bind fun _ =>
  (gR N σ t0 4 0).bind fun x1 =>
  (gI N σ x1 2 5).bind fun x2 =>
  (gR N σ t0 4 0).bind fun x3 =>
  (gI N σ x3 2 3).bind fun x4 =>
  if (x4 &&& 1) = 0 then
   some (x2 ||| 0)
  else
   (gI N σ t0 4 2).bind fun x6 =>
  some (x2 ||| x6)
set_option maxHeartbeats 4000000 in
set_option maxRecDepth 100000 in
theorem ct_X4_start {l : Launch} {D : va_G} {cy : Nat → Nat} {N : Nat} {σ : Hp} {t0 : Nat} {r : Int32} (h : m_X4_start N σ t0 = some r) : Ct l D cy yX4_start cX4_start 1 (some .int) 0 [.ref t0] N σ (fun v s' => v = (some (.int r)) ∧ s' = σ) := by
  refine Ct.intro [some (.ref t0)] (by decide) rfl (Nat.le_of_ble_eq_true rfl) ?_
  intro κ ω e1 e2 e3 e4 C Z E
  subst e1; subst e2; subst e3; subst e4
  have C : Cx κ 1 0 cX4_start RX4 "start" := C
  have hE : ∀ x : Int32, r = x → ((some (Value.int x)) = (some (Value.int r)) ∧ σ = σ) := fun x hx => by subst hx; exact ⟨rfl, rfl⟩
  unfold m_X4_start at h
  obtain ⟨_, _, h⟩ := ob h
  refine x_aload_n C (i := 0) dX4_start_0 rfl rfl ?_
  obtain ⟨x1, ex1, h⟩ := ob h
  refine x_getR C fl_X4_12 dX4_start_1 ex1 ?_
  obtain ⟨x2, ex2, h⟩ := ob h
  refine x_getI C fl_X4_44 dX4_start_4 ex2 ?_
  refine x_aload_n C (i := 0) dX4_start_7 rfl rfl ?_
  obtain ⟨x3, ex3, h⟩ := ob h
  refine x_getR C fl_X4_12 dX4_start_8 ex3 ?_
  obtain ⟨x4, ex4, h⟩ := ob h
  refine x_getI C fl_X4_47 dX4_start_11 ex4 ?_
  refine x_iconst C (v := 1) dX4_start_14 (by decide) ?_
  refine x_iand C dX4_start_15 ?_
  refine x_if_eq C (tgt := 26) dX4_start_16 (by decide) (fun c5 => ?_) (fun c5 => ?_)
  · have h := ifP h c5
    refine x_iconst C (v := 0) dX4_start_26 (by decide) ?_
    refine x_ior C dX4_start_27 ?_
    exact x_iret C E dX4_start_28 (hE (x2 ||| 0) (Option.some.inj h).symm)
  · have h := ifN h c5
    refine x_aload_n C (i := 0) dX4_start_19 rfl rfl ?_
    obtain ⟨x6, ex6, h⟩ := ob h
    refine x_getI C fl_X4_36 dX4_start_20 ex6 ?_
    refine x_goto C (tgt := 27) dX4_start_23 (by decide) ?_
    refine x_ior C dX4_start_27 ?_
    exact x_iret C E dX4_start_28 (hE (x2 ||| x6) (Option.some.inj h).symm)
theorem dJ7_fill_d0a16_0 : decode cJ7_fill_d0a16 0 = .ok (.iconst 0, 1) := by decide +kernel
theorem dJ7_fill_d0a16_1 : decode cJ7_fill_d0a16 1 = .ok (.istore_n 3, 1) := by decide +kernel
theorem dJ7_fill_d0a16_2 : decode cJ7_fill_d0a16 2 = .ok (.aload_n 0, 1) := by decide +kernel
theorem dJ7_fill_d0a16_3 : decode cJ7_fill_d0a16 3 = .ok (.arraylength, 1) := by decide +kernel
theorem dJ7_fill_d0a16_4 : decode cJ7_fill_d0a16 4 = .ok (.istore 4, 2) := by decide +kernel
theorem dJ7_fill_d0a16_6 : decode cJ7_fill_d0a16 6 = .ok (.iload_n 3, 1) := by decide +kernel
theorem dJ7_fill_d0a16_7 : decode cJ7_fill_d0a16 7 = .ok (.iload 4, 2) := by decide +kernel
theorem dJ7_fill_d0a16_9 : decode cJ7_fill_d0a16 9 = .ok (.if_icmp .ge 13, 3) := by decide +kernel
theorem dJ7_fill_d0a16_12 : decode cJ7_fill_d0a16 12 = .ok (.aload_n 0, 1) := by decide +kernel
theorem dJ7_fill_d0a16_13 : decode cJ7_fill_d0a16 13 = .ok (.iload_n 3, 1) := by decide +kernel
theorem dJ7_fill_d0a16_14 : decode cJ7_fill_d0a16 14 = .ok (.lload_n 1, 1) := by decide +kernel
theorem dJ7_fill_d0a16_15 : decode cJ7_fill_d0a16 15 = .ok (.lastore, 1) := by decide +kernel
theorem dJ7_fill_d0a16_16 : decode cJ7_fill_d0a16 16 = .ok (.iinc 3 1, 3) := by decide +kernel
theorem dJ7_fill_d0a16_19 : decode cJ7_fill_d0a16 19 = .ok (.goto (-13), 3) := by decide +kernel
theorem dJ7_fill_d0a16_22 : decode cJ7_fill_d0a16 22 = .ok (.return_, 1) := by decide +kernel
def L_J7_fill_d0a16_6 (N : Nat) (v0 : Nat) (v1 : Int64) (v4 : Int32) : Nat → Hp → Int32 → Option (Hp)
  | 0, _, _ => none
  | n + 1, σ, v3 =>
  if v4 ≤ v3 then
   some σ
  else
   (sJ N σ v0 v3 v1).bind fun σ3 =>
  L_J7_fill_d0a16_6 N v0 v1 v4 n σ3 (v3 + 1)
def m_J7_fill_d0a16 (N : Nat) (σ : Hp) (p0 : Nat) (p1 : Int64) : Option (Hp) :=
  (aN N σ p0).bind fun x1 =>
  (L_J7_fill_d0a16_6 N p0 p1 (nI x1) fu σ 0).bind fun z4 =>
  some z4
set_option maxHeartbeats 4000000 in
set_option maxRecDepth 100000 in
theorem lp_J7_fill_d0a16_6 {κ : Kx} {ω : Om} (C : Cx κ 5 0 cJ7_fill_d0a16 RJ7 "fill") (Z : Zx κ ω) (v0 : Nat) (v1 : Int64) (v4 : Int32) {r : Hp} (hk : X κ 5 ω 22 [none, none, none, none, none] [] r) : ∀ (n : Nat) (σ : Hp) (v3 : Int32), L_J7_fill_d0a16_6 ω.1 v0 v1 v4 n σ v3 = some r → X κ 5 ω 6 [some (.ref v0), some (.long v1), none, some (.int v3), some (.int v4)] [] σ := by
  intro n
  induction n with
  | zero => intro σ v3 h; cases h
  | succ n ih =>
    intro σ v3 h
    rw [L_J7_fill_d0a16_6.eq_2] at h
    refine x_iload_n C (i := 3) dJ7_fill_d0a16_6 rfl rfl ?_
    refine x_iload C (i := 4) dJ7_fill_d0a16_7 rfl ?_
    refine x_icmp_ge C (tgt := 22) dJ7_fill_d0a16_9 (by decide) (fun c2 => ?_) (fun c2 => ?_)
    · have h := ifP h c2
      refine x_wk [false, false, false, false, false] (lo' := [none, none, none, none, none]) rfl ?_
      obtain rfl := Option.some.inj h
      exact hk
    · have h := ifN h c2
      refine x_aload_n C (i := 0) dJ7_fill_d0a16_12 rfl rfl ?_
      refine x_iload_n C (i := 3) dJ7_fill_d0a16_13 rfl rfl ?_
      refine x_lload_n C (i := 1) dJ7_fill_d0a16_14 rfl rfl ?_
      obtain ⟨σ3, eσ3, h⟩ := ob h
      refine x_last C dJ7_fill_d0a16_15 eσ3 ?_
      refine x_iinc C (i := 3) (y := v3 + 1) (lo' := [some (.ref v0), some (.long v1), none, some (.int (v3 + 1)), some (.int v4)]) dJ7_fill_d0a16_16 rfl rfl (by decide) rfl rfl ?_
      refine x_goto C (tgt := 6) dJ7_fill_d0a16_19 (by decide) ?_
      refine x_wk [true, true, false, true, true] (lo' := [some (.ref v0), some (.long v1), none, some (.int (v3 + 1)), some (.int v4)]) rfl ?_
      exact ih σ3 (v3 + 1) h
set_option maxHeartbeats 4000000 in
set_option maxRecDepth 100000 in
theorem ct_J7_fill_d0a16 {l : Launch} {D : va_G} {cy : Nat → Nat} {N : Nat} {σ : Hp} {p0 : Nat} {p1 : Int64} {r : Hp} (h : m_J7_fill_d0a16 N σ p0 p1 = some r) : Ct l D cy yJ7_fill_d0a16 cJ7_fill_d0a16 5 none 0 [.ref p0, .long p1] N σ (fun v s' => v = none ∧ s' = r) := by
  refine Ct.intro [some (.ref p0), some (.long p1), none, none, none] (by decide) rfl (Nat.le_of_ble_eq_true rfl) ?_
  intro κ ω e1 e2 e3 e4 C Z E
  subst e1; subst e2; subst e3; subst e4
  have C : Cx κ 5 0 cJ7_fill_d0a16 RJ7 "fill" := C
  have hE : ∀ x : Hp, r = x → ((none : Option Value) = none ∧ x = r) := fun x hx => by subst hx; exact ⟨rfl, rfl⟩
  unfold m_J7_fill_d0a16 at h
  refine x_iconst C (v := 0) dJ7_fill_d0a16_0 (by decide) ?_
  refine x_istore_n C (i := 3) (lo' := [some (.ref p0), some (.long p1), none, some (.int 0), none]) dJ7_fill_d0a16_1 rfl (by decide) rfl rfl ?_
  refine x_aload_n C (i := 0) dJ7_fill_d0a16_2 rfl rfl ?_
  obtain ⟨x1, ex1, h⟩ := ob h
  refine x_alen C dJ7_fill_d0a16_3 ex1 ?_
  refine x_istore C (i := 4) (lo' := [some (.ref p0), some (.long p1), none, some (.int 0), some (.int (nI x1))]) dJ7_fill_d0a16_4 (by decide) rfl rfl ?_
  obtain ⟨z4, ez4, h⟩ := ob h
  refine x_wk [true, true, false, true, true] (lo' := [some (.ref p0), some (.long p1), none, some (.int 0), some (.int (nI x1))]) rfl ?_
  refine lp_J7_fill_d0a16_6 C Z p0 p1 (nI x1) ?_ _ σ 0 ez4
  exact x_vret C E dJ7_fill_d0a16_22 (hE z4 (Option.some.inj h).symm)
theorem dX3_begin_0 : decode cX3_begin 0 = .ok (.aload_n 0, 1) := by decide +kernel
theorem dX3_begin_1 : decode cX3_begin 1 = .ok (.getfield 18, 3) := by decide +kernel
theorem dX3_begin_4 : decode cX3_begin 4 = .ok (.invokevirtual 22, 3) := by decide +kernel
theorem dX3_begin_7 : decode cX3_begin 7 = .ok (.istore_n 1, 1) := by decide +kernel
theorem dX3_begin_8 : decode cX3_begin 8 = .ok (.aload_n 0, 1) := by decide +kernel
theorem dX3_begin_9 : decode cX3_begin 9 = .ok (.getfield 9, 3) := by decide +kernel
theorem dX3_begin_12 : decode cX3_begin 12 = .ok (.lconst 0, 1) := by decide +kernel
theorem dX3_begin_13 : decode cX3_begin 13 = .ok (.invokestatic 28, 3) := by decide +kernel
theorem dX3_begin_16 : decode cX3_begin 16 = .ok (.aload_n 0, 1) := by decide +kernel
theorem dX3_begin_17 : decode cX3_begin 17 = .ok (.getfield 9, 3) := by decide +kernel
theorem dX3_begin_20 : decode cX3_begin 20 = .ok (.iload_n 1, 1) := by decide +kernel
theorem dX3_begin_21 : decode cX3_begin 21 = .ok (.sipush 4095, 3) := by decide +kernel
theorem dX3_begin_24 : decode cX3_begin 24 = .ok (.iand, 1) := by decide +kernel
theorem dX3_begin_25 : decode cX3_begin 25 = .ok (.lconst 1, 1) := by decide +kernel
theorem dX3_begin_26 : decode cX3_begin 26 = .ok (.lastore, 1) := by decide +kernel
theorem dX3_begin_27 : decode cX3_begin 27 = .ok (.aload_n 0, 1) := by decide +kernel
theorem dX3_begin_28 : decode cX3_begin 28 = .ok (.iload_n 1, 1) := by decide +kernel
theorem dX3_begin_29 : decode cX3_begin 29 = .ok (.sipush 4096, 3) := by decide +kernel
theorem dX3_begin_32 : decode cX3_begin 32 = .ok (.iand, 1) := by decide +kernel
theorem dX3_begin_33 : decode cX3_begin 33 = .ok (.putfield 34, 3) := by decide +kernel
theorem dX3_begin_36 : decode cX3_begin 36 = .ok (.return_, 1) := by decide +kernel
def m_X3_begin (N : Nat) (σ : Hp) (t0 : Nat) : Option (Hp) :=
  (rv N σ t0 3).bind fun _ =>
  (gR N σ t0 3 2).bind fun x1 =>
  (m_X4_start N σ x1).bind fun r2 =>
  (gR N σ t0 3 0).bind fun x3 =>
  (m_J7_fill_d0a16 N σ x3 0).bind fun r4 =>
  (gR N r4 t0 3 0).bind fun x5 =>
  (sJ N r4 x5 (r2 &&& 4095) 1).bind fun σ6 =>
  (pV N σ6 t0 3 3 (.int (r2 &&& 4096))).bind fun σ7 =>
  some σ7
set_option maxHeartbeats 4000000 in
set_option maxRecDepth 100000 in
theorem ct_X3_begin {l : Launch} {D : va_G} {cy : Nat → Nat} {N : Nat} {σ : Hp} {t0 : Nat} {r : Hp} (h : m_X3_begin N σ t0 = some r) : Ct l D cy yX3_begin cX3_begin 2 none 1 [.ref t0] N σ (fun v s' => v = none ∧ s' = r) := by
  refine Ct.intro [some (.ref t0), none] (by decide) rfl (Nat.le_of_ble_eq_true rfl) ?_
  intro κ ω e1 e2 e3 e4 C Z E
  subst e1; subst e2; subst e3; subst e4
  have C : Cx κ 2 1 cX3_begin RX3 "begin" := C
  have hE : ∀ x : Hp, r = x → ((none : Option Value) = none ∧ x = r) := fun x hx => by subst hx; exact ⟨rfl, rfl⟩
  unfold m_X3_begin at h
  obtain ⟨_, _, h⟩ := ob h
  refine x_aload_n C (i := 0) dX3_begin_0 rfl rfl ?_
  obtain ⟨x1, ex1, h⟩ := ob h
  refine x_getR C fl_X3_18 dX3_begin_1 ex1 ?_
  obtain ⟨r2, er2, h⟩ := ob h
  refine x_callVr C Z mv_X4_start lk_X3_22 (rv_h er2) (ct_X4_start er2) (by decide) rfl rfl (Nat.le_of_ble_eq_true rfl) dX3_begin_4 ?_
  refine x_istore_n C (i := 1) (lo' := [some (.ref t0), some (.int r2)]) dX3_begin_7 rfl (by decide) rfl rfl ?_
  refine x_aload_n C (i := 0) dX3_begin_8 rfl rfl ?_
  obtain ⟨x3, ex3, h⟩ := ob h
  refine x_getR C fl_X3_9 dX3_begin_9 ex3 ?_
  refine x_lconst C (v := 0) dX3_begin_12 (by decide) ?_
  obtain ⟨r4, er4, h⟩ := ob h
  refine x_callSn C Z ms_J7_fill_d0a16 lk_X3_28 (ct_J7_fill_d0a16 er4) (by decide) rfl rfl (Nat.le_of_ble_eq_true rfl) dX3_begin_13 ?_
  refine x_aload_n C (i := 0) dX3_begin_16 rfl rfl ?_
  obtain ⟨x5, ex5, h⟩ := ob h
  refine x_getR C fl_X3_9 dX3_begin_17 ex5 ?_
  refine x_iload_n C (i := 1) dX3_begin_20 rfl rfl ?_
  refine x_sipush C (v := 4095) dX3_begin_21 (by decide) ?_
  refine x_iand C dX3_begin_24 ?_
  refine x_lconst C (v := 1) dX3_begin_25 (by decide) ?_
  obtain ⟨σ6, eσ6, h⟩ := ob h
  refine x_last C dX3_begin_26 eσ6 ?_
  refine x_aload_n C (i := 0) dX3_begin_27 rfl rfl ?_
  refine x_iload_n C (i := 1) dX3_begin_28 rfl rfl ?_
  refine x_sipush C (v := 4096) dX3_begin_29 (by decide) ?_
  refine x_iand C dX3_begin_32 ?_
  obtain ⟨σ7, eσ7, h⟩ := ob h
  refine x_put C pl_X3_34 dX3_begin_33 (fun _ => ⟨rfl, rfl⟩) eσ7 ?_
  exact x_vret C E dX3_begin_36 (hE σ7 (Option.some.inj h).symm)
theorem dX4_movesAt_0 : decode cX4_movesAt 0 = .ok (.iload_n 1, 1) := by decide +kernel
theorem dX4_movesAt_1 : decode cX4_movesAt 1 = .ok (.sipush 8191, 3) := by decide +kernel
theorem dX4_movesAt_4 : decode cX4_movesAt 4 = .ok (.iand, 1) := by decide +kernel
theorem dX4_movesAt_5 : decode cX4_movesAt 5 = .ok (.istore_n 2, 1) := by decide +kernel
theorem dX4_movesAt_6 : decode cX4_movesAt 6 = .ok (.aload_n 0, 1) := by decide +kernel
theorem dX4_movesAt_7 : decode cX4_movesAt 7 = .ok (.getfield 18, 3) := by decide +kernel
theorem dX4_movesAt_10 : decode cX4_movesAt 10 = .ok (.iload_n 2, 1) := by decide +kernel
theorem dX4_movesAt_11 : decode cX4_movesAt 11 = .ok (.iaload, 1) := by decide +kernel
theorem dX4_movesAt_12 : decode cX4_movesAt 12 = .ok (.iconst (-1), 1) := by decide +kernel
theorem dX4_movesAt_13 : decode cX4_movesAt 13 = .ok (.if_icmp .ne 34, 3) := by decide +kernel
theorem dX4_movesAt_16 : decode cX4_movesAt 16 = .ok (.aload_n 0, 1) := by decide +kernel
theorem dX4_movesAt_17 : decode cX4_movesAt 17 = .ok (.getfield 18, 3) := by decide +kernel
theorem dX4_movesAt_20 : decode cX4_movesAt 20 = .ok (.iload_n 2, 1) := by decide +kernel
theorem dX4_movesAt_21 : decode cX4_movesAt 21 = .ok (.aload_n 0, 1) := by decide +kernel
theorem dX4_movesAt_22 : decode cX4_movesAt 22 = .ok (.getfield 12, 3) := by decide +kernel
theorem dX4_movesAt_25 : decode cX4_movesAt 25 = .ok (.iload_n 2, 1) := by decide +kernel
theorem dX4_movesAt_26 : decode cX4_movesAt 26 = .ok (.sipush 4095, 3) := by decide +kernel
theorem dX4_movesAt_29 : decode cX4_movesAt 29 = .ok (.iand, 1) := by decide +kernel
theorem dX4_movesAt_30 : decode cX4_movesAt 30 = .ok (.iload_n 2, 1) := by decide +kernel
theorem dX4_movesAt_31 : decode cX4_movesAt 31 = .ok (.sipush 4096, 3) := by decide +kernel
theorem dX4_movesAt_34 : decode cX4_movesAt 34 = .ok (.iand, 1) := by decide +kernel
theorem dX4_movesAt_35 : decode cX4_movesAt 35 = .ok (.ifCond .eq 7, 3) := by decide +kernel
theorem dX4_movesAt_38 : decode cX4_movesAt 38 = .ok (.iconst 1, 1) := by decide +kernel
theorem dX4_movesAt_39 : decode cX4_movesAt 39 = .ok (.goto 4, 3) := by decide +kernel
theorem dX4_movesAt_42 : decode cX4_movesAt 42 = .ok (.iconst 0, 1) := by decide +kernel
theorem dX4_movesAt_43 : decode cX4_movesAt 43 = .ok (.invokevirtual 50, 3) := by decide +kernel
theorem dX4_movesAt_46 : decode cX4_movesAt 46 = .ok (.iastore, 1) := by decide +kernel
theorem dX4_movesAt_47 : decode cX4_movesAt 47 = .ok (.aload_n 0, 1) := by decide +kernel
theorem dX4_movesAt_48 : decode cX4_movesAt 48 = .ok (.getfield 18, 3) := by decide +kernel
theorem dX4_movesAt_51 : decode cX4_movesAt 51 = .ok (.iload_n 2, 1) := by decide +kernel
theorem dX4_movesAt_52 : decode cX4_movesAt 52 = .ok (.iaload, 1) := by decide +kernel
theorem dX4_movesAt_53 : decode cX4_movesAt 53 = .ok (.ireturn, 1) := by decide +kernel
def m_X4_movesAt (N : Nat) (σ : Hp) (t0 : Nat) (p1 : Int32) : Option (Int32 × Hp) :=
  (rv N σ t0 4).bind fun _ =>
  (gR N σ t0 4 1).bind fun x1 =>
  (aI 0 N σ x1 (p1 &&& 8191)).bind fun x2 =>
  if x2 = (-1) then
   (gR N σ t0 4 1).bind fun x6 =>
  (gR N σ t0 4 0).bind fun x7 =>
  ((if ((p1 &&& 8191) &&& 4096) = 0 then
   some 0
  else
   some 1) : Option (Int32)).bind fun z8 =>
  (m_X2_movesFrom N σ x7 ((p1 &&& 8191) &&& 4095) z8).bind fun r9 =>
  (sI 0 N σ x6 (p1 &&& 8191) r9).bind fun σ10 =>
  (gR N σ10 t0 4 1).bind fun x11 =>
  (aI 0 N σ10 x11 (p1 &&& 8191)).bind fun x12 =>
  some (x12, σ10)
  else
   (gR N σ t0 4 1).bind fun x4 =>
  (aI 0 N σ x4 (p1 &&& 8191)).bind fun x5 =>
  some (x5, σ)
set_option maxHeartbeats 4000000 in
set_option maxRecDepth 100000 in
theorem ct_X4_movesAt {l : Launch} {D : va_G} {cy : Nat → Nat} {N : Nat} {σ : Hp} {t0 : Nat} {p1 : Int32} {r : Int32 × Hp} (h : m_X4_movesAt N σ t0 p1 = some r) : Ct l D cy yX4_movesAt cX4_movesAt 3 (some .int) 3 [.ref t0, .int p1] N σ (fun v s' => v = (some (.int r.1)) ∧ s' = r.2) := by
  refine Ct.intro [some (.ref t0), some (.int p1), none] (by decide) rfl (Nat.le_of_ble_eq_true rfl) ?_
  intro κ ω e1 e2 e3 e4 C Z E
  subst e1; subst e2; subst e3; subst e4
  have C : Cx κ 3 3 cX4_movesAt RX4 "movesAt" := C
  have hE : ∀ x : Int32 × Hp, r = x → ((some (Value.int x.1)) = (some (Value.int r.1)) ∧ x.2 = r.2) := fun x hx => by subst hx; exact ⟨rfl, rfl⟩
  unfold m_X4_movesAt at h
  obtain ⟨_, _, h⟩ := ob h
  refine x_iload_n C (i := 1) dX4_movesAt_0 rfl rfl ?_
  refine x_sipush C (v := 8191) dX4_movesAt_1 (by decide) ?_
  refine x_iand C dX4_movesAt_4 ?_
  refine x_istore_n C (i := 2) (lo' := [some (.ref t0), some (.int p1), some (.int (p1 &&& 8191))]) dX4_movesAt_5 rfl (by decide) rfl rfl ?_
  refine x_aload_n C (i := 0) dX4_movesAt_6 rfl rfl ?_
  obtain ⟨x1, ex1, h⟩ := ob h
  refine x_getR C fl_X4_18 dX4_movesAt_7 ex1 ?_
  refine x_iload_n C (i := 2) dX4_movesAt_10 rfl rfl ?_
  obtain ⟨x2, ex2, h⟩ := ob h
  refine x_iald C dX4_movesAt_11 ex2 ?_
  refine x_iconst C (v := (-1)) dX4_movesAt_12 (by decide) ?_
  refine x_icmp_ne C (tgt := 47) dX4_movesAt_13 (by decide) (fun c3 => ?_) (fun c3 => ?_)
  · have h := ifN h c3
    refine x_aload_n C (i := 0) dX4_movesAt_47 rfl rfl ?_
    obtain ⟨x4, ex4, h⟩ := ob h
    refine x_getR C fl_X4_18 dX4_movesAt_48 ex4 ?_
    refine x_iload_n C (i := 2) dX4_movesAt_51 rfl rfl ?_
    obtain ⟨x5, ex5, h⟩ := ob h
    refine x_iald C dX4_movesAt_52 ex5 ?_
    exact x_iret C E dX4_movesAt_53 (hE (x5, σ) (Option.some.inj h).symm)
  · have h := ifP h c3
    refine x_aload_n C (i := 0) dX4_movesAt_16 rfl rfl ?_
    obtain ⟨x6, ex6, h⟩ := ob h
    refine x_getR C fl_X4_18 dX4_movesAt_17 ex6 ?_
    refine x_iload_n C (i := 2) dX4_movesAt_20 rfl rfl ?_
    refine x_aload_n C (i := 0) dX4_movesAt_21 rfl rfl ?_
    obtain ⟨x7, ex7, h⟩ := ob h
    refine x_getR C fl_X4_12 dX4_movesAt_22 ex7 ?_
    refine x_iload_n C (i := 2) dX4_movesAt_25 rfl rfl ?_
    refine x_sipush C (v := 4095) dX4_movesAt_26 (by decide) ?_
    refine x_iand C dX4_movesAt_29 ?_
    refine x_iload_n C (i := 2) dX4_movesAt_30 rfl rfl ?_
    refine x_sipush C (v := 4096) dX4_movesAt_31 (by decide) ?_
    refine x_iand C dX4_movesAt_34 ?_
    obtain ⟨z8, hz8, h⟩ := ob h
    have hJ13 : X κ 3 ω 43 [some (.ref t0), none, some (.int (p1 &&& 8191))] [.int z8, .int ((p1 &&& 8191) &&& 4095), .ref x7, .int (p1 &&& 8191), .ref x6] σ := by
      obtain ⟨r9, er9, h⟩ := ob h
      refine x_callVr C Z mv_X2_movesFrom lk_X4_50 (rv_h er9) (ct_X2_movesFrom er9) (by decide) rfl rfl (Nat.le_of_ble_eq_true rfl) dX4_movesAt_43 ?_
      obtain ⟨σ10, eσ10, h⟩ := ob h
      refine x_iast C dX4_movesAt_46 eσ10 ?_
      refine x_aload_n C (i := 0) dX4_movesAt_47 rfl rfl ?_
      obtain ⟨x11, ex11, h⟩ := ob h
      refine x_getR C fl_X4_18 dX4_movesAt_48 ex11 ?_
      refine x_iload_n C (i := 2) dX4_movesAt_51 rfl rfl ?_
      obtain ⟨x12, ex12, h⟩ := ob h
      refine x_iald C dX4_movesAt_52 ex12 ?_
      exact x_iret C E dX4_movesAt_53 (hE (x12, σ10) (Option.some.inj h).symm)
    clear h
    have h := hz8
    refine x_if_eq C (tgt := 42) dX4_movesAt_35 (by decide) (fun c15 => ?_) (fun c15 => ?_)
    · have h := ifP h c15
      refine x_iconst C (v := 0) dX4_movesAt_42 (by decide) ?_
      refine x_wk [true, false, true] (lo' := [some (.ref t0), none, some (.int (p1 &&& 8191))]) rfl ?_
      obtain rfl := Option.some.inj h
      exact hJ13
    · have h := ifN h c15
      refine x_iconst C (v := 1) dX4_movesAt_38 (by decide) ?_
      refine x_goto C (tgt := 43) dX4_movesAt_39 (by decide) ?_
      refine x_wk [true, false, true] (lo' := [some (.ref t0), none, some (.int (p1 &&& 8191))]) rfl ?_
      obtain rfl := Option.some.inj h
      exact hJ13
theorem dX3_hand_0 : decode cX3_hand 0 = .ok (.iconst 0, 1) := by decide +kernel
theorem dX3_hand_1 : decode cX3_hand 1 = .ok (.istore 5, 2) := by decide +kernel
theorem dX3_hand_3 : decode cX3_hand 3 = .ok (.iload 5, 2) := by decide +kernel
theorem dX3_hand_5 : decode cX3_hand 5 = .ok (.bipush 16, 2) := by decide +kernel
theorem dX3_hand_7 : decode cX3_hand 7 = .ok (.if_icmp .ge 44, 3) := by decide +kernel
theorem dX3_hand_10 : decode cX3_hand 10 = .ok (.iload_n 2, 1) := by decide +kernel
theorem dX3_hand_11 : decode cX3_hand 11 = .ok (.iload 5, 2) := by decide +kernel
theorem dX3_hand_13 : decode cX3_hand 13 = .ok (.ishr, 1) := by decide +kernel
theorem dX3_hand_14 : decode cX3_hand 14 = .ok (.iconst 1, 1) := by decide +kernel
theorem dX3_hand_15 : decode cX3_hand 15 = .ok (.iand, 1) := by decide +kernel
theorem dX3_hand_16 : decode cX3_hand 16 = .ok (.ifCond .eq 29, 3) := by decide +kernel
theorem dX3_hand_19 : decode cX3_hand 19 = .ok (.aload_n 0, 1) := by decide +kernel
theorem dX3_hand_20 : decode cX3_hand 20 = .ok (.getfield 15, 3) := by decide +kernel
theorem dX3_hand_23 : decode cX3_hand 23 = .ok (.aload_n 0, 1) := by decide +kernel
theorem dX3_hand_24 : decode cX3_hand 24 = .ok (.getfield 18, 3) := by decide +kernel
theorem dX3_hand_27 : decode cX3_hand 27 = .ok (.getfield 48, 3) := by decide +kernel
theorem dX3_hand_30 : decode cX3_hand 30 = .ok (.iload_n 1, 1) := by decide +kernel
theorem dX3_hand_31 : decode cX3_hand 31 = .ok (.iload 5, 2) := by decide +kernel
theorem dX3_hand_33 : decode cX3_hand 33 = .ok (.invokevirtual 73, 3) := by decide +kernel
theorem dX3_hand_36 : decode cX3_hand 36 = .ok (.sipush 4095, 3) := by decide +kernel
theorem dX3_hand_39 : decode cX3_hand 39 = .ok (.iand, 1) := by decide +kernel
theorem dX3_hand_40 : decode cX3_hand 40 = .ok (.dup2, 1) := by decide +kernel
theorem dX3_hand_41 : decode cX3_hand 41 = .ok (.laload, 1) := by decide +kernel
theorem dX3_hand_42 : decode cX3_hand 42 = .ok (.lload_n 3, 1) := by decide +kernel
theorem dX3_hand_43 : decode cX3_hand 43 = .ok (.ladd, 1) := by decide +kernel
theorem dX3_hand_44 : decode cX3_hand 44 = .ok (.lastore, 1) := by decide +kernel
theorem dX3_hand_45 : decode cX3_hand 45 = .ok (.iinc 5 1, 3) := by decide +kernel
theorem dX3_hand_48 : decode cX3_hand 48 = .ok (.goto (-45), 3) := by decide +kernel
theorem dX3_hand_51 : decode cX3_hand 51 = .ok (.return_, 1) := by decide +kernel
def L_X3_hand_3 (N : Nat) (v0 : Nat) (v1 : Int32) (v2 : Int32) (v3 : Int64) : Nat → Hp → Int32 → Option (Hp)
  | 0, _, _ => none
  | n + 1, σ, v5 =>
  if 16 ≤ v5 then
   some σ
  else
   if ((v2 >>> (v5 &&& 31)) &&& 1) = 0 then
   L_X3_hand_3 N v0 v1 v2 v3 n σ (v5 + 1)
  else
   (gR N σ v0 3 1).bind fun x3 =>
  (gR N σ v0 3 2).bind fun x4 =>
  (gR N σ x4 4 0).bind fun x5 =>
  (m_X2_behind N σ x5 v1 v5).bind fun r6 =>
  (aJ N σ x3 (r6 &&& 4095)).bind fun x7 =>
  (sJ N σ x3 (r6 &&& 4095) (x7 + v3)).bind fun σ8 =>
  L_X3_hand_3 N v0 v1 v2 v3 n σ8 (v5 + 1)
def m_X3_hand (N : Nat) (σ : Hp) (t0 : Nat) (p1 : Int32) (p2 : Int32) (p3 : Int64) : Option (Hp) :=
  (rv N σ t0 3).bind fun _ =>
  (L_X3_hand_3 N t0 p1 p2 p3 fu σ 0).bind fun z9 =>
  some z9
set_option maxHeartbeats 4000000 in
set_option maxRecDepth 100000 in
theorem lp_X3_hand_3 {κ : Kx} {ω : Om} (C : Cx κ 6 1 cX3_hand RX3 "hand") (Z : Zx κ ω) (v0 : Nat) (v1 : Int32) (v2 : Int32) (v3 : Int64) {r : Hp} (hk : X κ 6 ω 51 [none, none, none, none, none, none] [] r) : ∀ (n : Nat) (σ : Hp) (v5 : Int32), L_X3_hand_3 ω.1 v0 v1 v2 v3 n σ v5 = some r → X κ 6 ω 3 [some (.ref v0), some (.int v1), some (.int v2), some (.long v3), none, some (.int v5)] [] σ := by
  intro n
  induction n with
  | zero => intro σ v5 h; cases h
  | succ n ih =>
    intro σ v5 h
    rw [L_X3_hand_3.eq_2] at h
    refine x_iload C (i := 5) dX3_hand_3 rfl ?_
    refine x_bipush C (v := 16) dX3_hand_5 (by decide) ?_
    refine x_icmp_ge C (tgt := 51) dX3_hand_7 (by decide) (fun c1 => ?_) (fun c1 => ?_)
    · have h := ifP h c1
      refine x_wk [false, false, false, false, false, false] (lo' := [none, none, none, none, none, none]) rfl ?_
      obtain rfl := Option.some.inj h
      exact hk
    · have h := ifN h c1
      refine x_iload_n C (i := 2) dX3_hand_10 rfl rfl ?_
      refine x_iload C (i := 5) dX3_hand_11 rfl ?_
      refine x_ishr C dX3_hand_13 ?_
      refine x_iconst C (v := 1) dX3_hand_14 (by decide) ?_
      refine x_iand C dX3_hand_15 ?_
      refine x_if_eq C (tgt := 45) dX3_hand_16 (by decide) (fun c2 => ?_) (fun c2 => ?_)
      · have h := ifP h c2
        refine x_iinc C (i := 5) (y := v5 + 1) (lo' := [some (.ref v0), some (.int v1), some (.int v2), some (.long v3), none, some (.int (v5 + 1))]) dX3_hand_45 rfl rfl (by decide) rfl rfl ?_
        refine x_goto C (tgt := 3) dX3_hand_48 (by decide) ?_
        refine x_wk [true, true, true, true, false, true] (lo' := [some (.ref v0), some (.int v1), some (.int v2), some (.long v3), none, some (.int (v5 + 1))]) rfl ?_
        exact ih σ (v5 + 1) h
      · have h := ifN h c2
        refine x_aload_n C (i := 0) dX3_hand_19 rfl rfl ?_
        obtain ⟨x3, ex3, h⟩ := ob h
        refine x_getR C fl_X3_15 dX3_hand_20 ex3 ?_
        refine x_aload_n C (i := 0) dX3_hand_23 rfl rfl ?_
        obtain ⟨x4, ex4, h⟩ := ob h
        refine x_getR C fl_X3_18 dX3_hand_24 ex4 ?_
        obtain ⟨x5, ex5, h⟩ := ob h
        refine x_getR C fl_X3_48 dX3_hand_27 ex5 ?_
        refine x_iload_n C (i := 1) dX3_hand_30 rfl rfl ?_
        refine x_iload C (i := 5) dX3_hand_31 rfl ?_
        obtain ⟨r6, er6, h⟩ := ob h
        refine x_callVr C Z mv_X2_behind lk_X3_73 (rv_h er6) (ct_X2_behind er6) (by decide) rfl rfl (Nat.le_of_ble_eq_true rfl) dX3_hand_33 ?_
        refine x_sipush C (v := 4095) dX3_hand_36 (by decide) ?_
        refine x_iand C dX3_hand_39 ?_
        refine x_dup2 C dX3_hand_40 rfl rfl ?_
        obtain ⟨x7, ex7, h⟩ := ob h
        refine x_lald C dX3_hand_41 ex7 ?_
        refine x_lload_n C (i := 3) dX3_hand_42 rfl rfl ?_
        refine x_ladd C dX3_hand_43 ?_
        obtain ⟨σ8, eσ8, h⟩ := ob h
        refine x_last C dX3_hand_44 eσ8 ?_
        refine x_iinc C (i := 5) (y := v5 + 1) (lo' := [some (.ref v0), some (.int v1), some (.int v2), some (.long v3), none, some (.int (v5 + 1))]) dX3_hand_45 rfl rfl (by decide) rfl rfl ?_
        refine x_goto C (tgt := 3) dX3_hand_48 (by decide) ?_
        refine x_wk [true, true, true, true, false, true] (lo' := [some (.ref v0), some (.int v1), some (.int v2), some (.long v3), none, some (.int (v5 + 1))]) rfl ?_
        exact ih σ8 (v5 + 1) h
set_option maxHeartbeats 4000000 in
set_option maxRecDepth 100000 in
theorem ct_X3_hand {l : Launch} {D : va_G} {cy : Nat → Nat} {N : Nat} {σ : Hp} {t0 : Nat} {p1 : Int32} {p2 : Int32} {p3 : Int64} {r : Hp} (h : m_X3_hand N σ t0 p1 p2 p3 = some r) : Ct l D cy yX3_hand cX3_hand 6 none 1 [.ref t0, .int p1, .int p2, .long p3] N σ (fun v s' => v = none ∧ s' = r) := by
  refine Ct.intro [some (.ref t0), some (.int p1), some (.int p2), some (.long p3), none, none] (by decide) rfl (Nat.le_of_ble_eq_true rfl) ?_
  intro κ ω e1 e2 e3 e4 C Z E
  subst e1; subst e2; subst e3; subst e4
  have C : Cx κ 6 1 cX3_hand RX3 "hand" := C
  have hE : ∀ x : Hp, r = x → ((none : Option Value) = none ∧ x = r) := fun x hx => by subst hx; exact ⟨rfl, rfl⟩
  unfold m_X3_hand at h
  obtain ⟨_, _, h⟩ := ob h
  refine x_iconst C (v := 0) dX3_hand_0 (by decide) ?_
  refine x_istore C (i := 5) (lo' := [some (.ref t0), some (.int p1), some (.int p2), some (.long p3), none, some (.int 0)]) dX3_hand_1 (by decide) rfl rfl ?_
  obtain ⟨z9, ez9, h⟩ := ob h
  refine x_wk [true, true, true, true, false, true] (lo' := [some (.ref t0), some (.int p1), some (.int p2), some (.long p3), none, some (.int 0)]) rfl ?_
  refine lp_X3_hand_3 C Z t0 p1 p2 p3 ?_ _ σ 0 ez9
  exact x_vret C E dX3_hand_51 (hE z9 (Option.some.inj h).symm)
theorem dX3_goOn_0 : decode cX3_goOn 0 = .ok (.aload_n 0, 1) := by decide +kernel
theorem dX3_goOn_1 : decode cX3_goOn 1 = .ok (.getfield 15, 3) := by decide +kernel
theorem dX3_goOn_4 : decode cX3_goOn 4 = .ok (.lconst 0, 1) := by decide +kernel
theorem dX3_goOn_5 : decode cX3_goOn 5 = .ok (.invokestatic 28, 3) := by decide +kernel
theorem dX3_goOn_8 : decode cX3_goOn 8 = .ok (.aload_n 0, 1) := by decide +kernel
theorem dX3_goOn_9 : decode cX3_goOn 9 = .ok (.getfield 18, 3) := by decide +kernel
theorem dX3_goOn_12 : decode cX3_goOn 12 = .ok (.getfield 48, 3) := by decide +kernel
theorem dX3_goOn_15 : decode cX3_goOn 15 = .ok (.invokevirtual 52, 3) := by decide +kernel
theorem dX3_goOn_18 : decode cX3_goOn 18 = .ok (.istore_n 2, 1) := by decide +kernel
theorem dX3_goOn_19 : decode cX3_goOn 19 = .ok (.iconst 0, 1) := by decide +kernel
theorem dX3_goOn_20 : decode cX3_goOn 20 = .ok (.istore_n 3, 1) := by decide +kernel
theorem dX3_goOn_21 : decode cX3_goOn 21 = .ok (.iload_n 3, 1) := by decide +kernel
theorem dX3_goOn_22 : decode cX3_goOn 22 = .ok (.sipush 4096, 3) := by decide +kernel
theorem dX3_goOn_25 : decode cX3_goOn 25 = .ok (.if_icmp .ge 89, 3) := by decide +kernel
theorem dX3_goOn_28 : decode cX3_goOn 28 = .ok (.iload_n 3, 1) := by decide +kernel
theorem dX3_goOn_29 : decode cX3_goOn 29 = .ok (.iload_n 2, 1) := by decide +kernel
theorem dX3_goOn_30 : decode cX3_goOn 30 = .ok (.if_icmp .ge 84, 3) := by decide +kernel
theorem dX3_goOn_33 : decode cX3_goOn 33 = .ok (.aload_n 0, 1) := by decide +kernel
theorem dX3_goOn_34 : decode cX3_goOn 34 = .ok (.getfield 9, 3) := by decide +kernel
theorem dX3_goOn_37 : decode cX3_goOn 37 = .ok (.iload_n 3, 1) := by decide +kernel
theorem dX3_goOn_38 : decode cX3_goOn 38 = .ok (.laload, 1) := by decide +kernel
theorem dX3_goOn_39 : decode cX3_goOn 39 = .ok (.lconst 0, 1) := by decide +kernel
theorem dX3_goOn_40 : decode cX3_goOn 40 = .ok (.lcmp, 1) := by decide +kernel
theorem dX3_goOn_41 : decode cX3_goOn 41 = .ok (.ifCond .ne 7, 3) := by decide +kernel
theorem dX3_goOn_44 : decode cX3_goOn 44 = .ok (.iconst 0, 1) := by decide +kernel
theorem dX3_goOn_45 : decode cX3_goOn 45 = .ok (.goto 16, 3) := by decide +kernel
theorem dX3_goOn_48 : decode cX3_goOn 48 = .ok (.aload_n 0, 1) := by decide +kernel
theorem dX3_goOn_49 : decode cX3_goOn 49 = .ok (.getfield 18, 3) := by decide +kernel
theorem dX3_goOn_52 : decode cX3_goOn 52 = .ok (.iload_n 3, 1) := by decide +kernel
theorem dX3_goOn_53 : decode cX3_goOn 53 = .ok (.aload_n 0, 1) := by decide +kernel
theorem dX3_goOn_54 : decode cX3_goOn 54 = .ok (.getfield 34, 3) := by decide +kernel
theorem dX3_goOn_57 : decode cX3_goOn 57 = .ok (.ior, 1) := by decide +kernel
theorem dX3_goOn_58 : decode cX3_goOn 58 = .ok (.invokevirtual 57, 3) := by decide +kernel
theorem dX3_goOn_61 : decode cX3_goOn 61 = .ok (.istore 4, 2) := by decide +kernel
theorem dX3_goOn_63 : decode cX3_goOn 63 = .ok (.iload 4, 2) := by decide +kernel
theorem dX3_goOn_65 : decode cX3_goOn 65 = .ok (.invokestatic 61, 3) := by decide +kernel
theorem dX3_goOn_68 : decode cX3_goOn 68 = .ok (.istore 5, 2) := by decide +kernel
theorem dX3_goOn_70 : decode cX3_goOn 70 = .ok (.iload 5, 2) := by decide +kernel
theorem dX3_goOn_72 : decode cX3_goOn 72 = .ok (.ifCond .eq 36, 3) := by decide +kernel
theorem dX3_goOn_75 : decode cX3_goOn 75 = .ok (.aload_n 0, 1) := by decide +kernel
theorem dX3_goOn_76 : decode cX3_goOn 76 = .ok (.iload_n 3, 1) := by decide +kernel
theorem dX3_goOn_77 : decode cX3_goOn 77 = .ok (.iload 4, 2) := by decide +kernel
theorem dX3_goOn_79 : decode cX3_goOn 79 = .ok (.iload_n 1, 1) := by decide +kernel
theorem dX3_goOn_80 : decode cX3_goOn 80 = .ok (.ifCond .eq 19, 3) := by decide +kernel
theorem dX3_goOn_83 : decode cX3_goOn 83 = .ok (.aload_n 0, 1) := by decide +kernel
theorem dX3_goOn_84 : decode cX3_goOn 84 = .ok (.getfield 9, 3) := by decide +kernel
theorem dX3_goOn_87 : decode cX3_goOn 87 = .ok (.iload_n 3, 1) := by decide +kernel
theorem dX3_goOn_88 : decode cX3_goOn 88 = .ok (.laload, 1) := by decide +kernel
theorem dX3_goOn_89 : decode cX3_goOn 89 = .ok (.bipush 60, 2) := by decide +kernel
theorem dX3_goOn_91 : decode cX3_goOn 91 = .ok (.iload 5, 2) := by decide +kernel
theorem dX3_goOn_93 : decode cX3_goOn 93 = .ok (.idiv, 1) := by decide +kernel
theorem dX3_goOn_94 : decode cX3_goOn 94 = .ok (.i2l, 1) := by decide +kernel
theorem dX3_goOn_95 : decode cX3_goOn 95 = .ok (.lmul, 1) := by decide +kernel
theorem dX3_goOn_96 : decode cX3_goOn 96 = .ok (.goto 9, 3) := by decide +kernel
theorem dX3_goOn_99 : decode cX3_goOn 99 = .ok (.aload_n 0, 1) := by decide +kernel
theorem dX3_goOn_100 : decode cX3_goOn 100 = .ok (.getfield 9, 3) := by decide +kernel
theorem dX3_goOn_103 : decode cX3_goOn 103 = .ok (.iload_n 3, 1) := by decide +kernel
theorem dX3_goOn_104 : decode cX3_goOn 104 = .ok (.laload, 1) := by decide +kernel
theorem dX3_goOn_105 : decode cX3_goOn 105 = .ok (.invokevirtual 66, 3) := by decide +kernel
theorem dX3_goOn_108 : decode cX3_goOn 108 = .ok (.iinc 3 1, 3) := by decide +kernel
theorem dX3_goOn_111 : decode cX3_goOn 111 = .ok (.goto (-90), 3) := by decide +kernel
theorem dX3_goOn_114 : decode cX3_goOn 114 = .ok (.aload_n 0, 1) := by decide +kernel
theorem dX3_goOn_115 : decode cX3_goOn 115 = .ok (.getfield 9, 3) := by decide +kernel
theorem dX3_goOn_118 : decode cX3_goOn 118 = .ok (.astore_n 3, 1) := by decide +kernel
theorem dX3_goOn_119 : decode cX3_goOn 119 = .ok (.aload_n 0, 1) := by decide +kernel
theorem dX3_goOn_120 : decode cX3_goOn 120 = .ok (.aload_n 0, 1) := by decide +kernel
theorem dX3_goOn_121 : decode cX3_goOn 121 = .ok (.getfield 15, 3) := by decide +kernel
theorem dX3_goOn_124 : decode cX3_goOn 124 = .ok (.putfield 9, 3) := by decide +kernel
theorem dX3_goOn_127 : decode cX3_goOn 127 = .ok (.aload_n 0, 1) := by decide +kernel
theorem dX3_goOn_128 : decode cX3_goOn 128 = .ok (.aload_n 3, 1) := by decide +kernel
theorem dX3_goOn_129 : decode cX3_goOn 129 = .ok (.putfield 15, 3) := by decide +kernel
theorem dX3_goOn_132 : decode cX3_goOn 132 = .ok (.aload_n 0, 1) := by decide +kernel
theorem dX3_goOn_133 : decode cX3_goOn 133 = .ok (.aload_n 0, 1) := by decide +kernel
theorem dX3_goOn_134 : decode cX3_goOn 134 = .ok (.getfield 34, 3) := by decide +kernel
theorem dX3_goOn_137 : decode cX3_goOn 137 = .ok (.sipush 4096, 3) := by decide +kernel
theorem dX3_goOn_140 : decode cX3_goOn 140 = .ok (.ixor, 1) := by decide +kernel
theorem dX3_goOn_141 : decode cX3_goOn 141 = .ok (.aload_n 0, 1) := by decide +kernel
theorem dX3_goOn_142 : decode cX3_goOn 142 = .ok (.getfield 18, 3) := by decide +kernel
theorem dX3_goOn_145 : decode cX3_goOn 145 = .ok (.getfield 70, 3) := by decide +kernel
theorem dX3_goOn_148 : decode cX3_goOn 148 = .ok (.iand, 1) := by decide +kernel
theorem dX3_goOn_149 : decode cX3_goOn 149 = .ok (.putfield 34, 3) := by decide +kernel
theorem dX3_goOn_152 : decode cX3_goOn 152 = .ok (.return_, 1) := by decide +kernel
def L_X3_goOn_21 (N : Nat) (v0 : Nat) (v1 : Int32) (v2 : Int32) : Nat → Hp → Int32 → Option (Hp)
  | 0, _, _ => none
  | n + 1, σ, v3 =>
  if 4096 ≤ v3 then
   some σ
  else
   if v2 ≤ v3 then
   some σ
  else
   (gR N σ v0 3 0).bind fun x8 =>
  (aJ N σ x8 v3).bind fun x9 =>
  ((if (lg_cmp x9 0) = 0 then
   some (0, σ)
  else
   (gR N σ v0 3 2).bind fun x26 =>
  (gI N σ v0 3 3).bind fun x27 =>
  (m_X4_movesAt N σ x26 (v3 ||| x27)).bind fun r28 =>
  some (r28.1, r28.2)) : Option (Int32 × Hp)).bind fun z10 =>
  (m_J6_bitCount_0f7a4 z10.1).bind fun r11 =>
  if r11 = 0 then
   L_X3_goOn_21 N v0 v1 v2 n z10.2 (v3 + 1)
  else
   ((if v1 = 0 then
   (gR N z10.2 v0 3 0).bind fun x18 =>
  (aJ N z10.2 x18 v3).bind fun x19 =>
  some x19
  else
   (gR N z10.2 v0 3 0).bind fun x20 =>
  (aJ N z10.2 x20 v3).bind fun x21 =>
  (nz r11).bind fun u22 =>
  some (x21 * ((60 / r11).toInt64))) : Option (Int64)).bind fun z13 =>
  (m_X3_hand N z10.2 v0 v3 z10.1 z13).bind fun r14 =>
  L_X3_goOn_21 N v0 v1 v2 n r14 (v3 + 1)
def m_X3_goOn (N : Nat) (σ : Hp) (t0 : Nat) (p1 : Int32) : Option (Hp) :=
  (rv N σ t0 3).bind fun _ =>
  (gR N σ t0 3 1).bind fun x1 =>
  (m_J7_fill_d0a16 N σ x1 0).bind fun r2 =>
  (gR N r2 t0 3 2).bind fun x3 =>
  (gR N r2 x3 4 0).bind fun x4 =>
  (m_X2_arrangements N r2 x4).bind fun r5 =>
  (L_X3_goOn_21 N t0 p1 r5 fu r2 0).bind fun z29 =>
  (gR N z29 t0 3 0).bind fun x30 =>
  (gR N z29 t0 3 1).bind fun x31 =>
  (pV N z29 t0 3 0 (.ref x31)).bind fun σ32 =>
  (pV N σ32 t0 3 1 (.ref x30)).bind fun σ33 =>
  (gI N σ33 t0 3 3).bind fun x34 =>
  (gR N σ33 t0 3 2).bind fun x35 =>
  (gI N σ33 x35 4 2).bind fun x36 =>
  (pV N σ33 t0 3 3 (.int ((x34 ^^^ 4096) &&& x36))).bind fun σ37 =>
  some σ37
set_option maxHeartbeats 4000000 in
set_option maxRecDepth 100000 in
theorem lp_X3_goOn_21 {κ : Kx} {ω : Om} (C : Cx κ 6 4 cX3_goOn RX3 "goOn") (Z : Zx κ ω) (v0 : Nat) (v1 : Int32) (v2 : Int32) {r : Hp} (hk : X κ 6 ω 114 [some (.ref v0), none, none, none, none, none] [] r) : ∀ (n : Nat) (σ : Hp) (v3 : Int32), L_X3_goOn_21 ω.1 v0 v1 v2 n σ v3 = some r → X κ 6 ω 21 [some (.ref v0), some (.int v1), some (.int v2), some (.int v3), none, none] [] σ := by
  intro n
  induction n with
  | zero => intro σ v3 h; cases h
  | succ n ih =>
    intro σ v3 h
    rw [L_X3_goOn_21.eq_2] at h
    refine x_iload_n C (i := 3) dX3_goOn_21 rfl rfl ?_
    refine x_sipush C (v := 4096) dX3_goOn_22 (by decide) ?_
    refine x_icmp_ge C (tgt := 114) dX3_goOn_25 (by decide) (fun c6 => ?_) (fun c6 => ?_)
    · have h := ifP h c6
      refine x_wk [true, false, false, false, false, false] (lo' := [some (.ref v0), none, none, none, none, none]) rfl ?_
      obtain rfl := Option.some.inj h
      exact hk
    · have h := ifN h c6
      refine x_iload_n C (i := 3) dX3_goOn_28 rfl rfl ?_
      refine x_iload_n C (i := 2) dX3_goOn_29 rfl rfl ?_
      refine x_icmp_ge C (tgt := 114) dX3_goOn_30 (by decide) (fun c7 => ?_) (fun c7 => ?_)
      · have h := ifP h c7
        refine x_wk [true, false, false, false, false, false] (lo' := [some (.ref v0), none, none, none, none, none]) rfl ?_
        obtain rfl := Option.some.inj h
        exact hk
      · have h := ifN h c7
        refine x_aload_n C (i := 0) dX3_goOn_33 rfl rfl ?_
        obtain ⟨x8, ex8, h⟩ := ob h
        refine x_getR C fl_X3_9 dX3_goOn_34 ex8 ?_
        refine x_iload_n C (i := 3) dX3_goOn_37 rfl rfl ?_
        obtain ⟨x9, ex9, h⟩ := ob h
        refine x_lald C dX3_goOn_38 ex9 ?_
        refine x_lconst C (v := 0) dX3_goOn_39 (by decide) ?_
        refine x_lcmp C dX3_goOn_40 ?_
        obtain ⟨z10, hz10, h⟩ := ob h
        have hJ23 : X κ 6 ω 61 [some (.ref v0), some (.int v1), some (.int v2), some (.int v3), none, none] [.int z10.1] z10.2 := by
          refine x_istore C (i := 4) (lo' := [some (.ref v0), some (.int v1), some (.int v2), some (.int v3), some (.int z10.1), none]) dX3_goOn_61 (by decide) rfl rfl ?_
          refine x_iload C (i := 4) dX3_goOn_63 rfl ?_
          obtain ⟨r11, er11, h⟩ := ob h
          refine x_callSr C Z ms_J6_bitCount_0f7a4 lk_X3_61 (ct_J6_bitCount_0f7a4 (N := ω.1) (σ := z10.2) er11) (by decide) rfl rfl (Nat.le_of_ble_eq_true rfl) dX3_goOn_65 ?_
          refine x_istore C (i := 5) (lo' := [some (.ref v0), some (.int v1), some (.int v2), some (.int v3), some (.int z10.1), some (.int r11)]) dX3_goOn_68 (by decide) rfl rfl ?_
          refine x_iload C (i := 5) dX3_goOn_70 rfl ?_
          refine x_if_eq C (tgt := 108) dX3_goOn_72 (by decide) (fun c12 => ?_) (fun c12 => ?_)
          · have h := ifP h c12
            refine x_iinc C (i := 3) (y := v3 + 1) (lo' := [some (.ref v0), some (.int v1), some (.int v2), some (.int (v3 + 1)), some (.int z10.1), some (.int r11)]) dX3_goOn_108 rfl rfl (by decide) rfl rfl ?_
            refine x_goto C (tgt := 21) dX3_goOn_111 (by decide) ?_
            refine x_wk [true, true, true, true, false, false] (lo' := [some (.ref v0), some (.int v1), some (.int v2), some (.int (v3 + 1)), none, none]) rfl ?_
            exact ih z10.2 (v3 + 1) h
          · have h := ifN h c12
            refine x_aload_n C (i := 0) dX3_goOn_75 rfl rfl ?_
            refine x_iload_n C (i := 3) dX3_goOn_76 rfl rfl ?_
            refine x_iload C (i := 4) dX3_goOn_77 rfl ?_
            refine x_iload_n C (i := 1) dX3_goOn_79 rfl rfl ?_
            obtain ⟨z13, hz13, h⟩ := ob h
            have hJ15 : X κ 6 ω 105 [some (.ref v0), some (.int v1), some (.int v2), some (.int v3), none, none] [.long z13, .int z10.1, .int v3, .ref v0] z10.2 := by
              obtain ⟨r14, er14, h⟩ := ob h
              refine x_callVn C Z mv_X3_hand lk_X3_66 (rv_h er14) (ct_X3_hand er14) (by decide) rfl rfl (Nat.le_of_ble_eq_true rfl) dX3_goOn_105 ?_
              refine x_iinc C (i := 3) (y := v3 + 1) (lo' := [some (.ref v0), some (.int v1), some (.int v2), some (.int (v3 + 1)), none, none]) dX3_goOn_108 rfl rfl (by decide) rfl rfl ?_
              refine x_goto C (tgt := 21) dX3_goOn_111 (by decide) ?_
              refine x_wk [true, true, true, true, false, false] (lo' := [some (.ref v0), some (.int v1), some (.int v2), some (.int (v3 + 1)), none, none]) rfl ?_
              exact ih r14 (v3 + 1) h
            clear h
            have h := hz13
            refine x_if_eq C (tgt := 99) dX3_goOn_80 (by decide) (fun c17 => ?_) (fun c17 => ?_)
            · have h := ifP h c17
              refine x_aload_n C (i := 0) dX3_goOn_99 rfl rfl ?_
              obtain ⟨x18, ex18, h⟩ := ob h
              refine x_getR C fl_X3_9 dX3_goOn_100 ex18 ?_
              refine x_iload_n C (i := 3) dX3_goOn_103 rfl rfl ?_
              obtain ⟨x19, ex19, h⟩ := ob h
              refine x_lald C dX3_goOn_104 ex19 ?_
              refine x_wk [true, true, true, true, false, false] (lo' := [some (.ref v0), some (.int v1), some (.int v2), some (.int v3), none, none]) rfl ?_
              obtain rfl := Option.some.inj h
              exact hJ15
            · have h := ifN h c17
              refine x_aload_n C (i := 0) dX3_goOn_83 rfl rfl ?_
              obtain ⟨x20, ex20, h⟩ := ob h
              refine x_getR C fl_X3_9 dX3_goOn_84 ex20 ?_
              refine x_iload_n C (i := 3) dX3_goOn_87 rfl rfl ?_
              obtain ⟨x21, ex21, h⟩ := ob h
              refine x_lald C dX3_goOn_88 ex21 ?_
              refine x_bipush C (v := 60) dX3_goOn_89 (by decide) ?_
              refine x_iload C (i := 5) dX3_goOn_91 rfl ?_
              obtain ⟨u22, eu22, h⟩ := ob h
              refine x_idiv C dX3_goOn_93 (nz_ne eu22) ?_
              refine x_i2l C dX3_goOn_94 ?_
              refine x_lmul C dX3_goOn_95 ?_
              refine x_goto C (tgt := 105) dX3_goOn_96 (by decide) ?_
              refine x_wk [true, true, true, true, false, false] (lo' := [some (.ref v0), some (.int v1), some (.int v2), some (.int v3), none, none]) rfl ?_
              obtain rfl := Option.some.inj h
              exact hJ15
        clear h
        have h := hz10
        refine x_if_ne C (tgt := 48) dX3_goOn_41 (by decide) (fun c25 => ?_) (fun c25 => ?_)
        · have h := ifN h c25
          refine x_aload_n C (i := 0) dX3_goOn_48 rfl rfl ?_
          obtain ⟨x26, ex26, h⟩ := ob h
          refine x_getR C fl_X3_18 dX3_goOn_49 ex26 ?_
          refine x_iload_n C (i := 3) dX3_goOn_52 rfl rfl ?_
          refine x_aload_n C (i := 0) dX3_goOn_53 rfl rfl ?_
          obtain ⟨x27, ex27, h⟩ := ob h
          refine x_getI C fl_X3_34 dX3_goOn_54 ex27 ?_
          refine x_ior C dX3_goOn_57 ?_
          obtain ⟨r28, er28, h⟩ := ob h
          refine x_callVr C Z mv_X4_movesAt lk_X3_57 (rv_h er28) (ct_X4_movesAt er28) (by decide) rfl rfl (Nat.le_of_ble_eq_true rfl) dX3_goOn_58 ?_
          refine x_wk [true, true, true, true, false, false] (lo' := [some (.ref v0), some (.int v1), some (.int v2), some (.int v3), none, none]) rfl ?_
          obtain rfl := Option.some.inj h
          exact hJ23
        · have h := ifP h c25
          refine x_iconst C (v := 0) dX3_goOn_44 (by decide) ?_
          refine x_goto C (tgt := 61) dX3_goOn_45 (by decide) ?_
          refine x_wk [true, true, true, true, false, false] (lo' := [some (.ref v0), some (.int v1), some (.int v2), some (.int v3), none, none]) rfl ?_
          obtain rfl := Option.some.inj h
          exact hJ23
set_option maxHeartbeats 4000000 in
set_option maxRecDepth 100000 in
theorem ct_X3_goOn {l : Launch} {D : va_G} {cy : Nat → Nat} {N : Nat} {σ : Hp} {t0 : Nat} {p1 : Int32} {r : Hp} (h : m_X3_goOn N σ t0 p1 = some r) : Ct l D cy yX3_goOn cX3_goOn 6 none 4 [.ref t0, .int p1] N σ (fun v s' => v = none ∧ s' = r) := by
  refine Ct.intro [some (.ref t0), some (.int p1), none, none, none, none] (by decide) rfl (Nat.le_of_ble_eq_true rfl) ?_
  intro κ ω e1 e2 e3 e4 C Z E
  subst e1; subst e2; subst e3; subst e4
  have C : Cx κ 6 4 cX3_goOn RX3 "goOn" := C
  have hE : ∀ x : Hp, r = x → ((none : Option Value) = none ∧ x = r) := fun x hx => by subst hx; exact ⟨rfl, rfl⟩
  unfold m_X3_goOn at h
  obtain ⟨_, _, h⟩ := ob h
  refine x_aload_n C (i := 0) dX3_goOn_0 rfl rfl ?_
  obtain ⟨x1, ex1, h⟩ := ob h
  refine x_getR C fl_X3_15 dX3_goOn_1 ex1 ?_
  refine x_lconst C (v := 0) dX3_goOn_4 (by decide) ?_
  obtain ⟨r2, er2, h⟩ := ob h
  refine x_callSn C Z ms_J7_fill_d0a16 lk_X3_28 (ct_J7_fill_d0a16 er2) (by decide) rfl rfl (Nat.le_of_ble_eq_true rfl) dX3_goOn_5 ?_
  refine x_aload_n C (i := 0) dX3_goOn_8 rfl rfl ?_
  obtain ⟨x3, ex3, h⟩ := ob h
  refine x_getR C fl_X3_18 dX3_goOn_9 ex3 ?_
  obtain ⟨x4, ex4, h⟩ := ob h
  refine x_getR C fl_X3_48 dX3_goOn_12 ex4 ?_
  obtain ⟨r5, er5, h⟩ := ob h
  refine x_callVr C Z mv_X2_arrangements lk_X3_52 (rv_h er5) (ct_X2_arrangements er5) (by decide) rfl rfl (Nat.le_of_ble_eq_true rfl) dX3_goOn_15 ?_
  refine x_istore_n C (i := 2) (lo' := [some (.ref t0), some (.int p1), some (.int r5), none, none, none]) dX3_goOn_18 rfl (by decide) rfl rfl ?_
  refine x_iconst C (v := 0) dX3_goOn_19 (by decide) ?_
  refine x_istore_n C (i := 3) (lo' := [some (.ref t0), some (.int p1), some (.int r5), some (.int 0), none, none]) dX3_goOn_20 rfl (by decide) rfl rfl ?_
  obtain ⟨z29, ez29, h⟩ := ob h
  refine x_wk [true, true, true, true, false, false] (lo' := [some (.ref t0), some (.int p1), some (.int r5), some (.int 0), none, none]) rfl ?_
  refine lp_X3_goOn_21 C Z t0 p1 r5 ?_ _ r2 0 ez29
  refine x_aload_n C (i := 0) dX3_goOn_114 rfl rfl ?_
  obtain ⟨x30, ex30, h⟩ := ob h
  refine x_getR C fl_X3_9 dX3_goOn_115 ex30 ?_
  refine x_astore_n C (i := 3) (lo' := [some (.ref t0), none, none, some (.ref x30), none, none]) dX3_goOn_118 rfl (by decide) rfl rfl ?_
  refine x_aload_n C (i := 0) dX3_goOn_119 rfl rfl ?_
  refine x_aload_n C (i := 0) dX3_goOn_120 rfl rfl ?_
  obtain ⟨x31, ex31, h⟩ := ob h
  refine x_getR C fl_X3_15 dX3_goOn_121 ex31 ?_
  obtain ⟨σ32, eσ32, h⟩ := ob h
  refine x_put C pl_X3_9 dX3_goOn_124 (fun _ => ⟨rfl, rfl⟩) eσ32 ?_
  refine x_aload_n C (i := 0) dX3_goOn_127 rfl rfl ?_
  refine x_aload_n C (i := 3) dX3_goOn_128 rfl rfl ?_
  obtain ⟨σ33, eσ33, h⟩ := ob h
  refine x_put C pl_X3_15 dX3_goOn_129 (fun _ => ⟨rfl, rfl⟩) eσ33 ?_
  refine x_aload_n C (i := 0) dX3_goOn_132 rfl rfl ?_
  refine x_aload_n C (i := 0) dX3_goOn_133 rfl rfl ?_
  obtain ⟨x34, ex34, h⟩ := ob h
  refine x_getI C fl_X3_34 dX3_goOn_134 ex34 ?_
  refine x_sipush C (v := 4096) dX3_goOn_137 (by decide) ?_
  refine x_ixor C dX3_goOn_140 ?_
  refine x_aload_n C (i := 0) dX3_goOn_141 rfl rfl ?_
  obtain ⟨x35, ex35, h⟩ := ob h
  refine x_getR C fl_X3_18 dX3_goOn_142 ex35 ?_
  obtain ⟨x36, ex36, h⟩ := ob h
  refine x_getI C fl_X3_70 dX3_goOn_145 ex36 ?_
  refine x_iand C dX3_goOn_148 ?_
  obtain ⟨σ37, eσ37, h⟩ := ob h
  refine x_put C pl_X3_34 dX3_goOn_149 (fun _ => ⟨rfl, rfl⟩) eσ37 ?_
  exact x_vret C E dX3_goOn_152 (hE σ37 (Option.some.inj h).symm)
theorem dX3_rowsTo_0 : decode cX3_rowsTo 0 = .ok (.iconst 0, 1) := by decide +kernel
theorem dX3_rowsTo_1 : decode cX3_rowsTo 1 = .ok (.istore_n 3, 1) := by decide +kernel
theorem dX3_rowsTo_2 : decode cX3_rowsTo 2 = .ok (.iload_n 3, 1) := by decide +kernel
theorem dX3_rowsTo_3 : decode cX3_rowsTo 3 = .ok (.iload_n 2, 1) := by decide +kernel
theorem dX3_rowsTo_4 : decode cX3_rowsTo 4 = .ok (.if_icmp .ge 14, 3) := by decide +kernel
theorem dX3_rowsTo_7 : decode cX3_rowsTo 7 = .ok (.aload_n 0, 1) := by decide +kernel
theorem dX3_rowsTo_8 : decode cX3_rowsTo 8 = .ok (.iconst 0, 1) := by decide +kernel
theorem dX3_rowsTo_9 : decode cX3_rowsTo 9 = .ok (.invokevirtual 38, 3) := by decide +kernel
theorem dX3_rowsTo_12 : decode cX3_rowsTo 12 = .ok (.iinc 3 1, 3) := by decide +kernel
theorem dX3_rowsTo_15 : decode cX3_rowsTo 15 = .ok (.goto (-13), 3) := by decide +kernel
theorem dX3_rowsTo_18 : decode cX3_rowsTo 18 = .ok (.aload_n 0, 1) := by decide +kernel
theorem dX3_rowsTo_19 : decode cX3_rowsTo 19 = .ok (.getfield 9, 3) := by decide +kernel
theorem dX3_rowsTo_22 : decode cX3_rowsTo 22 = .ok (.iload_n 1, 1) := by decide +kernel
theorem dX3_rowsTo_23 : decode cX3_rowsTo 23 = .ok (.sipush 4095, 3) := by decide +kernel
theorem dX3_rowsTo_26 : decode cX3_rowsTo 26 = .ok (.iand, 1) := by decide +kernel
theorem dX3_rowsTo_27 : decode cX3_rowsTo 27 = .ok (.laload, 1) := by decide +kernel
theorem dX3_rowsTo_28 : decode cX3_rowsTo 28 = .ok (.lreturn, 1) := by decide +kernel
def L_X3_rowsTo_2 (N : Nat) (v0 : Nat) (v1 : Int32) (v2 : Int32) : Nat → Hp → Int32 → Option (Hp)
  | 0, _, _ => none
  | n + 1, σ, v3 =>
  if v2 ≤ v3 then
   some σ
  else
   (m_X3_goOn N σ v0 0).bind fun r2 =>
  L_X3_rowsTo_2 N v0 v1 v2 n r2 (v3 + 1)
def m_X3_rowsTo (N : Nat) (σ : Hp) (t0 : Nat) (p1 : Int32) (p2 : Int32) : Option (Int64 × Hp) :=
  (rv N σ t0 3).bind fun _ =>
  (L_X3_rowsTo_2 N t0 p1 p2 fu σ 0).bind fun z3 =>
  (gR N z3 t0 3 0).bind fun x4 =>
  (aJ N z3 x4 (p1 &&& 4095)).bind fun x5 =>
  some (x5, z3)
set_option maxHeartbeats 4000000 in
set_option maxRecDepth 100000 in
theorem lp_X3_rowsTo_2 {κ : Kx} {ω : Om} (C : Cx κ 4 5 cX3_rowsTo RX3 "rowsTo") (Z : Zx κ ω) (v0 : Nat) (v1 : Int32) (v2 : Int32) {r : Hp} (hk : X κ 4 ω 18 [some (.ref v0), some (.int v1), none, none] [] r) : ∀ (n : Nat) (σ : Hp) (v3 : Int32), L_X3_rowsTo_2 ω.1 v0 v1 v2 n σ v3 = some r → X κ 4 ω 2 [some (.ref v0), some (.int v1), some (.int v2), some (.int v3)] [] σ := by
  intro n
  induction n with
  | zero => intro σ v3 h; cases h
  | succ n ih =>
    intro σ v3 h
    rw [L_X3_rowsTo_2.eq_2] at h
    refine x_iload_n C (i := 3) dX3_rowsTo_2 rfl rfl ?_
    refine x_iload_n C (i := 2) dX3_rowsTo_3 rfl rfl ?_
    refine x_icmp_ge C (tgt := 18) dX3_rowsTo_4 (by decide) (fun c1 => ?_) (fun c1 => ?_)
    · have h := ifP h c1
      refine x_wk [true, true, false, false] (lo' := [some (.ref v0), some (.int v1), none, none]) rfl ?_
      obtain rfl := Option.some.inj h
      exact hk
    · have h := ifN h c1
      refine x_aload_n C (i := 0) dX3_rowsTo_7 rfl rfl ?_
      refine x_iconst C (v := 0) dX3_rowsTo_8 (by decide) ?_
      obtain ⟨r2, er2, h⟩ := ob h
      refine x_callVn C Z mv_X3_goOn lk_X3_38 (rv_h er2) (ct_X3_goOn er2) (by decide) rfl rfl (Nat.le_of_ble_eq_true rfl) dX3_rowsTo_9 ?_
      refine x_iinc C (i := 3) (y := v3 + 1) (lo' := [some (.ref v0), some (.int v1), some (.int v2), some (.int (v3 + 1))]) dX3_rowsTo_12 rfl rfl (by decide) rfl rfl ?_
      refine x_goto C (tgt := 2) dX3_rowsTo_15 (by decide) ?_
      refine x_wk [true, true, true, true] (lo' := [some (.ref v0), some (.int v1), some (.int v2), some (.int (v3 + 1))]) rfl ?_
      exact ih r2 (v3 + 1) h
set_option maxHeartbeats 4000000 in
set_option maxRecDepth 100000 in
theorem ct_X3_rowsTo {l : Launch} {D : va_G} {cy : Nat → Nat} {N : Nat} {σ : Hp} {t0 : Nat} {p1 : Int32} {p2 : Int32} {r : Int64 × Hp} (h : m_X3_rowsTo N σ t0 p1 p2 = some r) : Ct l D cy yX3_rowsTo cX3_rowsTo 4 (some .long) 5 [.ref t0, .int p1, .int p2] N σ (fun v s' => v = (some (.long r.1)) ∧ s' = r.2) := by
  refine Ct.intro [some (.ref t0), some (.int p1), some (.int p2), none] (by decide) rfl (Nat.le_of_ble_eq_true rfl) ?_
  intro κ ω e1 e2 e3 e4 C Z E
  subst e1; subst e2; subst e3; subst e4
  have C : Cx κ 4 5 cX3_rowsTo RX3 "rowsTo" := C
  have hE : ∀ x : Int64 × Hp, r = x → ((some (Value.long x.1)) = (some (Value.long r.1)) ∧ x.2 = r.2) := fun x hx => by subst hx; exact ⟨rfl, rfl⟩
  unfold m_X3_rowsTo at h
  obtain ⟨_, _, h⟩ := ob h
  refine x_iconst C (v := 0) dX3_rowsTo_0 (by decide) ?_
  refine x_istore_n C (i := 3) (lo' := [some (.ref t0), some (.int p1), some (.int p2), some (.int 0)]) dX3_rowsTo_1 rfl (by decide) rfl rfl ?_
  obtain ⟨z3, ez3, h⟩ := ob h
  refine x_wk [true, true, true, true] (lo' := [some (.ref t0), some (.int p1), some (.int p2), some (.int 0)]) rfl ?_
  refine lp_X3_rowsTo_2 C Z t0 p1 p2 ?_ _ σ 0 ez3
  refine x_aload_n C (i := 0) dX3_rowsTo_18 rfl rfl ?_
  obtain ⟨x4, ex4, h⟩ := ob h
  refine x_getR C fl_X3_9 dX3_rowsTo_19 ex4 ?_
  refine x_iload_n C (i := 1) dX3_rowsTo_22 rfl rfl ?_
  refine x_sipush C (v := 4095) dX3_rowsTo_23 (by decide) ?_
  refine x_iand C dX3_rowsTo_26 ?_
  obtain ⟨x5, ex5, h⟩ := ob h
  refine x_lald C dX3_rowsTo_27 ex5 ?_
  exact x_lret C E dX3_rowsTo_28 (hE (x5, z3) (Option.some.inj h).symm)
theorem dX3_weightsOn_0 : decode cX3_weightsOn 0 = .ok (.lconst 0, 1) := by decide +kernel
theorem dX3_weightsOn_1 : decode cX3_weightsOn 1 = .ok (.lstore 4, 2) := by decide +kernel
theorem dX3_weightsOn_3 : decode cX3_weightsOn 3 = .ok (.aload_n 0, 1) := by decide +kernel
theorem dX3_weightsOn_4 : decode cX3_weightsOn 4 = .ok (.getfield 18, 3) := by decide +kernel
theorem dX3_weightsOn_7 : decode cX3_weightsOn 7 = .ok (.getfield 48, 3) := by decide +kernel
theorem dX3_weightsOn_10 : decode cX3_weightsOn 10 = .ok (.invokevirtual 52, 3) := by decide +kernel
theorem dX3_weightsOn_13 : decode cX3_weightsOn 13 = .ok (.istore 6, 2) := by decide +kernel
theorem dX3_weightsOn_15 : decode cX3_weightsOn 15 = .ok (.iconst 0, 1) := by decide +kernel
theorem dX3_weightsOn_16 : decode cX3_weightsOn 16 = .ok (.istore 7, 2) := by decide +kernel
theorem dX3_weightsOn_18 : decode cX3_weightsOn 18 = .ok (.iload 7, 2) := by decide +kernel
theorem dX3_weightsOn_20 : decode cX3_weightsOn 20 = .ok (.sipush 4096, 3) := by decide +kernel
theorem dX3_weightsOn_23 : decode cX3_weightsOn 23 = .ok (.if_icmp .ge 73, 3) := by decide +kernel
theorem dX3_weightsOn_26 : decode cX3_weightsOn 26 = .ok (.iload 7, 2) := by decide +kernel
theorem dX3_weightsOn_28 : decode cX3_weightsOn 28 = .ok (.iload 6, 2) := by decide +kernel
theorem dX3_weightsOn_30 : decode cX3_weightsOn 30 = .ok (.if_icmp .ge 66, 3) := by decide +kernel
theorem dX3_weightsOn_33 : decode cX3_weightsOn 33 = .ok (.aload_n 0, 1) := by decide +kernel
theorem dX3_weightsOn_34 : decode cX3_weightsOn 34 = .ok (.getfield 9, 3) := by decide +kernel
theorem dX3_weightsOn_37 : decode cX3_weightsOn 37 = .ok (.iload 7, 2) := by decide +kernel
theorem dX3_weightsOn_39 : decode cX3_weightsOn 39 = .ok (.laload, 1) := by decide +kernel
theorem dX3_weightsOn_40 : decode cX3_weightsOn 40 = .ok (.lconst 0, 1) := by decide +kernel
theorem dX3_weightsOn_41 : decode cX3_weightsOn 41 = .ok (.lcmp, 1) := by decide +kernel
theorem dX3_weightsOn_42 : decode cX3_weightsOn 42 = .ok (.ifCond .eq 48, 3) := by decide +kernel
theorem dX3_weightsOn_45 : decode cX3_weightsOn 45 = .ok (.iload 7, 2) := by decide +kernel
theorem dX3_weightsOn_47 : decode cX3_weightsOn 47 = .ok (.iconst 2, 1) := by decide +kernel
theorem dX3_weightsOn_48 : decode cX3_weightsOn 48 = .ok (.iload_n 1, 1) := by decide +kernel
theorem dX3_weightsOn_49 : decode cX3_weightsOn 49 = .ok (.imul, 1) := by decide +kernel
theorem dX3_weightsOn_50 : decode cX3_weightsOn 50 = .ok (.ishr, 1) := by decide +kernel
theorem dX3_weightsOn_51 : decode cX3_weightsOn 51 = .ok (.iconst 3, 1) := by decide +kernel
theorem dX3_weightsOn_52 : decode cX3_weightsOn 52 = .ok (.iand, 1) := by decide +kernel
theorem dX3_weightsOn_53 : decode cX3_weightsOn 53 = .ok (.iload_n 2, 1) := by decide +kernel
theorem dX3_weightsOn_54 : decode cX3_weightsOn 54 = .ok (.if_icmp .ne 36, 3) := by decide +kernel
theorem dX3_weightsOn_57 : decode cX3_weightsOn 57 = .ok (.iload_n 3, 1) := by decide +kernel
theorem dX3_weightsOn_58 : decode cX3_weightsOn 58 = .ok (.ifCond .eq 20, 3) := by decide +kernel
theorem dX3_weightsOn_61 : decode cX3_weightsOn 61 = .ok (.aload_n 0, 1) := by decide +kernel
theorem dX3_weightsOn_62 : decode cX3_weightsOn 62 = .ok (.getfield 18, 3) := by decide +kernel
theorem dX3_weightsOn_65 : decode cX3_weightsOn 65 = .ok (.iload 7, 2) := by decide +kernel
theorem dX3_weightsOn_67 : decode cX3_weightsOn 67 = .ok (.aload_n 0, 1) := by decide +kernel
theorem dX3_weightsOn_68 : decode cX3_weightsOn 68 = .ok (.getfield 34, 3) := by decide +kernel
theorem dX3_weightsOn_71 : decode cX3_weightsOn 71 = .ok (.ior, 1) := by decide +kernel
theorem dX3_weightsOn_72 : decode cX3_weightsOn 72 = .ok (.invokevirtual 57, 3) := by decide +kernel
theorem dX3_weightsOn_75 : decode cX3_weightsOn 75 = .ok (.ifCond .ne 15, 3) := by decide +kernel
theorem dX3_weightsOn_78 : decode cX3_weightsOn 78 = .ok (.lload 4, 2) := by decide +kernel
theorem dX3_weightsOn_80 : decode cX3_weightsOn 80 = .ok (.aload_n 0, 1) := by decide +kernel
theorem dX3_weightsOn_81 : decode cX3_weightsOn 81 = .ok (.getfield 9, 3) := by decide +kernel
theorem dX3_weightsOn_84 : decode cX3_weightsOn 84 = .ok (.iload 7, 2) := by decide +kernel
theorem dX3_weightsOn_86 : decode cX3_weightsOn 86 = .ok (.laload, 1) := by decide +kernel
theorem dX3_weightsOn_87 : decode cX3_weightsOn 87 = .ok (.ladd, 1) := by decide +kernel
theorem dX3_weightsOn_88 : decode cX3_weightsOn 88 = .ok (.lstore 4, 2) := by decide +kernel
theorem dX3_weightsOn_90 : decode cX3_weightsOn 90 = .ok (.iinc 7 1, 3) := by decide +kernel
theorem dX3_weightsOn_93 : decode cX3_weightsOn 93 = .ok (.goto (-75), 3) := by decide +kernel
theorem dX3_weightsOn_96 : decode cX3_weightsOn 96 = .ok (.lload 4, 2) := by decide +kernel
theorem dX3_weightsOn_98 : decode cX3_weightsOn 98 = .ok (.lreturn, 1) := by decide +kernel
def L_X3_weightsOn_18 (N : Nat) (v0 : Nat) (v1 : Int32) (v2 : Int32) (v3 : Int32) (v6 : Int32) : Nat → Hp → Int64 → Int32 → Option (Int64 × Hp)
  | 0, _, _, _ => none
  | n + 1, σ, v4, v7 =>
  if 4096 ≤ v7 then
   some (v4, σ)
  else
   if v6 ≤ v7 then
   some (v4, σ)
  else
   (gR N σ v0 3 0).bind fun x6 =>
  (aJ N σ x6 v7).bind fun x7 =>
  if (lg_cmp x7 0) = 0 then
   L_X3_weightsOn_18 N v0 v1 v2 v3 v6 n σ v4 (v7 + 1)
  else
   if ((v7 >>> (((2 : Int32) * v1) &&& 31)) &&& 3) = v2 then
   if v3 = 0 then
   (gR N σ v0 3 0).bind fun x11 =>
  (aJ N σ x11 v7).bind fun x12 =>
  L_X3_weightsOn_18 N v0 v1 v2 v3 v6 n σ (v4 + x12) (v7 + 1)
  else
   (gR N σ v0 3 2).bind fun x13 =>
  (gI N σ v0 3 3).bind fun x14 =>
  (m_X4_movesAt N σ x13 (v7 ||| x14)).bind fun r15 =>
  if r15.1 = 0 then
   (gR N r15.2 v0 3 0).bind fun x17 =>
  (aJ N r15.2 x17 v7).bind fun x18 =>
  L_X3_weightsOn_18 N v0 v1 v2 v3 v6 n r15.2 (v4 + x18) (v7 + 1)
  else
   L_X3_weightsOn_18 N v0 v1 v2 v3 v6 n r15.2 v4 (v7 + 1)
  else
   L_X3_weightsOn_18 N v0 v1 v2 v3 v6 n σ v4 (v7 + 1)
def m_X3_weightsOn (N : Nat) (σ : Hp) (t0 : Nat) (p1 : Int32) (p2 : Int32) (p3 : Int32) : Option (Int64 × Hp) :=
  (rv N σ t0 3).bind fun _ =>
  (gR N σ t0 3 2).bind fun x1 =>
  (gR N σ x1 4 0).bind fun x2 =>
  (m_X2_arrangements N σ x2).bind fun r3 =>
  (L_X3_weightsOn_18 N t0 p1 p2 p3 r3 fu σ 0 0).bind fun z19 =>
  some (z19.1, z19.2)
set_option maxHeartbeats 4000000 in
set_option maxRecDepth 100000 in
theorem lp_X3_weightsOn_18 {κ : Kx} {ω : Om} (C : Cx κ 8 4 cX3_weightsOn RX3 "weightsOn") (Z : Zx κ ω) (v0 : Nat) (v1 : Int32) (v2 : Int32) (v3 : Int32) (v6 : Int32) {r : Int64 × Hp} (hk : X κ 8 ω 96 [none, none, none, none, some (.long r.1), none, none, none] [] r.2) : ∀ (n : Nat) (σ : Hp) (v4 : Int64) (v7 : Int32), L_X3_weightsOn_18 ω.1 v0 v1 v2 v3 v6 n σ v4 v7 = some r → X κ 8 ω 18 [some (.ref v0), some (.int v1), some (.int v2), some (.int v3), some (.long v4), none, some (.int v6), some (.int v7)] [] σ := by
  intro n
  induction n with
  | zero => intro σ v4 v7 h; cases h
  | succ n ih =>
    intro σ v4 v7 h
    rw [L_X3_weightsOn_18.eq_2] at h
    refine x_iload C (i := 7) dX3_weightsOn_18 rfl ?_
    refine x_sipush C (v := 4096) dX3_weightsOn_20 (by decide) ?_
    refine x_icmp_ge C (tgt := 96) dX3_weightsOn_23 (by decide) (fun c4 => ?_) (fun c4 => ?_)
    · have h := ifP h c4
      refine x_wk [false, false, false, false, true, false, false, false] (lo' := [none, none, none, none, some (.long v4), none, none, none]) rfl ?_
      obtain rfl := Option.some.inj h
      exact hk
    · have h := ifN h c4
      refine x_iload C (i := 7) dX3_weightsOn_26 rfl ?_
      refine x_iload C (i := 6) dX3_weightsOn_28 rfl ?_
      refine x_icmp_ge C (tgt := 96) dX3_weightsOn_30 (by decide) (fun c5 => ?_) (fun c5 => ?_)
      · have h := ifP h c5
        refine x_wk [false, false, false, false, true, false, false, false] (lo' := [none, none, none, none, some (.long v4), none, none, none]) rfl ?_
        obtain rfl := Option.some.inj h
        exact hk
      · have h := ifN h c5
        refine x_aload_n C (i := 0) dX3_weightsOn_33 rfl rfl ?_
        obtain ⟨x6, ex6, h⟩ := ob h
        refine x_getR C fl_X3_9 dX3_weightsOn_34 ex6 ?_
        refine x_iload C (i := 7) dX3_weightsOn_37 rfl ?_
        obtain ⟨x7, ex7, h⟩ := ob h
        refine x_lald C dX3_weightsOn_39 ex7 ?_
        refine x_lconst C (v := 0) dX3_weightsOn_40 (by decide) ?_
        refine x_lcmp C dX3_weightsOn_41 ?_
        refine x_if_eq C (tgt := 90) dX3_weightsOn_42 (by decide) (fun c8 => ?_) (fun c8 => ?_)
        · have h := ifP h c8
          refine x_iinc C (i := 7) (y := v7 + 1) (lo' := [some (.ref v0), some (.int v1), some (.int v2), some (.int v3), some (.long v4), none, some (.int v6), some (.int (v7 + 1))]) dX3_weightsOn_90 rfl rfl (by decide) rfl rfl ?_
          refine x_goto C (tgt := 18) dX3_weightsOn_93 (by decide) ?_
          refine x_wk [true, true, true, true, true, false, true, true] (lo' := [some (.ref v0), some (.int v1), some (.int v2), some (.int v3), some (.long v4), none, some (.int v6), some (.int (v7 + 1))]) rfl ?_
          exact ih σ v4 (v7 + 1) h
        · have h := ifN h c8
          refine x_iload C (i := 7) dX3_weightsOn_45 rfl ?_
          refine x_iconst C (v := 2) dX3_weightsOn_47 (by decide) ?_
          refine x_iload_n C (i := 1) dX3_weightsOn_48 rfl rfl ?_
          refine x_imul C dX3_weightsOn_49 ?_
          refine x_ishr C dX3_weightsOn_50 ?_
          refine x_iconst C (v := 3) dX3_weightsOn_51 (by decide) ?_
          refine x_iand C dX3_weightsOn_52 ?_
          refine x_iload_n C (i := 2) dX3_weightsOn_53 rfl rfl ?_
          refine x_icmp_ne C (tgt := 90) dX3_weightsOn_54 (by decide) (fun c9 => ?_) (fun c9 => ?_)
          · have h := ifN h c9
            refine x_iinc C (i := 7) (y := v7 + 1) (lo' := [some (.ref v0), some (.int v1), some (.int v2), some (.int v3), some (.long v4), none, some (.int v6), some (.int (v7 + 1))]) dX3_weightsOn_90 rfl rfl (by decide) rfl rfl ?_
            refine x_goto C (tgt := 18) dX3_weightsOn_93 (by decide) ?_
            refine x_wk [true, true, true, true, true, false, true, true] (lo' := [some (.ref v0), some (.int v1), some (.int v2), some (.int v3), some (.long v4), none, some (.int v6), some (.int (v7 + 1))]) rfl ?_
            exact ih σ v4 (v7 + 1) h
          · have h := ifP h c9
            refine x_iload_n C (i := 3) dX3_weightsOn_57 rfl rfl ?_
            refine x_if_eq C (tgt := 78) dX3_weightsOn_58 (by decide) (fun c10 => ?_) (fun c10 => ?_)
            · have h := ifP h c10
              refine x_lload C (i := 4) dX3_weightsOn_78 rfl ?_
              refine x_aload_n C (i := 0) dX3_weightsOn_80 rfl rfl ?_
              obtain ⟨x11, ex11, h⟩ := ob h
              refine x_getR C fl_X3_9 dX3_weightsOn_81 ex11 ?_
              refine x_iload C (i := 7) dX3_weightsOn_84 rfl ?_
              obtain ⟨x12, ex12, h⟩ := ob h
              refine x_lald C dX3_weightsOn_86 ex12 ?_
              refine x_ladd C dX3_weightsOn_87 ?_
              refine x_lstore C (i := 4) (lo' := [some (.ref v0), some (.int v1), some (.int v2), some (.int v3), some (.long (v4 + x12)), none, some (.int v6), some (.int v7)]) dX3_weightsOn_88 (by decide) rfl rfl ?_
              refine x_iinc C (i := 7) (y := v7 + 1) (lo' := [some (.ref v0), some (.int v1), some (.int v2), some (.int v3), some (.long (v4 + x12)), none, some (.int v6), some (.int (v7 + 1))]) dX3_weightsOn_90 rfl rfl (by decide) rfl rfl ?_
              refine x_goto C (tgt := 18) dX3_weightsOn_93 (by decide) ?_
              refine x_wk [true, true, true, true, true, false, true, true] (lo' := [some (.ref v0), some (.int v1), some (.int v2), some (.int v3), some (.long (v4 + x12)), none, some (.int v6), some (.int (v7 + 1))]) rfl ?_
              exact ih σ (v4 + x12) (v7 + 1) h
            · have h := ifN h c10
              refine x_aload_n C (i := 0) dX3_weightsOn_61 rfl rfl ?_
              obtain ⟨x13, ex13, h⟩ := ob h
              refine x_getR C fl_X3_18 dX3_weightsOn_62 ex13 ?_
              refine x_iload C (i := 7) dX3_weightsOn_65 rfl ?_
              refine x_aload_n C (i := 0) dX3_weightsOn_67 rfl rfl ?_
              obtain ⟨x14, ex14, h⟩ := ob h
              refine x_getI C fl_X3_34 dX3_weightsOn_68 ex14 ?_
              refine x_ior C dX3_weightsOn_71 ?_
              obtain ⟨r15, er15, h⟩ := ob h
              refine x_callVr C Z mv_X4_movesAt lk_X3_57 (rv_h er15) (ct_X4_movesAt er15) (by decide) rfl rfl (Nat.le_of_ble_eq_true rfl) dX3_weightsOn_72 ?_
              refine x_if_ne C (tgt := 90) dX3_weightsOn_75 (by decide) (fun c16 => ?_) (fun c16 => ?_)
              · have h := ifN h c16
                refine x_iinc C (i := 7) (y := v7 + 1) (lo' := [some (.ref v0), some (.int v1), some (.int v2), some (.int v3), some (.long v4), none, some (.int v6), some (.int (v7 + 1))]) dX3_weightsOn_90 rfl rfl (by decide) rfl rfl ?_
                refine x_goto C (tgt := 18) dX3_weightsOn_93 (by decide) ?_
                refine x_wk [true, true, true, true, true, false, true, true] (lo' := [some (.ref v0), some (.int v1), some (.int v2), some (.int v3), some (.long v4), none, some (.int v6), some (.int (v7 + 1))]) rfl ?_
                exact ih r15.2 v4 (v7 + 1) h
              · have h := ifP h c16
                refine x_lload C (i := 4) dX3_weightsOn_78 rfl ?_
                refine x_aload_n C (i := 0) dX3_weightsOn_80 rfl rfl ?_
                obtain ⟨x17, ex17, h⟩ := ob h
                refine x_getR C fl_X3_9 dX3_weightsOn_81 ex17 ?_
                refine x_iload C (i := 7) dX3_weightsOn_84 rfl ?_
                obtain ⟨x18, ex18, h⟩ := ob h
                refine x_lald C dX3_weightsOn_86 ex18 ?_
                refine x_ladd C dX3_weightsOn_87 ?_
                refine x_lstore C (i := 4) (lo' := [some (.ref v0), some (.int v1), some (.int v2), some (.int v3), some (.long (v4 + x18)), none, some (.int v6), some (.int v7)]) dX3_weightsOn_88 (by decide) rfl rfl ?_
                refine x_iinc C (i := 7) (y := v7 + 1) (lo' := [some (.ref v0), some (.int v1), some (.int v2), some (.int v3), some (.long (v4 + x18)), none, some (.int v6), some (.int (v7 + 1))]) dX3_weightsOn_90 rfl rfl (by decide) rfl rfl ?_
                refine x_goto C (tgt := 18) dX3_weightsOn_93 (by decide) ?_
                refine x_wk [true, true, true, true, true, false, true, true] (lo' := [some (.ref v0), some (.int v1), some (.int v2), some (.int v3), some (.long (v4 + x18)), none, some (.int v6), some (.int (v7 + 1))]) rfl ?_
                exact ih r15.2 (v4 + x18) (v7 + 1) h
set_option maxHeartbeats 4000000 in
set_option maxRecDepth 100000 in
theorem ct_X3_weightsOn {l : Launch} {D : va_G} {cy : Nat → Nat} {N : Nat} {σ : Hp} {t0 : Nat} {p1 : Int32} {p2 : Int32} {p3 : Int32} {r : Int64 × Hp} (h : m_X3_weightsOn N σ t0 p1 p2 p3 = some r) : Ct l D cy yX3_weightsOn cX3_weightsOn 8 (some .long) 4 [.ref t0, .int p1, .int p2, .int p3] N σ (fun v s' => v = (some (.long r.1)) ∧ s' = r.2) := by
  refine Ct.intro [some (.ref t0), some (.int p1), some (.int p2), some (.int p3), none, none, none, none] (by decide) rfl (Nat.le_of_ble_eq_true rfl) ?_
  intro κ ω e1 e2 e3 e4 C Z E
  subst e1; subst e2; subst e3; subst e4
  have C : Cx κ 8 4 cX3_weightsOn RX3 "weightsOn" := C
  have hE : ∀ x : Int64 × Hp, r = x → ((some (Value.long x.1)) = (some (Value.long r.1)) ∧ x.2 = r.2) := fun x hx => by subst hx; exact ⟨rfl, rfl⟩
  unfold m_X3_weightsOn at h
  obtain ⟨_, _, h⟩ := ob h
  refine x_lconst C (v := 0) dX3_weightsOn_0 (by decide) ?_
  refine x_lstore C (i := 4) (lo' := [some (.ref t0), some (.int p1), some (.int p2), some (.int p3), some (.long 0), none, none, none]) dX3_weightsOn_1 (by decide) rfl rfl ?_
  refine x_aload_n C (i := 0) dX3_weightsOn_3 rfl rfl ?_
  obtain ⟨x1, ex1, h⟩ := ob h
  refine x_getR C fl_X3_18 dX3_weightsOn_4 ex1 ?_
  obtain ⟨x2, ex2, h⟩ := ob h
  refine x_getR C fl_X3_48 dX3_weightsOn_7 ex2 ?_
  obtain ⟨r3, er3, h⟩ := ob h
  refine x_callVr C Z mv_X2_arrangements lk_X3_52 (rv_h er3) (ct_X2_arrangements er3) (by decide) rfl rfl (Nat.le_of_ble_eq_true rfl) dX3_weightsOn_10 ?_
  refine x_istore C (i := 6) (lo' := [some (.ref t0), some (.int p1), some (.int p2), some (.int p3), some (.long 0), none, some (.int r3), none]) dX3_weightsOn_13 (by decide) rfl rfl ?_
  refine x_iconst C (v := 0) dX3_weightsOn_15 (by decide) ?_
  refine x_istore C (i := 7) (lo' := [some (.ref t0), some (.int p1), some (.int p2), some (.int p3), some (.long 0), none, some (.int r3), some (.int 0)]) dX3_weightsOn_16 (by decide) rfl rfl ?_
  obtain ⟨z19, ez19, h⟩ := ob h
  refine x_wk [true, true, true, true, true, false, true, true] (lo' := [some (.ref t0), some (.int p1), some (.int p2), some (.int p3), some (.long 0), none, some (.int r3), some (.int 0)]) rfl ?_
  refine lp_X3_weightsOn_18 C Z t0 p1 p2 p3 r3 ?_ _ σ 0 0 ez19
  refine x_lload C (i := 4) dX3_weightsOn_96 rfl ?_
  exact x_lret C E dX3_weightsOn_98 (hE (z19.1, z19.2) (Option.some.inj h).symm)
theorem dX3_partsOn_0 : decode cX3_partsOn 0 = .ok (.lconst 0, 1) := by decide +kernel
theorem dX3_partsOn_1 : decode cX3_partsOn 1 = .ok (.lstore 4, 2) := by decide +kernel
theorem dX3_partsOn_3 : decode cX3_partsOn 3 = .ok (.iconst 0, 1) := by decide +kernel
theorem dX3_partsOn_4 : decode cX3_partsOn 4 = .ok (.istore 6, 2) := by decide +kernel
theorem dX3_partsOn_6 : decode cX3_partsOn 6 = .ok (.iload 6, 2) := by decide +kernel
theorem dX3_partsOn_8 : decode cX3_partsOn 8 = .ok (.iload_n 3, 1) := by decide +kernel
theorem dX3_partsOn_9 : decode cX3_partsOn 9 = .ok (.if_icmp .ge 30, 3) := by decide +kernel
theorem dX3_partsOn_12 : decode cX3_partsOn 12 = .ok (.ldc2_w 42, 3) := by decide +kernel
theorem dX3_partsOn_15 : decode cX3_partsOn 15 = .ok (.lload 4, 2) := by decide +kernel
theorem dX3_partsOn_17 : decode cX3_partsOn 17 = .ok (.aload_n 0, 1) := by decide +kernel
theorem dX3_partsOn_18 : decode cX3_partsOn 18 = .ok (.iload_n 1, 1) := by decide +kernel
theorem dX3_partsOn_19 : decode cX3_partsOn 19 = .ok (.iload_n 2, 1) := by decide +kernel
theorem dX3_partsOn_20 : decode cX3_partsOn 20 = .ok (.iconst 1, 1) := by decide +kernel
theorem dX3_partsOn_21 : decode cX3_partsOn 21 = .ok (.invokevirtual 44, 3) := by decide +kernel
theorem dX3_partsOn_24 : decode cX3_partsOn 24 = .ok (.ladd, 1) := by decide +kernel
theorem dX3_partsOn_25 : decode cX3_partsOn 25 = .ok (.lmul, 1) := by decide +kernel
theorem dX3_partsOn_26 : decode cX3_partsOn 26 = .ok (.lstore 4, 2) := by decide +kernel
theorem dX3_partsOn_28 : decode cX3_partsOn 28 = .ok (.aload_n 0, 1) := by decide +kernel
theorem dX3_partsOn_29 : decode cX3_partsOn 29 = .ok (.iconst 1, 1) := by decide +kernel
theorem dX3_partsOn_30 : decode cX3_partsOn 30 = .ok (.invokevirtual 38, 3) := by decide +kernel
theorem dX3_partsOn_33 : decode cX3_partsOn 33 = .ok (.iinc 6 1, 3) := by decide +kernel
theorem dX3_partsOn_36 : decode cX3_partsOn 36 = .ok (.goto (-30), 3) := by decide +kernel
theorem dX3_partsOn_39 : decode cX3_partsOn 39 = .ok (.lload 4, 2) := by decide +kernel
theorem dX3_partsOn_41 : decode cX3_partsOn 41 = .ok (.aload_n 0, 1) := by decide +kernel
theorem dX3_partsOn_42 : decode cX3_partsOn 42 = .ok (.iload_n 1, 1) := by decide +kernel
theorem dX3_partsOn_43 : decode cX3_partsOn 43 = .ok (.iload_n 2, 1) := by decide +kernel
theorem dX3_partsOn_44 : decode cX3_partsOn 44 = .ok (.iconst 0, 1) := by decide +kernel
theorem dX3_partsOn_45 : decode cX3_partsOn 45 = .ok (.invokevirtual 44, 3) := by decide +kernel
theorem dX3_partsOn_48 : decode cX3_partsOn 48 = .ok (.ladd, 1) := by decide +kernel
theorem dX3_partsOn_49 : decode cX3_partsOn 49 = .ok (.lreturn, 1) := by decide +kernel
def L_X3_partsOn_6 (N : Nat) (v0 : Nat) (v1 : Int32) (v2 : Int32) (v3 : Int32) : Nat → Hp → Int64 → Int32 → Option (Int64 × Hp)
  | 0, _, _, _ => none
  | n + 1, σ, v4, v6 =>
  if v3 ≤ v6 then
   some (v4, σ)
  else
   (m_X3_weightsOn N σ v0 v1 v2 1).bind fun r2 =>
  lt ((60 : Int64) * (v4 + r2.1)) fun y3 =>
  (m_X3_goOn N r2.2 v0 1).bind fun r4 =>
  L_X3_partsOn_6 N v0 v1 v2 v3 n r4 y3 (v6 + 1)
def m_X3_partsOn (N : Nat) (σ : Hp) (t0 : Nat) (p1 : Int32) (p2 : Int32) (p3 : Int32) : Option (Int64 × Hp) :=
  (rv N σ t0 3).bind fun _ =>
  (L_X3_partsOn_6 N t0 p1 p2 p3 fu σ 0 0).bind fun z5 =>
  (m_X3_weightsOn N z5.2 t0 p1 p2 0).bind fun r6 =>
  some (z5.1 + r6.1, r6.2)
set_option maxHeartbeats 4000000 in
set_option maxRecDepth 100000 in
theorem lp_X3_partsOn_6 {κ : Kx} {ω : Om} (C : Cx κ 7 5 cX3_partsOn RX3 "partsOn") (Z : Zx κ ω) (v0 : Nat) (v1 : Int32) (v2 : Int32) (v3 : Int32) {r : Int64 × Hp} (hk : X κ 7 ω 39 [some (.ref v0), some (.int v1), some (.int v2), none, some (.long r.1), none, none] [] r.2) : ∀ (n : Nat) (σ : Hp) (v4 : Int64) (v6 : Int32), L_X3_partsOn_6 ω.1 v0 v1 v2 v3 n σ v4 v6 = some r → X κ 7 ω 6 [some (.ref v0), some (.int v1), some (.int v2), some (.int v3), some (.long v4), none, some (.int v6)] [] σ := by
  intro n
  induction n with
  | zero => intro σ v4 v6 h; cases h
  | succ n ih =>
    intro σ v4 v6 h
    rw [L_X3_partsOn_6.eq_2] at h
    refine x_iload C (i := 6) dX3_partsOn_6 rfl ?_
    refine x_iload_n C (i := 3) dX3_partsOn_8 rfl rfl ?_
    refine x_icmp_ge C (tgt := 39) dX3_partsOn_9 (by decide) (fun c1 => ?_) (fun c1 => ?_)
    · have h := ifP h c1
      refine x_wk [true, true, true, false, true, false, false] (lo' := [some (.ref v0), some (.int v1), some (.int v2), none, some (.long v4), none, none]) rfl ?_
      obtain rfl := Option.some.inj h
      exact hk
    · have h := ifN h c1
      refine x_ldc2 C kj_X3_42 dX3_partsOn_12 ?_
      refine x_lload C (i := 4) dX3_partsOn_15 rfl ?_
      refine x_aload_n C (i := 0) dX3_partsOn_17 rfl rfl ?_
      refine x_iload_n C (i := 1) dX3_partsOn_18 rfl rfl ?_
      refine x_iload_n C (i := 2) dX3_partsOn_19 rfl rfl ?_
      refine x_iconst C (v := 1) dX3_partsOn_20 (by decide) ?_
      obtain ⟨r2, er2, h⟩ := ob h
      refine x_callVr C Z mv_X3_weightsOn lk_X3_44 (rv_h er2) (ct_X3_weightsOn er2) (by decide) rfl rfl (Nat.le_of_ble_eq_true rfl) dX3_partsOn_21 ?_
      refine x_ladd C dX3_partsOn_24 ?_
      refine x_lmul C dX3_partsOn_25 ?_
      refine x_topl (fun y3 ey3 => ?_)
      have h := lt_e h ey3
      refine x_lstore C (i := 4) (lo' := [some (.ref v0), some (.int v1), some (.int v2), some (.int v3), some (.long y3), none, some (.int v6)]) dX3_partsOn_26 (by decide) rfl rfl ?_
      refine x_aload_n C (i := 0) dX3_partsOn_28 rfl rfl ?_
      refine x_iconst C (v := 1) dX3_partsOn_29 (by decide) ?_
      obtain ⟨r4, er4, h⟩ := ob h
      refine x_callVn C Z mv_X3_goOn lk_X3_38 (rv_h er4) (ct_X3_goOn er4) (by decide) rfl rfl (Nat.le_of_ble_eq_true rfl) dX3_partsOn_30 ?_
      refine x_iinc C (i := 6) (y := v6 + 1) (lo' := [some (.ref v0), some (.int v1), some (.int v2), some (.int v3), some (.long y3), none, some (.int (v6 + 1))]) dX3_partsOn_33 rfl rfl (by decide) rfl rfl ?_
      refine x_goto C (tgt := 6) dX3_partsOn_36 (by decide) ?_
      refine x_wk [true, true, true, true, true, false, true] (lo' := [some (.ref v0), some (.int v1), some (.int v2), some (.int v3), some (.long y3), none, some (.int (v6 + 1))]) rfl ?_
      exact ih r4 y3 (v6 + 1) h
set_option maxHeartbeats 4000000 in
set_option maxRecDepth 100000 in
theorem ct_X3_partsOn {l : Launch} {D : va_G} {cy : Nat → Nat} {N : Nat} {σ : Hp} {t0 : Nat} {p1 : Int32} {p2 : Int32} {p3 : Int32} {r : Int64 × Hp} (h : m_X3_partsOn N σ t0 p1 p2 p3 = some r) : Ct l D cy yX3_partsOn cX3_partsOn 7 (some .long) 5 [.ref t0, .int p1, .int p2, .int p3] N σ (fun v s' => v = (some (.long r.1)) ∧ s' = r.2) := by
  refine Ct.intro [some (.ref t0), some (.int p1), some (.int p2), some (.int p3), none, none, none] (by decide) rfl (Nat.le_of_ble_eq_true rfl) ?_
  intro κ ω e1 e2 e3 e4 C Z E
  subst e1; subst e2; subst e3; subst e4
  have C : Cx κ 7 5 cX3_partsOn RX3 "partsOn" := C
  have hE : ∀ x : Int64 × Hp, r = x → ((some (Value.long x.1)) = (some (Value.long r.1)) ∧ x.2 = r.2) := fun x hx => by subst hx; exact ⟨rfl, rfl⟩
  unfold m_X3_partsOn at h
  obtain ⟨_, _, h⟩ := ob h
  refine x_lconst C (v := 0) dX3_partsOn_0 (by decide) ?_
  refine x_lstore C (i := 4) (lo' := [some (.ref t0), some (.int p1), some (.int p2), some (.int p3), some (.long 0), none, none]) dX3_partsOn_1 (by decide) rfl rfl ?_
  refine x_iconst C (v := 0) dX3_partsOn_3 (by decide) ?_
  refine x_istore C (i := 6) (lo' := [some (.ref t0), some (.int p1), some (.int p2), some (.int p3), some (.long 0), none, some (.int 0)]) dX3_partsOn_4 (by decide) rfl rfl ?_
  obtain ⟨z5, ez5, h⟩ := ob h
  refine x_wk [true, true, true, true, true, false, true] (lo' := [some (.ref t0), some (.int p1), some (.int p2), some (.int p3), some (.long 0), none, some (.int 0)]) rfl ?_
  refine lp_X3_partsOn_6 C Z t0 p1 p2 p3 ?_ _ σ 0 0 ez5
  refine x_lload C (i := 4) dX3_partsOn_39 rfl ?_
  refine x_aload_n C (i := 0) dX3_partsOn_41 rfl rfl ?_
  refine x_iload_n C (i := 1) dX3_partsOn_42 rfl rfl ?_
  refine x_iload_n C (i := 2) dX3_partsOn_43 rfl rfl ?_
  refine x_iconst C (v := 0) dX3_partsOn_44 (by decide) ?_
  obtain ⟨r6, er6, h⟩ := ob h
  refine x_callVr C Z mv_X3_weightsOn lk_X3_44 (rv_h er6) (ct_X3_weightsOn er6) (by decide) rfl rfl (Nat.le_of_ble_eq_true rfl) dX3_partsOn_45 ?_
  refine x_ladd C dX3_partsOn_48 ?_
  exact x_lret C E dX3_partsOn_49 (hE (z5.1 + r6.1, r6.2) (Option.some.inj h).symm)
theorem dX3_partsOfAll_0 : decode cX3_partsOfAll 0 = .ok (.lconst 1, 1) := by decide +kernel
theorem dX3_partsOfAll_1 : decode cX3_partsOfAll 1 = .ok (.lstore_n 2, 1) := by decide +kernel
theorem dX3_partsOfAll_2 : decode cX3_partsOfAll 2 = .ok (.iconst 0, 1) := by decide +kernel
theorem dX3_partsOfAll_3 : decode cX3_partsOfAll 3 = .ok (.istore 4, 2) := by decide +kernel
theorem dX3_partsOfAll_5 : decode cX3_partsOfAll 5 = .ok (.iload 4, 2) := by decide +kernel
theorem dX3_partsOfAll_7 : decode cX3_partsOfAll 7 = .ok (.iload_n 1, 1) := by decide +kernel
theorem dX3_partsOfAll_8 : decode cX3_partsOfAll 8 = .ok (.if_icmp .ge 15, 3) := by decide +kernel
theorem dX3_partsOfAll_11 : decode cX3_partsOfAll 11 = .ok (.lload_n 2, 1) := by decide +kernel
theorem dX3_partsOfAll_12 : decode cX3_partsOfAll 12 = .ok (.ldc2_w 42, 3) := by decide +kernel
theorem dX3_partsOfAll_15 : decode cX3_partsOfAll 15 = .ok (.lmul, 1) := by decide +kernel
theorem dX3_partsOfAll_16 : decode cX3_partsOfAll 16 = .ok (.lstore_n 2, 1) := by decide +kernel
theorem dX3_partsOfAll_17 : decode cX3_partsOfAll 17 = .ok (.iinc 4 1, 3) := by decide +kernel
theorem dX3_partsOfAll_20 : decode cX3_partsOfAll 20 = .ok (.goto (-15), 3) := by decide +kernel
theorem dX3_partsOfAll_23 : decode cX3_partsOfAll 23 = .ok (.lload_n 2, 1) := by decide +kernel
theorem dX3_partsOfAll_24 : decode cX3_partsOfAll 24 = .ok (.lreturn, 1) := by decide +kernel
def L_X3_partsOfAll_5 (N : Nat) (σ : Hp) (v1 : Int32) : Nat → Int64 → Int32 → Option (Int64)
  | 0, _, _ => none
  | n + 1, v2, v4 =>
  if v1 ≤ v4 then
   some v2
  else
   L_X3_partsOfAll_5 N σ v1 n (v2 * 60) (v4 + 1)
def m_X3_partsOfAll (N : Nat) (σ : Hp) (t0 : Nat) (p1 : Int32) : Option (Int64) :=
  (rv N σ t0 3).bind fun _ =>
  (L_X3_partsOfAll_5 N σ p1 fu 1 0).bind fun z2 =>
  some z2
set_option maxHeartbeats 4000000 in
set_option maxRecDepth 100000 in
theorem lp_X3_partsOfAll_5 {κ : Kx} {ω : Om} (C : Cx κ 5 0 cX3_partsOfAll RX3 "partsOfAll") (Z : Zx κ ω) (σ : Hp) (v1 : Int32) {r : Int64} (hk : X κ 5 ω 23 [none, none, some (.long r), none, none] [] σ) : ∀ (n : Nat) (v2 : Int64) (v4 : Int32), L_X3_partsOfAll_5 ω.1 σ v1 n v2 v4 = some r → X κ 5 ω 5 [none, some (.int v1), some (.long v2), none, some (.int v4)] [] σ := by
  intro n
  induction n with
  | zero => intro v2 v4 h; cases h
  | succ n ih =>
    intro v2 v4 h
    rw [L_X3_partsOfAll_5.eq_2] at h
    refine x_iload C (i := 4) dX3_partsOfAll_5 rfl ?_
    refine x_iload_n C (i := 1) dX3_partsOfAll_7 rfl rfl ?_
    refine x_icmp_ge C (tgt := 23) dX3_partsOfAll_8 (by decide) (fun c1 => ?_) (fun c1 => ?_)
    · have h := ifP h c1
      refine x_wk [false, false, true, false, false] (lo' := [none, none, some (.long v2), none, none]) rfl ?_
      obtain rfl := Option.some.inj h
      exact hk
    · have h := ifN h c1
      refine x_lload_n C (i := 2) dX3_partsOfAll_11 rfl rfl ?_
      refine x_ldc2 C kj_X3_42 dX3_partsOfAll_12 ?_
      refine x_lmul C dX3_partsOfAll_15 ?_
      refine x_lstore_n C (i := 2) (lo' := [none, some (.int v1), some (.long (v2 * 60)), none, some (.int v4)]) dX3_partsOfAll_16 rfl (by decide) rfl rfl ?_
      refine x_iinc C (i := 4) (y := v4 + 1) (lo' := [none, some (.int v1), some (.long (v2 * 60)), none, some (.int (v4 + 1))]) dX3_partsOfAll_17 rfl rfl (by decide) rfl rfl ?_
      refine x_goto C (tgt := 5) dX3_partsOfAll_20 (by decide) ?_
      refine x_wk [false, true, true, false, true] (lo' := [none, some (.int v1), some (.long (v2 * 60)), none, some (.int (v4 + 1))]) rfl ?_
      exact ih (v2 * 60) (v4 + 1) h
set_option maxHeartbeats 4000000 in
set_option maxRecDepth 100000 in
theorem ct_X3_partsOfAll {l : Launch} {D : va_G} {cy : Nat → Nat} {N : Nat} {σ : Hp} {t0 : Nat} {p1 : Int32} {r : Int64} (h : m_X3_partsOfAll N σ t0 p1 = some r) : Ct l D cy yX3_partsOfAll cX3_partsOfAll 5 (some .long) 0 [.ref t0, .int p1] N σ (fun v s' => v = (some (.long r)) ∧ s' = σ) := by
  refine Ct.intro [some (.ref t0), some (.int p1), none, none, none] (by decide) rfl (Nat.le_of_ble_eq_true rfl) ?_
  intro κ ω e1 e2 e3 e4 C Z E
  subst e1; subst e2; subst e3; subst e4
  have C : Cx κ 5 0 cX3_partsOfAll RX3 "partsOfAll" := C
  have hE : ∀ x : Int64, r = x → ((some (Value.long x)) = (some (Value.long r)) ∧ σ = σ) := fun x hx => by subst hx; exact ⟨rfl, rfl⟩
  unfold m_X3_partsOfAll at h
  obtain ⟨_, _, h⟩ := ob h
  refine x_lconst C (v := 1) dX3_partsOfAll_0 (by decide) ?_
  refine x_lstore_n C (i := 2) (lo' := [some (.ref t0), some (.int p1), some (.long 1), none, none]) dX3_partsOfAll_1 rfl (by decide) rfl rfl ?_
  refine x_iconst C (v := 0) dX3_partsOfAll_2 (by decide) ?_
  refine x_istore C (i := 4) (lo' := [some (.ref t0), some (.int p1), some (.long 1), none, some (.int 0)]) dX3_partsOfAll_3 (by decide) rfl rfl ?_
  obtain ⟨z2, ez2, h⟩ := ob h
  refine x_wk [false, true, true, false, true] (lo' := [none, some (.int p1), some (.long 1), none, some (.int 0)]) rfl ?_
  refine lp_X3_partsOfAll_5 C Z σ p1 ?_ _ 1 0 ez2
  refine x_lload_n C (i := 2) dX3_partsOfAll_23 rfl rfl ?_
  exact x_lret C E dX3_partsOfAll_24 (hE z2 (Option.some.inj h).symm)
theorem dX4_init_0 : decode cX4_init 0 = .ok (.aload_n 0, 1) := by decide +kernel
theorem dX4_init_1 : decode cX4_init 1 = .ok (.invokespecial 3, 3) := by decide +kernel
theorem dX4_init_4 : decode cX4_init 4 = .ok (.aload_n 0, 1) := by decide +kernel
theorem dX4_init_5 : decode cX4_init 5 = .ok (.new 9, 3) := by decide +kernel
theorem dX4_init_8 : decode cX4_init 8 = .ok (.dup, 1) := by decide +kernel
theorem dX4_init_9 : decode cX4_init 9 = .ok (.invokespecial 11, 3) := by decide +kernel
theorem dX4_init_12 : decode cX4_init 12 = .ok (.putfield 12, 3) := by decide +kernel
theorem dX4_init_15 : decode cX4_init 15 = .ok (.aload_n 0, 1) := by decide +kernel
theorem dX4_init_16 : decode cX4_init 16 = .ok (.sipush 8192, 3) := by decide +kernel
theorem dX4_init_19 : decode cX4_init 19 = .ok (.newarray .int, 2) := by decide +kernel
theorem dX4_init_21 : decode cX4_init 21 = .ok (.putfield 18, 3) := by decide +kernel
theorem dX4_init_24 : decode cX4_init 24 = .ok (.return_, 1) := by decide +kernel
noncomputable def m_X4_init (N : Nat) (σ : Hp) (t0 : Nat) : Option (Nat × Hp) :=
  (al N σ [t0, t0] (0 + 1) (0 + 6) 2 8198).bind fun u1 =>
  (mkc σ N (.inr (2, [.int 0, .int 0, .int 0, .int 0, .int 0, .int 0]))).bind fun σ2 =>
  (al (N + 1) σ2 [t0, N, t0] (0 + 1 + 0) (0 + 6 + 0) 2 8198).bind fun u3 =>
  (m_X2_init (N + 1) σ2 N).bind fun r5 =>
  (nb r5.1).bind fun u4 =>
  (pV r5.1 r5.2 t0 4 0 (.ref N)).bind fun σ6 =>
  (al r5.1 σ6 [t0, t0] (0 + 1 + 0 + 1) (0 + 6 + 0 + 8192) 2 8198).bind fun u7 =>
  (mkc σ6 r5.1 (.inl (0, 8192, .inl (fun _ => 0)))).bind fun σ8 =>
  (pV (r5.1 + 1) σ8 t0 4 1 (.ref r5.1)).bind fun σ9 =>
  some (r5.1 + 1, σ9)
set_option maxHeartbeats 4000000 in
set_option maxRecDepth 100000 in
theorem ct_X4_init {l : Launch} {D : va_G} {cy : Nat → Nat} {N : Nat} {σ : Hp} {t0 : Nat} {r : Nat × Hp} (h : m_X4_init N σ t0 = some r) : CtA l D cy yX4_init cX4_init 1 none 2 2 8198 [.ref t0] N σ (fun v n' s' => v = none ∧ n' = r.1 ∧ s' = r.2) := by
  refine CtA.intro [some (.ref t0)] (by decide) rfl (Nat.le_of_ble_eq_true rfl) ?_
  intro κ ad0 e1 e2 e3 hRc hRs C Z E
  subst e1; subst e2; subst e3
  have C : Cx κ 1 2 cX4_init RX4 "<init>" := C
  have G := Ag.rf N ad0 0 0
  have hE : ∀ x : Nat × Hp, r = x → ((none : Option Value) = (none : Option Value) ∧ x.1 = r.1 ∧ x.2 = r.2) := fun x hx => by subst hx; exact ⟨rfl, rfl, rfl⟩
  unfold m_X4_init at h
  refine x_aload_n C (i := 0) dX4_init_0 rfl rfl ?_
  refine x_objInit C (by decide) oi_X4 oi_inst oi_code (Nat.le_of_ble_eq_true rfl) dX4_init_1 ?_
  refine x_aload_n C (i := 0) dX4_init_4 rfl rfl ?_
  obtain ⟨u1, eu1, h⟩ := ob h
  obtain ⟨σ2, eσ2, h⟩ := ob h
  refine g_new C Z G hRc hRs nw_X4_9 eu1 rfl eσ2 dX4_init_5 (fun ad Z G => ?_)
  refine x_dup C dX4_init_8 rfl ?_
  obtain ⟨u3, eu3, h⟩ := ob h
  obtain ⟨r5, er5, h⟩ := ob h
  obtain ⟨u4, eu4, h⟩ := ob h
  refine g_callI C Z G hRc hRs mi_X2_init lk_X4_11 (ct_X2_init er5) (by decide) rfl rfl (Nat.le_of_ble_eq_true rfl) eu3 rfl eu4 dX4_init_9 (fun ad Z G => ?_)
  obtain ⟨σ6, eσ6, h⟩ := ob h
  refine x_putF C pf_X4_12 dX4_init_12 (fun _ => ⟨rfl, rfl⟩) eσ6 ?_
  refine x_aload_n C (i := 0) dX4_init_15 rfl rfl ?_
  refine x_sipush C (v := 8192) dX4_init_16 (by decide) ?_
  obtain ⟨u7, eu7, h⟩ := ob h
  obtain ⟨σ8, eσ8, h⟩ := ob h
  refine g_newI C Z G hRc hRs 8192 wa_int (by decide) (by decide) (by decide) eu7 rfl eσ8 dX4_init_19 (fun ad Z G => ?_)
  obtain ⟨σ9, eσ9, h⟩ := ob h
  refine x_putF C pf_X4_18 dX4_init_21 (fun _ => ⟨rfl, rfl⟩) eσ9 ?_
  exact x_vretA C E G ⟨hRc ▸ Z.1.1, hRs ▸ Z.1.2⟩ dX4_init_24 (hE (r5.1 + 1, σ9) (Option.some.inj h).symm)
theorem dJ7_fill_53178_0 : decode cJ7_fill_53178 0 = .ok (.iconst 0, 1) := by decide +kernel
theorem dJ7_fill_53178_1 : decode cJ7_fill_53178 1 = .ok (.istore_n 2, 1) := by decide +kernel
theorem dJ7_fill_53178_2 : decode cJ7_fill_53178 2 = .ok (.aload_n 0, 1) := by decide +kernel
theorem dJ7_fill_53178_3 : decode cJ7_fill_53178 3 = .ok (.arraylength, 1) := by decide +kernel
theorem dJ7_fill_53178_4 : decode cJ7_fill_53178 4 = .ok (.istore_n 3, 1) := by decide +kernel
theorem dJ7_fill_53178_5 : decode cJ7_fill_53178 5 = .ok (.iload_n 2, 1) := by decide +kernel
theorem dJ7_fill_53178_6 : decode cJ7_fill_53178 6 = .ok (.iload_n 3, 1) := by decide +kernel
theorem dJ7_fill_53178_7 : decode cJ7_fill_53178 7 = .ok (.if_icmp .ge 13, 3) := by decide +kernel
theorem dJ7_fill_53178_10 : decode cJ7_fill_53178 10 = .ok (.aload_n 0, 1) := by decide +kernel
theorem dJ7_fill_53178_11 : decode cJ7_fill_53178 11 = .ok (.iload_n 2, 1) := by decide +kernel
theorem dJ7_fill_53178_12 : decode cJ7_fill_53178 12 = .ok (.iload_n 1, 1) := by decide +kernel
theorem dJ7_fill_53178_13 : decode cJ7_fill_53178 13 = .ok (.iastore, 1) := by decide +kernel
theorem dJ7_fill_53178_14 : decode cJ7_fill_53178 14 = .ok (.iinc 2 1, 3) := by decide +kernel
theorem dJ7_fill_53178_17 : decode cJ7_fill_53178 17 = .ok (.goto (-12), 3) := by decide +kernel
theorem dJ7_fill_53178_20 : decode cJ7_fill_53178 20 = .ok (.return_, 1) := by decide +kernel
def L_J7_fill_53178_5 (N : Nat) (v0 : Nat) (v1 : Int32) (v3 : Int32) : Nat → Hp → Int32 → Option (Hp)
  | 0, _, _ => none
  | n + 1, σ, v2 =>
  if v3 ≤ v2 then
   some σ
  else
   (sI 0 N σ v0 v2 v1).bind fun σ3 =>
  L_J7_fill_53178_5 N v0 v1 v3 n σ3 (v2 + 1)
def m_J7_fill_53178 (N : Nat) (σ : Hp) (p0 : Nat) (p1 : Int32) : Option (Hp) :=
  (aN N σ p0).bind fun x1 =>
  (L_J7_fill_53178_5 N p0 p1 (nI x1) fu σ 0).bind fun z4 =>
  some z4
set_option maxHeartbeats 4000000 in
set_option maxRecDepth 100000 in
theorem lp_J7_fill_53178_5 {κ : Kx} {ω : Om} (C : Cx κ 4 0 cJ7_fill_53178 RJ7 "fill") (Z : Zx κ ω) (v0 : Nat) (v1 : Int32) (v3 : Int32) {r : Hp} (hk : X κ 4 ω 20 [none, none, none, none] [] r) : ∀ (n : Nat) (σ : Hp) (v2 : Int32), L_J7_fill_53178_5 ω.1 v0 v1 v3 n σ v2 = some r → X κ 4 ω 5 [some (.ref v0), some (.int v1), some (.int v2), some (.int v3)] [] σ := by
  intro n
  induction n with
  | zero => intro σ v2 h; cases h
  | succ n ih =>
    intro σ v2 h
    rw [L_J7_fill_53178_5.eq_2] at h
    refine x_iload_n C (i := 2) dJ7_fill_53178_5 rfl rfl ?_
    refine x_iload_n C (i := 3) dJ7_fill_53178_6 rfl rfl ?_
    refine x_icmp_ge C (tgt := 20) dJ7_fill_53178_7 (by decide) (fun c2 => ?_) (fun c2 => ?_)
    · have h := ifP h c2
      refine x_wk [false, false, false, false] (lo' := [none, none, none, none]) rfl ?_
      obtain rfl := Option.some.inj h
      exact hk
    · have h := ifN h c2
      refine x_aload_n C (i := 0) dJ7_fill_53178_10 rfl rfl ?_
      refine x_iload_n C (i := 2) dJ7_fill_53178_11 rfl rfl ?_
      refine x_iload_n C (i := 1) dJ7_fill_53178_12 rfl rfl ?_
      obtain ⟨σ3, eσ3, h⟩ := ob h
      refine x_iast C dJ7_fill_53178_13 eσ3 ?_
      refine x_iinc C (i := 2) (y := v2 + 1) (lo' := [some (.ref v0), some (.int v1), some (.int (v2 + 1)), some (.int v3)]) dJ7_fill_53178_14 rfl rfl (by decide) rfl rfl ?_
      refine x_goto C (tgt := 5) dJ7_fill_53178_17 (by decide) ?_
      refine x_wk [true, true, true, true] (lo' := [some (.ref v0), some (.int v1), some (.int (v2 + 1)), some (.int v3)]) rfl ?_
      exact ih σ3 (v2 + 1) h
set_option maxHeartbeats 4000000 in
set_option maxRecDepth 100000 in
theorem ct_J7_fill_53178 {l : Launch} {D : va_G} {cy : Nat → Nat} {N : Nat} {σ : Hp} {p0 : Nat} {p1 : Int32} {r : Hp} (h : m_J7_fill_53178 N σ p0 p1 = some r) : Ct l D cy yJ7_fill_53178 cJ7_fill_53178 4 none 0 [.ref p0, .int p1] N σ (fun v s' => v = none ∧ s' = r) := by
  refine Ct.intro [some (.ref p0), some (.int p1), none, none] (by decide) rfl (Nat.le_of_ble_eq_true rfl) ?_
  intro κ ω e1 e2 e3 e4 C Z E
  subst e1; subst e2; subst e3; subst e4
  have C : Cx κ 4 0 cJ7_fill_53178 RJ7 "fill" := C
  have hE : ∀ x : Hp, r = x → ((none : Option Value) = none ∧ x = r) := fun x hx => by subst hx; exact ⟨rfl, rfl⟩
  unfold m_J7_fill_53178 at h
  refine x_iconst C (v := 0) dJ7_fill_53178_0 (by decide) ?_
  refine x_istore_n C (i := 2) (lo' := [some (.ref p0), some (.int p1), some (.int 0), none]) dJ7_fill_53178_1 rfl (by decide) rfl rfl ?_
  refine x_aload_n C (i := 0) dJ7_fill_53178_2 rfl rfl ?_
  obtain ⟨x1, ex1, h⟩ := ob h
  refine x_alen C dJ7_fill_53178_3 ex1 ?_
  refine x_istore_n C (i := 3) (lo' := [some (.ref p0), some (.int p1), some (.int 0), some (.int (nI x1))]) dJ7_fill_53178_4 rfl (by decide) rfl rfl ?_
  obtain ⟨z4, ez4, h⟩ := ob h
  refine x_wk [true, true, true, true] (lo' := [some (.ref p0), some (.int p1), some (.int 0), some (.int (nI x1))]) rfl ?_
  refine lp_J7_fill_53178_5 C Z p0 p1 (nI x1) ?_ _ σ 0 ez4
  exact x_vret C E dJ7_fill_53178_20 (hE z4 (Option.some.inj h).symm)
theorem dX4_lookAt_0 : decode cX4_lookAt 0 = .ok (.aload_n 0, 1) := by decide +kernel
theorem dX4_lookAt_1 : decode cX4_lookAt 1 = .ok (.getfield 12, 3) := by decide +kernel
theorem dX4_lookAt_4 : decode cX4_lookAt 4 = .ok (.aload_n 1, 1) := by decide +kernel
theorem dX4_lookAt_5 : decode cX4_lookAt 5 = .ok (.invokevirtual 22, 3) := by decide +kernel
theorem dX4_lookAt_8 : decode cX4_lookAt 8 = .ok (.ifCond .ne 29, 3) := by decide +kernel
theorem dX4_lookAt_11 : decode cX4_lookAt 11 = .ok (.aload_n 0, 1) := by decide +kernel
theorem dX4_lookAt_12 : decode cX4_lookAt 12 = .ok (.getfield 18, 3) := by decide +kernel
theorem dX4_lookAt_15 : decode cX4_lookAt 15 = .ok (.iconst (-1), 1) := by decide +kernel
theorem dX4_lookAt_16 : decode cX4_lookAt 16 = .ok (.invokestatic 26, 3) := by decide +kernel
theorem dX4_lookAt_19 : decode cX4_lookAt 19 = .ok (.aload_n 0, 1) := by decide +kernel
theorem dX4_lookAt_20 : decode cX4_lookAt 20 = .ok (.aload_n 1, 1) := by decide +kernel
theorem dX4_lookAt_21 : decode cX4_lookAt 21 = .ok (.invokevirtual 32, 3) := by decide +kernel
theorem dX4_lookAt_24 : decode cX4_lookAt 24 = .ok (.ifCond .eq 9, 3) := by decide +kernel
theorem dX4_lookAt_27 : decode cX4_lookAt 27 = .ok (.sipush 4096, 3) := by decide +kernel
theorem dX4_lookAt_30 : decode cX4_lookAt 30 = .ok (.goto 4, 3) := by decide +kernel
theorem dX4_lookAt_33 : decode cX4_lookAt 33 = .ok (.iconst 0, 1) := by decide +kernel
theorem dX4_lookAt_34 : decode cX4_lookAt 34 = .ok (.putfield 36, 3) := by decide +kernel
theorem dX4_lookAt_37 : decode cX4_lookAt 37 = .ok (.aload_n 0, 1) := by decide +kernel
theorem dX4_lookAt_38 : decode cX4_lookAt 38 = .ok (.getfield 12, 3) := by decide +kernel
theorem dX4_lookAt_41 : decode cX4_lookAt 41 = .ok (.aload_n 1, 1) := by decide +kernel
theorem dX4_lookAt_42 : decode cX4_lookAt 42 = .ok (.invokevirtual 40, 3) := by decide +kernel
theorem dX4_lookAt_45 : decode cX4_lookAt 45 = .ok (.return_, 1) := by decide +kernel
def m_X4_lookAt (N : Nat) (σ : Hp) (t0 : Nat) (p1 : Nat) : Option (Hp) :=
  (rv N σ t0 4).bind fun _ =>
  (gR N σ t0 4 0).bind fun x1 =>
  (m_X2_hasLawOf N σ x1 p1).bind fun r2 =>
  ((if r2 = 0 then
   (gR N σ t0 4 1).bind fun x9 =>
  (m_J7_fill_53178 N σ x9 (-1)).bind fun r10 =>
  (m_X2_hasFrail N r10 p1).bind fun r11 =>
  ((if r11 = 0 then
   some 0
  else
   some 4096) : Option (Int32)).bind fun z12 =>
  (pV N r10 t0 4 2 (.int z12)).bind fun σ13 =>
  some σ13
  else
   some σ) : Option (Hp)).bind fun z3 =>
  (gR N z3 t0 4 0).bind fun x4 =>
  (m_X2_take N z3 x4 p1).bind fun r5 =>
  some r5
set_option maxHeartbeats 4000000 in
set_option maxRecDepth 100000 in
theorem ct_X4_lookAt {l : Launch} {D : va_G} {cy : Nat → Nat} {N : Nat} {σ : Hp} {t0 : Nat} {p1 : Nat} {r : Hp} (h : m_X4_lookAt N σ t0 p1 = some r) : Ct l D cy yX4_lookAt cX4_lookAt 2 none 2 [.ref t0, .ref p1] N σ (fun v s' => v = none ∧ s' = r) := by
  refine Ct.intro [some (.ref t0), some (.ref p1)] (by decide) rfl (Nat.le_of_ble_eq_true rfl) ?_
  intro κ ω e1 e2 e3 e4 C Z E
  subst e1; subst e2; subst e3; subst e4
  have C : Cx κ 2 2 cX4_lookAt RX4 "lookAt" := C
  have hE : ∀ x : Hp, r = x → ((none : Option Value) = none ∧ x = r) := fun x hx => by subst hx; exact ⟨rfl, rfl⟩
  unfold m_X4_lookAt at h
  obtain ⟨_, _, h⟩ := ob h
  refine x_aload_n C (i := 0) dX4_lookAt_0 rfl rfl ?_
  obtain ⟨x1, ex1, h⟩ := ob h
  refine x_getR C fl_X4_12 dX4_lookAt_1 ex1 ?_
  refine x_aload_n C (i := 1) dX4_lookAt_4 rfl rfl ?_
  obtain ⟨r2, er2, h⟩ := ob h
  refine x_callVr C Z mv_X2_hasLawOf lk_X4_22 (rv_h er2) (ct_X2_hasLawOf er2) (by decide) rfl rfl (Nat.le_of_ble_eq_true rfl) dX4_lookAt_5 ?_
  obtain ⟨z3, hz3, h⟩ := ob h
  have hJ6 : X κ 2 ω 37 [some (.ref t0), some (.ref p1)] [] z3 := by
    refine x_aload_n C (i := 0) dX4_lookAt_37 rfl rfl ?_
    obtain ⟨x4, ex4, h⟩ := ob h
    refine x_getR C fl_X4_12 dX4_lookAt_38 ex4 ?_
    refine x_aload_n C (i := 1) dX4_lookAt_41 rfl rfl ?_
    obtain ⟨r5, er5, h⟩ := ob h
    refine x_callVn C Z mv_X2_take lk_X4_40 (rv_h er5) (ct_X2_take er5) (by decide) rfl rfl (Nat.le_of_ble_eq_true rfl) dX4_lookAt_42 ?_
    exact x_vret C E dX4_lookAt_45 (hE r5 (Option.some.inj h).symm)
  clear h
  have h := hz3
  refine x_if_ne C (tgt := 37) dX4_lookAt_8 (by decide) (fun c8 => ?_) (fun c8 => ?_)
  · have h := ifN h c8
    refine x_wk [true, true] (lo' := [some (.ref t0), some (.ref p1)]) rfl ?_
    obtain rfl := Option.some.inj h
    exact hJ6
  · have h := ifP h c8
    refine x_aload_n C (i := 0) dX4_lookAt_11 rfl rfl ?_
    obtain ⟨x9, ex9, h⟩ := ob h
    refine x_getR C fl_X4_18 dX4_lookAt_12 ex9 ?_
    refine x_iconst C (v := (-1)) dX4_lookAt_15 (by decide) ?_
    obtain ⟨r10, er10, h⟩ := ob h
    refine x_callSn C Z ms_J7_fill_53178 lk_X4_26 (ct_J7_fill_53178 er10) (by decide) rfl rfl (Nat.le_of_ble_eq_true rfl) dX4_lookAt_16 ?_
    refine x_aload_n C (i := 0) dX4_lookAt_19 rfl rfl ?_
    refine x_aload_n C (i := 1) dX4_lookAt_20 rfl rfl ?_
    obtain ⟨r11, er11, h⟩ := ob h
    refine x_callVr C Z mv_X2_hasFrail lk_X4_32 (rv_h er11) (ct_X2_hasFrail er11) (by decide) rfl rfl (Nat.le_of_ble_eq_true rfl) dX4_lookAt_21 ?_
    obtain ⟨z12, hz12, h⟩ := ob h
    have hJ14 : X κ 2 ω 34 [some (.ref t0), some (.ref p1)] [.int z12, .ref t0] r10 := by
      obtain ⟨σ13, eσ13, h⟩ := ob h
      refine x_put C pl_X4_36 dX4_lookAt_34 (fun _ => ⟨rfl, rfl⟩) eσ13 ?_
      refine x_wk [true, true] (lo' := [some (.ref t0), some (.ref p1)]) rfl ?_
      obtain rfl := Option.some.inj h
      exact hJ6
    clear h
    have h := hz12
    refine x_if_eq C (tgt := 33) dX4_lookAt_24 (by decide) (fun c16 => ?_) (fun c16 => ?_)
    · have h := ifP h c16
      refine x_iconst C (v := 0) dX4_lookAt_33 (by decide) ?_
      refine x_wk [true, true] (lo' := [some (.ref t0), some (.ref p1)]) rfl ?_
      obtain rfl := Option.some.inj h
      exact hJ14
    · have h := ifN h c16
      refine x_sipush C (v := 4096) dX4_lookAt_27 (by decide) ?_
      refine x_goto C (tgt := 34) dX4_lookAt_30 (by decide) ?_
      refine x_wk [true, true] (lo' := [some (.ref t0), some (.ref p1)]) rfl ?_
      obtain rfl := Option.some.inj h
      exact hJ14
theorem dX4_stateBehind_0 : decode cX4_stateBehind 0 = .ok (.aload_n 0, 1) := by decide +kernel
theorem dX4_stateBehind_1 : decode cX4_stateBehind 1 = .ok (.getfield 12, 3) := by decide +kernel
theorem dX4_stateBehind_4 : decode cX4_stateBehind 4 = .ok (.iload_n 1, 1) := by decide +kernel
theorem dX4_stateBehind_5 : decode cX4_stateBehind 5 = .ok (.sipush 4095, 3) := by decide +kernel
theorem dX4_stateBehind_8 : decode cX4_stateBehind 8 = .ok (.iand, 1) := by decide +kernel
theorem dX4_stateBehind_9 : decode cX4_stateBehind 9 = .ok (.iload_n 2, 1) := by decide +kernel
theorem dX4_stateBehind_10 : decode cX4_stateBehind 10 = .ok (.invokevirtual 54, 3) := by decide +kernel
theorem dX4_stateBehind_13 : decode cX4_stateBehind 13 = .ok (.iload_n 1, 1) := by decide +kernel
theorem dX4_stateBehind_14 : decode cX4_stateBehind 14 = .ok (.sipush 4096, 3) := by decide +kernel
theorem dX4_stateBehind_17 : decode cX4_stateBehind 17 = .ok (.ixor, 1) := by decide +kernel
theorem dX4_stateBehind_18 : decode cX4_stateBehind 18 = .ok (.aload_n 0, 1) := by decide +kernel
theorem dX4_stateBehind_19 : decode cX4_stateBehind 19 = .ok (.getfield 36, 3) := by decide +kernel
theorem dX4_stateBehind_22 : decode cX4_stateBehind 22 = .ok (.iand, 1) := by decide +kernel
theorem dX4_stateBehind_23 : decode cX4_stateBehind 23 = .ok (.ior, 1) := by decide +kernel
theorem dX4_stateBehind_24 : decode cX4_stateBehind 24 = .ok (.ireturn, 1) := by decide +kernel
def m_X4_stateBehind (N : Nat) (σ : Hp) (t0 : Nat) (p1 : Int32) (p2 : Int32) : Option (Int32) :=
  (rv N σ t0 4).bind fun _ =>
  (gR N σ t0 4 0).bind fun x1 =>
  (m_X2_behind N σ x1 (p1 &&& 4095) p2).bind fun r2 =>
  (gI N σ t0 4 2).bind fun x3 =>
  some (r2 ||| ((p1 ^^^ 4096) &&& x3))
set_option maxHeartbeats 4000000 in
set_option maxRecDepth 100000 in
theorem ct_X4_stateBehind {l : Launch} {D : va_G} {cy : Nat → Nat} {N : Nat} {σ : Hp} {t0 : Nat} {p1 : Int32} {p2 : Int32} {r : Int32} (h : m_X4_stateBehind N σ t0 p1 p2 = some r) : Ct l D cy yX4_stateBehind cX4_stateBehind 3 (some .int) 1 [.ref t0, .int p1, .int p2] N σ (fun v s' => v = (some (.int r)) ∧ s' = σ) := by
  refine Ct.intro [some (.ref t0), some (.int p1), some (.int p2)] (by decide) rfl (Nat.le_of_ble_eq_true rfl) ?_
  intro κ ω e1 e2 e3 e4 C Z E
  subst e1; subst e2; subst e3; subst e4
  have C : Cx κ 3 1 cX4_stateBehind RX4 "stateBehind" := C
  have hE : ∀ x : Int32, r = x → ((some (Value.int x)) = (some (Value.int r)) ∧ σ = σ) := fun x hx => by subst hx; exact ⟨rfl, rfl⟩
  unfold m_X4_stateBehind at h
  obtain ⟨_, _, h⟩ := ob h
  refine x_aload_n C (i := 0) dX4_stateBehind_0 rfl rfl ?_
  obtain ⟨x1, ex1, h⟩ := ob h
  refine x_getR C fl_X4_12 dX4_stateBehind_1 ex1 ?_
  refine x_iload_n C (i := 1) dX4_stateBehind_4 rfl rfl ?_
  refine x_sipush C (v := 4095) dX4_stateBehind_5 (by decide) ?_
  refine x_iand C dX4_stateBehind_8 ?_
  refine x_iload_n C (i := 2) dX4_stateBehind_9 rfl rfl ?_
  obtain ⟨r2, er2, h⟩ := ob h
  refine x_callVr C Z mv_X2_behind lk_X4_54 (rv_h er2) (ct_X2_behind er2) (by decide) rfl rfl (Nat.le_of_ble_eq_true rfl) dX4_stateBehind_10 ?_
  refine x_iload_n C (i := 1) dX4_stateBehind_13 rfl rfl ?_
  refine x_sipush C (v := 4096) dX4_stateBehind_14 (by decide) ?_
  refine x_ixor C dX4_stateBehind_17 ?_
  refine x_aload_n C (i := 0) dX4_stateBehind_18 rfl rfl ?_
  obtain ⟨x3, ex3, h⟩ := ob h
  refine x_getI C fl_X4_36 dX4_stateBehind_19 ex3 ?_
  refine x_iand C dX4_stateBehind_22 ?_
  refine x_ior C dX4_stateBehind_23 ?_
  exact x_iret C E dX4_stateBehind_24 (hE (r2 ||| ((p1 ^^^ 4096) &&& x3)) (Option.some.inj h).symm)
theorem dX5_init_0 : decode cX5_init 0 = .ok (.aload_n 0, 1) := by decide +kernel
theorem dX5_init_1 : decode cX5_init 1 = .ok (.invokespecial 3, 3) := by decide +kernel
theorem dX5_init_4 : decode cX5_init 4 = .ok (.aload_n 0, 1) := by decide +kernel
theorem dX5_init_5 : decode cX5_init 5 = .ok (.iconst (-1), 1) := by decide +kernel
theorem dX5_init_6 : decode cX5_init 6 = .ok (.putfield 11, 3) := by decide +kernel
theorem dX5_init_9 : decode cX5_init 9 = .ok (.aload_n 0, 1) := by decide +kernel
theorem dX5_init_10 : decode cX5_init 10 = .ok (.bipush 40, 2) := by decide +kernel
theorem dX5_init_12 : decode cX5_init 12 = .ok (.newarray .int, 2) := by decide +kernel
theorem dX5_init_14 : decode cX5_init 14 = .ok (.putfield 15, 3) := by decide +kernel
theorem dX5_init_17 : decode cX5_init 17 = .ok (.return_, 1) := by decide +kernel
noncomputable def m_X5_init (N : Nat) (σ : Hp) (t0 : Nat) : Option (Nat × Hp) :=
  (pV N σ t0 5 0 (.int (-1))).bind fun σ1 =>
  (al N σ1 [t0, t0] (0 + 1) (0 + 40) 1 40).bind fun u2 =>
  (mkc σ1 N (.inl (0, 40, .inl (fun _ => 0)))).bind fun σ3 =>
  (pV (N + 1) σ3 t0 5 2 (.ref N)).bind fun σ4 =>
  some (N + 1, σ4)
set_option maxHeartbeats 4000000 in
set_option maxRecDepth 100000 in
theorem ct_X5_init {l : Launch} {D : va_G} {cy : Nat → Nat} {N : Nat} {σ : Hp} {t0 : Nat} {r : Nat × Hp} (h : m_X5_init N σ t0 = some r) : CtA l D cy yX5_init cX5_init 1 none 1 1 40 [.ref t0] N σ (fun v n' s' => v = none ∧ n' = r.1 ∧ s' = r.2) := by
  refine CtA.intro [some (.ref t0)] (by decide) rfl (Nat.le_of_ble_eq_true rfl) ?_
  intro κ ad0 e1 e2 e3 hRc hRs C Z E
  subst e1; subst e2; subst e3
  have C : Cx κ 1 1 cX5_init RX5 "<init>" := C
  have G := Ag.rf N ad0 0 0
  have hE : ∀ x : Nat × Hp, r = x → ((none : Option Value) = (none : Option Value) ∧ x.1 = r.1 ∧ x.2 = r.2) := fun x hx => by subst hx; exact ⟨rfl, rfl, rfl⟩
  unfold m_X5_init at h
  refine x_aload_n C (i := 0) dX5_init_0 rfl rfl ?_
  refine x_objInit C (by decide) oi_X5 oi_inst oi_code (Nat.le_of_ble_eq_true rfl) dX5_init_1 ?_
  refine x_aload_n C (i := 0) dX5_init_4 rfl rfl ?_
  refine x_iconst C (v := (-1)) dX5_init_5 (by decide) ?_
  obtain ⟨σ1, eσ1, h⟩ := ob h
  refine x_put C pl_X5_11 dX5_init_6 (fun _ => ⟨rfl, rfl⟩) eσ1 ?_
  refine x_aload_n C (i := 0) dX5_init_9 rfl rfl ?_
  refine x_bipush C (v := 40) dX5_init_10 (by decide) ?_
  obtain ⟨u2, eu2, h⟩ := ob h
  obtain ⟨σ3, eσ3, h⟩ := ob h
  refine g_newI C Z G hRc hRs 40 wa_int (by decide) (by decide) (by decide) eu2 rfl eσ3 dX5_init_12 (fun ad Z G => ?_)
  obtain ⟨σ4, eσ4, h⟩ := ob h
  refine x_putF C pf_X5_15 dX5_init_14 (fun _ => ⟨rfl, rfl⟩) eσ4 ?_
  exact x_vretA C E G ⟨hRc ▸ Z.1.1, hRs ▸ Z.1.2⟩ dX5_init_17 (hE (N + 1, σ4) (Option.some.inj h).symm)
theorem dX5_isMissing_0 : decode cX5_isMissing 0 = .ok (.aload_n 0, 1) := by decide +kernel
theorem dX5_isMissing_1 : decode cX5_isMissing 1 = .ok (.getfield 11, 3) := by decide +kernel
theorem dX5_isMissing_4 : decode cX5_isMissing 4 = .ok (.iconst (-1), 1) := by decide +kernel
theorem dX5_isMissing_5 : decode cX5_isMissing 5 = .ok (.if_icmp .ne 7, 3) := by decide +kernel
theorem dX5_isMissing_8 : decode cX5_isMissing 8 = .ok (.iconst 1, 1) := by decide +kernel
theorem dX5_isMissing_9 : decode cX5_isMissing 9 = .ok (.goto 4, 3) := by decide +kernel
theorem dX5_isMissing_12 : decode cX5_isMissing 12 = .ok (.iconst 0, 1) := by decide +kernel
theorem dX5_isMissing_13 : decode cX5_isMissing 13 = .ok (.ireturn, 1) := by decide +kernel
def m_X5_isMissing (N : Nat) (σ : Hp) (t0 : Nat) : Option (Int32) :=
  (rv N σ t0 5).bind fun _ =>
  (gI N σ t0 5 0).bind fun x1 =>
  if x1 = (-1) then
   some 1
  else
   some 0
set_option maxHeartbeats 4000000 in
set_option maxRecDepth 100000 in
theorem ct_X5_isMissing {l : Launch} {D : va_G} {cy : Nat → Nat} {N : Nat} {σ : Hp} {t0 : Nat} {r : Int32} (h : m_X5_isMissing N σ t0 = some r) : Ct l D cy yX5_isMissing cX5_isMissing 1 (some .boolean) 0 [.ref t0] N σ (fun v s' => v = (some (.int r)) ∧ s' = σ) := by
  refine Ct.intro [some (.ref t0)] (by decide) rfl (Nat.le_of_ble_eq_true rfl) ?_
  intro κ ω e1 e2 e3 e4 C Z E
  subst e1; subst e2; subst e3; subst e4
  have C : Cx κ 1 0 cX5_isMissing RX5 "isMissing" := C
  have hE : ∀ x : Int32, r = x → ((some (Value.int x)) = (some (Value.int r)) ∧ σ = σ) := fun x hx => by subst hx; exact ⟨rfl, rfl⟩
  unfold m_X5_isMissing at h
  obtain ⟨_, _, h⟩ := ob h
  refine x_aload_n C (i := 0) dX5_isMissing_0 rfl rfl ?_
  obtain ⟨x1, ex1, h⟩ := ob h
  refine x_getI C fl_X5_11 dX5_isMissing_1 ex1 ?_
  refine x_iconst C (v := (-1)) dX5_isMissing_4 (by decide) ?_
  refine x_icmp_ne C (tgt := 12) dX5_isMissing_5 (by decide) (fun c2 => ?_) (fun c2 => ?_)
  · have h := ifN h c2
    refine x_iconst C (v := 0) dX5_isMissing_12 (by decide) ?_
    exact x_zret C E (by decide +kernel) dX5_isMissing_13 (hE 0 (Option.some.inj h).symm)
  · have h := ifP h c2
    refine x_iconst C (v := 1) dX5_isMissing_8 (by decide) ?_
    refine x_goto C (tgt := 13) dX5_isMissing_9 (by decide) ?_
    exact x_zret C E (by decide +kernel) dX5_isMissing_13 (hE 1 (Option.some.inj h).symm)
theorem dX5_begin_0 : decode cX5_begin 0 = .ok (.aload_n 0, 1) := by decide +kernel
theorem dX5_begin_1 : decode cX5_begin 1 = .ok (.iload_n 1, 1) := by decide +kernel
theorem dX5_begin_2 : decode cX5_begin 2 = .ok (.putfield 11, 3) := by decide +kernel
theorem dX5_begin_5 : decode cX5_begin 5 = .ok (.aload_n 0, 1) := by decide +kernel
theorem dX5_begin_6 : decode cX5_begin 6 = .ok (.iload_n 2, 1) := by decide +kernel
theorem dX5_begin_7 : decode cX5_begin 7 = .ok (.putfield 19, 3) := by decide +kernel
theorem dX5_begin_10 : decode cX5_begin 10 = .ok (.aload_n 0, 1) := by decide +kernel
theorem dX5_begin_11 : decode cX5_begin 11 = .ok (.getfield 15, 3) := by decide +kernel
theorem dX5_begin_14 : decode cX5_begin 14 = .ok (.iconst 0, 1) := by decide +kernel
theorem dX5_begin_15 : decode cX5_begin 15 = .ok (.invokestatic 22, 3) := by decide +kernel
theorem dX5_begin_18 : decode cX5_begin 18 = .ok (.return_, 1) := by decide +kernel
def m_X5_begin (N : Nat) (σ : Hp) (t0 : Nat) (p1 : Int32) (p2 : Int32) : Option (Hp) :=
  (rv N σ t0 5).bind fun _ =>
  (pV N σ t0 5 0 (.int p1)).bind fun σ1 =>
  (pV N σ1 t0 5 1 (.int p2)).bind fun σ2 =>
  (gR N σ2 t0 5 2).bind fun x3 =>
  (m_J7_fill_53178 N σ2 x3 0).bind fun r4 =>
  some r4
set_option maxHeartbeats 4000000 in
set_option maxRecDepth 100000 in
theorem ct_X5_begin {l : Launch} {D : va_G} {cy : Nat → Nat} {N : Nat} {σ : Hp} {t0 : Nat} {p1 : Int32} {p2 : Int32} {r : Hp} (h : m_X5_begin N σ t0 p1 p2 = some r) : Ct l D cy yX5_begin cX5_begin 3 none 1 [.ref t0, .int p1, .int p2] N σ (fun v s' => v = none ∧ s' = r) := by
  refine Ct.intro [some (.ref t0), some (.int p1), some (.int p2)] (by decide) rfl (Nat.le_of_ble_eq_true rfl) ?_
  intro κ ω e1 e2 e3 e4 C Z E
  subst e1; subst e2; subst e3; subst e4
  have C : Cx κ 3 1 cX5_begin RX5 "begin" := C
  have hE : ∀ x : Hp, r = x → ((none : Option Value) = none ∧ x = r) := fun x hx => by subst hx; exact ⟨rfl, rfl⟩
  unfold m_X5_begin at h
  obtain ⟨_, _, h⟩ := ob h
  refine x_aload_n C (i := 0) dX5_begin_0 rfl rfl ?_
  refine x_iload_n C (i := 1) dX5_begin_1 rfl rfl ?_
  obtain ⟨σ1, eσ1, h⟩ := ob h
  refine x_put C pl_X5_11 dX5_begin_2 (fun _ => ⟨rfl, rfl⟩) eσ1 ?_
  refine x_aload_n C (i := 0) dX5_begin_5 rfl rfl ?_
  refine x_iload_n C (i := 2) dX5_begin_6 rfl rfl ?_
  obtain ⟨σ2, eσ2, h⟩ := ob h
  refine x_put C pl_X5_19 dX5_begin_7 (fun _ => ⟨rfl, rfl⟩) eσ2 ?_
  refine x_aload_n C (i := 0) dX5_begin_10 rfl rfl ?_
  obtain ⟨x3, ex3, h⟩ := ob h
  refine x_getR C fl_X5_15 dX5_begin_11 ex3 ?_
  refine x_iconst C (v := 0) dX5_begin_14 (by decide) ?_
  obtain ⟨r4, er4, h⟩ := ob h
  refine x_callSn C Z ms_J7_fill_53178 lk_X5_22 (ct_J7_fill_53178 er4) (by decide) rfl rfl (Nat.le_of_ble_eq_true rfl) dX5_begin_15 ?_
  exact x_vret C E dX5_begin_18 (hE r4 (Option.some.inj h).symm)
theorem dX5_end_0 : decode cX5_end 0 = .ok (.aload_n 0, 1) := by decide +kernel
theorem dX5_end_1 : decode cX5_end 1 = .ok (.getfield 19, 3) := by decide +kernel
theorem dX5_end_4 : decode cX5_end 4 = .ok (.istore_n 1, 1) := by decide +kernel
theorem dX5_end_5 : decode cX5_end 5 = .ok (.aload_n 0, 1) := by decide +kernel
theorem dX5_end_6 : decode cX5_end 6 = .ok (.iconst (-1), 1) := by decide +kernel
theorem dX5_end_7 : decode cX5_end 7 = .ok (.putfield 11, 3) := by decide +kernel
theorem dX5_end_10 : decode cX5_end 10 = .ok (.aload_n 0, 1) := by decide +kernel
theorem dX5_end_11 : decode cX5_end 11 = .ok (.iconst 0, 1) := by decide +kernel
theorem dX5_end_12 : decode cX5_end 12 = .ok (.putfield 19, 3) := by decide +kernel
theorem dX5_end_15 : decode cX5_end 15 = .ok (.iload_n 1, 1) := by decide +kernel
theorem dX5_end_16 : decode cX5_end 16 = .ok (.ireturn, 1) := by decide +kernel
def m_X5_end (N : Nat) (σ : Hp) (t0 : Nat) : Option (Int32 × Hp) :=
  (rv N σ t0 5).bind fun _ =>
  (gI N σ t0 5 1).bind fun x1 =>
  (pV N σ t0 5 0 (.int (-1))).bind fun σ2 =>
  (pV N σ2 t0 5 1 (.int 0)).bind fun σ3 =>
  some (x1, σ3)
set_option maxHeartbeats 4000000 in
set_option maxRecDepth 100000 in
theorem ct_X5_end {l : Launch} {D : va_G} {cy : Nat → Nat} {N : Nat} {σ : Hp} {t0 : Nat} {r : Int32 × Hp} (h : m_X5_end N σ t0 = some r) : Ct l D cy yX5_end cX5_end 2 (some .int) 0 [.ref t0] N σ (fun v s' => v = (some (.int r.1)) ∧ s' = r.2) := by
  refine Ct.intro [some (.ref t0), none] (by decide) rfl (Nat.le_of_ble_eq_true rfl) ?_
  intro κ ω e1 e2 e3 e4 C Z E
  subst e1; subst e2; subst e3; subst e4
  have C : Cx κ 2 0 cX5_end RX5 "end" := C
  have hE : ∀ x : Int32 × Hp, r = x → ((some (Value.int x.1)) = (some (Value.int r.1)) ∧ x.2 = r.2) := fun x hx => by subst hx; exact ⟨rfl, rfl⟩
  unfold m_X5_end at h
  obtain ⟨_, _, h⟩ := ob h
  refine x_aload_n C (i := 0) dX5_end_0 rfl rfl ?_
  obtain ⟨x1, ex1, h⟩ := ob h
  refine x_getI C fl_X5_19 dX5_end_1 ex1 ?_
  refine x_istore_n C (i := 1) (lo' := [some (.ref t0), some (.int x1)]) dX5_end_4 rfl (by decide) rfl rfl ?_
  refine x_aload_n C (i := 0) dX5_end_5 rfl rfl ?_
  refine x_iconst C (v := (-1)) dX5_end_6 (by decide) ?_
  obtain ⟨σ2, eσ2, h⟩ := ob h
  refine x_put C pl_X5_11 dX5_end_7 (fun _ => ⟨rfl, rfl⟩) eσ2 ?_
  refine x_aload_n C (i := 0) dX5_end_10 rfl rfl ?_
  refine x_iconst C (v := 0) dX5_end_11 (by decide) ?_
  obtain ⟨σ3, eσ3, h⟩ := ob h
  refine x_put C pl_X5_19 dX5_end_12 (fun _ => ⟨rfl, rfl⟩) eσ3 ?_
  refine x_iload_n C (i := 1) dX5_end_15 rfl rfl ?_
  exact x_iret C E dX5_end_16 (hE (x1, σ3) (Option.some.inj h).symm)
theorem dX5_flaw_0 : decode cX5_flaw 0 = .ok (.aload_n 0, 1) := by decide +kernel
theorem dX5_flaw_1 : decode cX5_flaw 1 = .ok (.invokevirtual 28, 3) := by decide +kernel
theorem dX5_flaw_4 : decode cX5_flaw 4 = .ok (.ifCond .eq 5, 3) := by decide +kernel
theorem dX5_flaw_7 : decode cX5_flaw 7 = .ok (.iconst 1, 1) := by decide +kernel
theorem dX5_flaw_8 : decode cX5_flaw 8 = .ok (.ireturn, 1) := by decide +kernel
theorem dX5_flaw_9 : decode cX5_flaw 9 = .ok (.iload_n 1, 1) := by decide +kernel
theorem dX5_flaw_10 : decode cX5_flaw 10 = .ok (.ifCond .lt 17, 3) := by decide +kernel
theorem dX5_flaw_13 : decode cX5_flaw 13 = .ok (.iload_n 2, 1) := by decide +kernel
theorem dX5_flaw_14 : decode cX5_flaw 14 = .ok (.ifCond .lt 13, 3) := by decide +kernel
theorem dX5_flaw_17 : decode cX5_flaw 17 = .ok (.iload_n 1, 1) := by decide +kernel
theorem dX5_flaw_18 : decode cX5_flaw 18 = .ok (.aload_n 0, 1) := by decide +kernel
theorem dX5_flaw_19 : decode cX5_flaw 19 = .ok (.getfield 19, 3) := by decide +kernel
theorem dX5_flaw_22 : decode cX5_flaw 22 = .ok (.iload_n 2, 1) := by decide +kernel
theorem dX5_flaw_23 : decode cX5_flaw 23 = .ok (.isub, 1) := by decide +kernel
theorem dX5_flaw_24 : decode cX5_flaw 24 = .ok (.if_icmp .le 7, 3) := by decide +kernel
theorem dX5_flaw_27 : decode cX5_flaw 27 = .ok (.iconst 2, 1) := by decide +kernel
theorem dX5_flaw_28 : decode cX5_flaw 28 = .ok (.goto 4, 3) := by decide +kernel
theorem dX5_flaw_31 : decode cX5_flaw 31 = .ok (.iconst 0, 1) := by decide +kernel
theorem dX5_flaw_32 : decode cX5_flaw 32 = .ok (.ireturn, 1) := by decide +kernel
def m_X5_flaw (N : Nat) (σ : Hp) (t0 : Nat) (p1 : Int32) (p2 : Int32) : Option (Int32) :=
  (rv N σ t0 5).bind fun _ =>
  (m_X5_isMissing N σ t0).bind fun r1 =>
  if r1 = 0 then
   if p1 < 0 then
   some 2
  else
   if p2 < 0 then
   some 2
  else
   (gI N σ t0 5 1).bind fun x5 =>
  if p1 ≤ (x5 - p2) then
   some 0
  else
   some 2
  else
   some 1
set_option maxHeartbeats 4000000 in
set_option maxRecDepth 100000 in
theorem ct_X5_flaw {l : Launch} {D : va_G} {cy : Nat → Nat} {N : Nat} {σ : Hp} {t0 : Nat} {p1 : Int32} {p2 : Int32} {r : Int32} (h : m_X5_flaw N σ t0 p1 p2 = some r) : Ct l D cy yX5_flaw cX5_flaw 3 (some .int) 1 [.ref t0, .int p1, .int p2] N σ (fun v s' => v = (some (.int r)) ∧ s' = σ) := by
  refine Ct.intro [some (.ref t0), some (.int p1), some (.int p2)] (by decide) rfl (Nat.le_of_ble_eq_true rfl) ?_
  intro κ ω e1 e2 e3 e4 C Z E
  subst e1; subst e2; subst e3; subst e4
  have C : Cx κ 3 1 cX5_flaw RX5 "flaw" := C
  have hE : ∀ x : Int32, r = x → ((some (Value.int x)) = (some (Value.int r)) ∧ σ = σ) := fun x hx => by subst hx; exact ⟨rfl, rfl⟩
  unfold m_X5_flaw at h
  obtain ⟨_, _, h⟩ := ob h
  refine x_aload_n C (i := 0) dX5_flaw_0 rfl rfl ?_
  obtain ⟨r1, er1, h⟩ := ob h
  refine x_callVr C Z mv_X5_isMissing lk_X5_28 (rv_h er1) (ct_X5_isMissing er1) (by decide) rfl rfl (Nat.le_of_ble_eq_true rfl) dX5_flaw_1 ?_
  refine x_if_eq C (tgt := 9) dX5_flaw_4 (by decide) (fun c2 => ?_) (fun c2 => ?_)
  · have h := ifP h c2
    refine x_iload_n C (i := 1) dX5_flaw_9 rfl rfl ?_
    refine x_if_lt C (tgt := 27) dX5_flaw_10 (by decide) (fun c3 => ?_) (fun c3 => ?_)
    · have h := ifP h c3
      refine x_iconst C (v := 2) dX5_flaw_27 (by decide) ?_
      refine x_goto C (tgt := 32) dX5_flaw_28 (by decide) ?_
      exact x_iret C E dX5_flaw_32 (hE 2 (Option.some.inj h).symm)
    · have h := ifN h c3
      refine x_iload_n C (i := 2) dX5_flaw_13 rfl rfl ?_
      refine x_if_lt C (tgt := 27) dX5_flaw_14 (by decide) (fun c4 => ?_) (fun c4 => ?_)
      · have h := ifP h c4
        refine x_iconst C (v := 2) dX5_flaw_27 (by decide) ?_
        refine x_goto C (tgt := 32) dX5_flaw_28 (by decide) ?_
        exact x_iret C E dX5_flaw_32 (hE 2 (Option.some.inj h).symm)
      · have h := ifN h c4
        refine x_iload_n C (i := 1) dX5_flaw_17 rfl rfl ?_
        refine x_aload_n C (i := 0) dX5_flaw_18 rfl rfl ?_
        obtain ⟨x5, ex5, h⟩ := ob h
        refine x_getI C fl_X5_19 dX5_flaw_19 ex5 ?_
        refine x_iload_n C (i := 2) dX5_flaw_22 rfl rfl ?_
        refine x_isub C dX5_flaw_23 ?_
        refine x_icmp_le C (tgt := 31) dX5_flaw_24 (by decide) (fun c6 => ?_) (fun c6 => ?_)
        · have h := ifP h c6
          refine x_iconst C (v := 0) dX5_flaw_31 (by decide) ?_
          exact x_iret C E dX5_flaw_32 (hE 0 (Option.some.inj h).symm)
        · have h := ifN h c6
          refine x_iconst C (v := 2) dX5_flaw_27 (by decide) ?_
          refine x_goto C (tgt := 32) dX5_flaw_28 (by decide) ?_
          exact x_iret C E dX5_flaw_32 (hE 2 (Option.some.inj h).symm)
  · have h := ifN h c2
    refine x_iconst C (v := 1) dX5_flaw_7 (by decide) ?_
    exact x_iret C E dX5_flaw_8 (hE 1 (Option.some.inj h).symm)
theorem dX5_store_0 : decode cX5_store 0 = .ok (.aload_n 0, 1) := by decide +kernel
theorem dX5_store_1 : decode cX5_store 1 = .ok (.getfield 11, 3) := by decide +kernel
theorem dX5_store_4 : decode cX5_store 4 = .ok (.ifCond .ne 8, 3) := by decide +kernel
theorem dX5_store_7 : decode cX5_store 7 = .ok (.iload_n 2, 1) := by decide +kernel
theorem dX5_store_8 : decode cX5_store 8 = .ok (.i2b, 1) := by decide +kernel
theorem dX5_store_9 : decode cX5_store 9 = .ok (.goto 17, 3) := by decide +kernel
theorem dX5_store_12 : decode cX5_store 12 = .ok (.aload_n 0, 1) := by decide +kernel
theorem dX5_store_13 : decode cX5_store 13 = .ok (.getfield 11, 3) := by decide +kernel
theorem dX5_store_16 : decode cX5_store 16 = .ok (.iconst 1, 1) := by decide +kernel
theorem dX5_store_17 : decode cX5_store 17 = .ok (.if_icmp .ne 8, 3) := by decide +kernel
theorem dX5_store_20 : decode cX5_store 20 = .ok (.iload_n 2, 1) := by decide +kernel
theorem dX5_store_21 : decode cX5_store 21 = .ok (.i2s, 1) := by decide +kernel
theorem dX5_store_22 : decode cX5_store 22 = .ok (.goto 4, 3) := by decide +kernel
theorem dX5_store_25 : decode cX5_store 25 = .ok (.iload_n 2, 1) := by decide +kernel
theorem dX5_store_26 : decode cX5_store 26 = .ok (.istore_n 3, 1) := by decide +kernel
theorem dX5_store_27 : decode cX5_store 27 = .ok (.iload_n 1, 1) := by decide +kernel
theorem dX5_store_28 : decode cX5_store 28 = .ok (.ifCond .lt 18, 3) := by decide +kernel
theorem dX5_store_31 : decode cX5_store 31 = .ok (.iload_n 1, 1) := by decide +kernel
theorem dX5_store_32 : decode cX5_store 32 = .ok (.aload_n 0, 1) := by decide +kernel
theorem dX5_store_33 : decode cX5_store 33 = .ok (.getfield 19, 3) := by decide +kernel
theorem dX5_store_36 : decode cX5_store 36 = .ok (.if_icmp .ge 10, 3) := by decide +kernel
theorem dX5_store_39 : decode cX5_store 39 = .ok (.aload_n 0, 1) := by decide +kernel
theorem dX5_store_40 : decode cX5_store 40 = .ok (.getfield 15, 3) := by decide +kernel
theorem dX5_store_43 : decode cX5_store 43 = .ok (.iload_n 1, 1) := by decide +kernel
theorem dX5_store_44 : decode cX5_store 44 = .ok (.iload_n 3, 1) := by decide +kernel
theorem dX5_store_45 : decode cX5_store 45 = .ok (.iastore, 1) := by decide +kernel
theorem dX5_store_46 : decode cX5_store 46 = .ok (.iload_n 3, 1) := by decide +kernel
theorem dX5_store_47 : decode cX5_store 47 = .ok (.ireturn, 1) := by decide +kernel
def m_X5_store (N : Nat) (σ : Hp) (t0 : Nat) (p1 : Int32) (p2 : Int32) : Option (Int32 × Hp) :=
  (rv N σ t0 5).bind fun _ =>
  (gI N σ t0 5 0).bind fun x1 =>
  ((if x1 = 0 then
   some p2.toInt8.toInt32
  else
   (gI N σ t0 5 0).bind fun x11 =>
  if x11 = 1 then
   some p2.toInt16.toInt32
  else
   some p2) : Option (Int32)).bind fun z2 =>
  if p1 < 0 then
   some (z2, σ)
  else
   (gI N σ t0 5 1).bind fun x4 =>
  if x4 ≤ p1 then
   some (z2, σ)
  else
   (gR N σ t0 5 2).bind fun x6 =>
  (sI 0 N σ x6 p1 z2).bind fun σ7 =>
  some (z2, σ7)
set_option maxHeartbeats 4000000 in
set_option maxRecDepth 100000 in
theorem ct_X5_store {l : Launch} {D : va_G} {cy : Nat → Nat} {N : Nat} {σ : Hp} {t0 : Nat} {p1 : Int32} {p2 : Int32} {r : Int32 × Hp} (h : m_X5_store N σ t0 p1 p2 = some r) : Ct l D cy yX5_store cX5_store 4 (some .int) 0 [.ref t0, .int p1, .int p2] N σ (fun v s' => v = (some (.int r.1)) ∧ s' = r.2) := by
  refine Ct.intro [some (.ref t0), some (.int p1), some (.int p2), none] (by decide) rfl (Nat.le_of_ble_eq_true rfl) ?_
  intro κ ω e1 e2 e3 e4 C Z E
  subst e1; subst e2; subst e3; subst e4
  have C : Cx κ 4 0 cX5_store RX5 "store" := C
  have hE : ∀ x : Int32 × Hp, r = x → ((some (Value.int x.1)) = (some (Value.int r.1)) ∧ x.2 = r.2) := fun x hx => by subst hx; exact ⟨rfl, rfl⟩
  unfold m_X5_store at h
  obtain ⟨_, _, h⟩ := ob h
  refine x_aload_n C (i := 0) dX5_store_0 rfl rfl ?_
  obtain ⟨x1, ex1, h⟩ := ob h
  refine x_getI C fl_X5_11 dX5_store_1 ex1 ?_
  obtain ⟨z2, hz2, h⟩ := ob h
  have hJ8 : X κ 4 ω 26 [some (.ref t0), some (.int p1), none, none] [.int z2] σ := by
    refine x_istore_n C (i := 3) (lo' := [some (.ref t0), some (.int p1), none, some (.int z2)]) dX5_store_26 rfl (by decide) rfl rfl ?_
    refine x_iload_n C (i := 1) dX5_store_27 rfl rfl ?_
    refine x_if_lt C (tgt := 46) dX5_store_28 (by decide) (fun c3 => ?_) (fun c3 => ?_)
    · have h := ifP h c3
      refine x_iload_n C (i := 3) dX5_store_46 rfl rfl ?_
      exact x_iret C E dX5_store_47 (hE (z2, σ) (Option.some.inj h).symm)
    · have h := ifN h c3
      refine x_iload_n C (i := 1) dX5_store_31 rfl rfl ?_
      refine x_aload_n C (i := 0) dX5_store_32 rfl rfl ?_
      obtain ⟨x4, ex4, h⟩ := ob h
      refine x_getI C fl_X5_19 dX5_store_33 ex4 ?_
      refine x_icmp_ge C (tgt := 46) dX5_store_36 (by decide) (fun c5 => ?_) (fun c5 => ?_)
      · have h := ifP h c5
        refine x_iload_n C (i := 3) dX5_store_46 rfl rfl ?_
        exact x_iret C E dX5_store_47 (hE (z2, σ) (Option.some.inj h).symm)
      · have h := ifN h c5
        refine x_aload_n C (i := 0) dX5_store_39 rfl rfl ?_
        obtain ⟨x6, ex6, h⟩ := ob h
        refine x_getR C fl_X5_15 dX5_store_40 ex6 ?_
        refine x_iload_n C (i := 1) dX5_store_43 rfl rfl ?_
        refine x_iload_n C (i := 3) dX5_store_44 rfl rfl ?_
        obtain ⟨σ7, eσ7, h⟩ := ob h
        refine x_iast C dX5_store_45 eσ7 ?_
        refine x_iload_n C (i := 3) dX5_store_46 rfl rfl ?_
        exact x_iret C E dX5_store_47 (hE (z2, σ7) (Option.some.inj h).symm)
  clear h
  have h := hz2
  refine x_if_ne C (tgt := 12) dX5_store_4 (by decide) (fun c10 => ?_) (fun c10 => ?_)
  · have h := ifN h c10
    refine x_aload_n C (i := 0) dX5_store_12 rfl rfl ?_
    obtain ⟨x11, ex11, h⟩ := ob h
    refine x_getI C fl_X5_11 dX5_store_13 ex11 ?_
    refine x_iconst C (v := 1) dX5_store_16 (by decide) ?_
    refine x_icmp_ne C (tgt := 25) dX5_store_17 (by decide) (fun c12 => ?_) (fun c12 => ?_)
    · have h := ifN h c12
      refine x_iload_n C (i := 2) dX5_store_25 rfl rfl ?_
      refine x_wk [true, true, false, false] (lo' := [some (.ref t0), some (.int p1), none, none]) rfl ?_
      obtain rfl := Option.some.inj h
      exact hJ8
    · have h := ifP h c12
      refine x_iload_n C (i := 2) dX5_store_20 rfl rfl ?_
      refine x_i2s C dX5_store_21 ?_
      refine x_goto C (tgt := 26) dX5_store_22 (by decide) ?_
      refine x_wk [true, true, false, false] (lo' := [some (.ref t0), some (.int p1), none, none]) rfl ?_
      obtain rfl := Option.some.inj h
      exact hJ8
  · have h := ifP h c10
    refine x_iload_n C (i := 2) dX5_store_7 rfl rfl ?_
    refine x_i2b C dX5_store_8 ?_
    refine x_goto C (tgt := 26) dX5_store_9 (by decide) ?_
    refine x_wk [true, true, false, false] (lo' := [some (.ref t0), some (.int p1), none, none]) rfl ?_
    obtain rfl := Option.some.inj h
    exact hJ8
