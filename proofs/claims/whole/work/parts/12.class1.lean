theorem dX2_hasFrail_0 : decode cX2_hasFrail 0 = .ok (.iconst 0, 1) := by decide +kernel
theorem dX2_hasFrail_1 : decode cX2_hasFrail 1 = .ok (.istore_n 1, 1) := by decide +kernel
theorem dX2_hasFrail_2 : decode cX2_hasFrail 2 = .ok (.iconst 0, 1) := by decide +kernel
theorem dX2_hasFrail_3 : decode cX2_hasFrail 3 = .ok (.istore_n 2, 1) := by decide +kernel
theorem dX2_hasFrail_4 : decode cX2_hasFrail 4 = .ok (.iload_n 2, 1) := by decide +kernel
theorem dX2_hasFrail_5 : decode cX2_hasFrail 5 = .ok (.aload_n 0, 1) := by decide +kernel
theorem dX2_hasFrail_6 : decode cX2_hasFrail 6 = .ok (.getfield 15, 3) := by decide +kernel
theorem dX2_hasFrail_9 : decode cX2_hasFrail 9 = .ok (.if_icmp .ge 28, 3) := by decide +kernel
theorem dX2_hasFrail_12 : decode cX2_hasFrail 12 = .ok (.iload_n 1, 1) := by decide +kernel
theorem dX2_hasFrail_13 : decode cX2_hasFrail 13 = .ok (.ifCond .ne 12, 3) := by decide +kernel
theorem dX2_hasFrail_16 : decode cX2_hasFrail 16 = .ok (.aload_n 0, 1) := by decide +kernel
theorem dX2_hasFrail_17 : decode cX2_hasFrail 17 = .ok (.iload_n 2, 1) := by decide +kernel
theorem dX2_hasFrail_18 : decode cX2_hasFrail 18 = .ok (.invokevirtual 34, 3) := by decide +kernel
theorem dX2_hasFrail_21 : decode cX2_hasFrail 21 = .ok (.iconst 5, 1) := by decide +kernel
theorem dX2_hasFrail_22 : decode cX2_hasFrail 22 = .ok (.if_icmp .ne 7, 3) := by decide +kernel
theorem dX2_hasFrail_25 : decode cX2_hasFrail 25 = .ok (.iconst 1, 1) := by decide +kernel
theorem dX2_hasFrail_26 : decode cX2_hasFrail 26 = .ok (.goto 4, 3) := by decide +kernel
theorem dX2_hasFrail_29 : decode cX2_hasFrail 29 = .ok (.iconst 0, 1) := by decide +kernel
theorem dX2_hasFrail_30 : decode cX2_hasFrail 30 = .ok (.istore_n 1, 1) := by decide +kernel
theorem dX2_hasFrail_31 : decode cX2_hasFrail 31 = .ok (.iinc 2 1, 3) := by decide +kernel
theorem dX2_hasFrail_34 : decode cX2_hasFrail 34 = .ok (.goto (-30), 3) := by decide +kernel
theorem dX2_hasFrail_37 : decode cX2_hasFrail 37 = .ok (.iload_n 1, 1) := by decide +kernel
theorem dX2_hasFrail_38 : decode cX2_hasFrail 38 = .ok (.ireturn, 1) := by decide +kernel
def L_X2_hasFrail_4 (N : Nat) (σ : Hp) (v0 : Nat) : Nat → Int32 → Int32 → Option (Int32)
  | 0, _, _ => none
  | n + 1, v1, v2 =>
  (gI N σ v0 2 1).bind fun x1 =>
  if x1 ≤ v2 then
   some v1
  else
   if v1 = 0 then
   (m_X2_kindOf N σ v0 v2).bind fun r4 =>
  if r4 = 5 then
   L_X2_hasFrail_4 N σ v0 n 1 (v2 + 1)
  else
   L_X2_hasFrail_4 N σ v0 n 0 (v2 + 1)
  else
   L_X2_hasFrail_4 N σ v0 n 1 (v2 + 1)
def m_X2_hasFrail (N : Nat) (σ : Hp) (t0 : Nat) : Option (Int32) :=
  (rv N σ t0 2).bind fun _ =>
  (L_X2_hasFrail_4 N σ t0 fu 0 0).bind fun z6 =>
  (zb z6).bind fun u7 =>
  some z6
set_option maxHeartbeats 4000000 in
set_option maxRecDepth 100000 in
theorem lp_X2_hasFrail_4 {κ : Kx} {ω : Om} (C : Cx κ 3 1 cX2_hasFrail RX2 "hasFrail") (Z : Zx κ ω) (σ : Hp) (v0 : Nat) {r : Int32} (hk : X κ 3 ω 37 [none, some (.int r), none] [] σ) : ∀ (n : Nat) (v1 : Int32) (v2 : Int32), L_X2_hasFrail_4 ω.1 σ v0 n v1 v2 = some r → X κ 3 ω 4 [some (.ref v0), some (.int v1), some (.int v2)] [] σ := by
  intro n
  induction n with
  | zero => intro v1 v2 h; cases h
  | succ n ih =>
    intro v1 v2 h
    rw [L_X2_hasFrail_4.eq_2] at h
    refine x_iload_n C (i := 2) dX2_hasFrail_4 rfl rfl ?_
    refine x_aload_n C (i := 0) dX2_hasFrail_5 rfl rfl ?_
    obtain ⟨x1, ex1, h⟩ := ob h
    refine x_getI C fl_X2_15 dX2_hasFrail_6 ex1 ?_
    refine x_icmp_ge C (tgt := 37) dX2_hasFrail_9 (by decide) (fun c2 => ?_) (fun c2 => ?_)
    · have h := ifP h c2
      refine x_wk [false, true, false] (lo' := [none, some (.int v1), none]) rfl ?_
      obtain rfl := Option.some.inj h
      exact hk
    · have h := ifN h c2
      refine x_iload_n C (i := 1) dX2_hasFrail_12 rfl rfl ?_
      refine x_if_ne C (tgt := 25) dX2_hasFrail_13 (by decide) (fun c3 => ?_) (fun c3 => ?_)
      · have h := ifN h c3
        refine x_iconst C (v := 1) dX2_hasFrail_25 (by decide) ?_
        refine x_goto C (tgt := 30) dX2_hasFrail_26 (by decide) ?_
        refine x_istore_n C (i := 1) (lo' := [some (.ref v0), some (.int 1), some (.int v2)]) dX2_hasFrail_30 rfl (by decide) rfl rfl ?_
        refine x_iinc C (i := 2) (y := v2 + 1) (lo' := [some (.ref v0), some (.int 1), some (.int (v2 + 1))]) dX2_hasFrail_31 rfl rfl (by decide) rfl rfl ?_
        refine x_goto C (tgt := 4) dX2_hasFrail_34 (by decide) ?_
        refine x_wk [true, true, true] (lo' := [some (.ref v0), some (.int 1), some (.int (v2 + 1))]) rfl ?_
        exact ih 1 (v2 + 1) h
      · have h := ifP h c3
        refine x_aload_n C (i := 0) dX2_hasFrail_16 rfl rfl ?_
        refine x_iload_n C (i := 2) dX2_hasFrail_17 rfl rfl ?_
        obtain ⟨r4, er4, h⟩ := ob h
        refine x_callVr C Z mv_X2_kindOf lk_X2_34 (rv_h er4) (ct_X2_kindOf er4) (by decide) rfl rfl (Nat.le_of_ble_eq_true rfl) dX2_hasFrail_18 ?_
        refine x_iconst C (v := 5) dX2_hasFrail_21 (by decide) ?_
        refine x_icmp_ne C (tgt := 29) dX2_hasFrail_22 (by decide) (fun c5 => ?_) (fun c5 => ?_)
        · have h := ifN h c5
          refine x_iconst C (v := 0) dX2_hasFrail_29 (by decide) ?_
          refine x_istore_n C (i := 1) (lo' := [some (.ref v0), some (.int 0), some (.int v2)]) dX2_hasFrail_30 rfl (by decide) rfl rfl ?_
          refine x_iinc C (i := 2) (y := v2 + 1) (lo' := [some (.ref v0), some (.int 0), some (.int (v2 + 1))]) dX2_hasFrail_31 rfl rfl (by decide) rfl rfl ?_
          refine x_goto C (tgt := 4) dX2_hasFrail_34 (by decide) ?_
          refine x_wk [true, true, true] (lo' := [some (.ref v0), some (.int 0), some (.int (v2 + 1))]) rfl ?_
          exact ih 0 (v2 + 1) h
        · have h := ifP h c5
          refine x_iconst C (v := 1) dX2_hasFrail_25 (by decide) ?_
          refine x_goto C (tgt := 30) dX2_hasFrail_26 (by decide) ?_
          refine x_istore_n C (i := 1) (lo' := [some (.ref v0), some (.int 1), some (.int v2)]) dX2_hasFrail_30 rfl (by decide) rfl rfl ?_
          refine x_iinc C (i := 2) (y := v2 + 1) (lo' := [some (.ref v0), some (.int 1), some (.int (v2 + 1))]) dX2_hasFrail_31 rfl rfl (by decide) rfl rfl ?_
          refine x_goto C (tgt := 4) dX2_hasFrail_34 (by decide) ?_
          refine x_wk [true, true, true] (lo' := [some (.ref v0), some (.int 1), some (.int (v2 + 1))]) rfl ?_
          exact ih 1 (v2 + 1) h
set_option maxHeartbeats 4000000 in
set_option maxRecDepth 100000 in
theorem ct_X2_hasFrail {l : Launch} {D : va_G} {cy : Nat → Nat} {N : Nat} {σ : Hp} {t0 : Nat} {r : Int32} (h : m_X2_hasFrail N σ t0 = some r) : Ct l D cy yX2_hasFrail cX2_hasFrail 3 (some .boolean) 1 [.ref t0] N σ (fun v s' => v = (some (.int r)) ∧ s' = σ) := by
  refine Ct.intro [some (.ref t0), none, none] (by decide) rfl (Nat.le_of_ble_eq_true rfl) ?_
  intro κ ω e1 e2 e3 e4 C Z E
  subst e1; subst e2; subst e3; subst e4
  have C : Cx κ 3 1 cX2_hasFrail RX2 "hasFrail" := C
  have hE : ∀ x : Int32, r = x → ((some (Value.int x)) = (some (Value.int r)) ∧ σ = σ) := fun x hx => by subst hx; exact ⟨rfl, rfl⟩
  unfold m_X2_hasFrail at h
  obtain ⟨_, _, h⟩ := ob h
  refine x_iconst C (v := 0) dX2_hasFrail_0 (by decide) ?_
  refine x_istore_n C (i := 1) (lo' := [some (.ref t0), some (.int 0), none]) dX2_hasFrail_1 rfl (by decide) rfl rfl ?_
  refine x_iconst C (v := 0) dX2_hasFrail_2 (by decide) ?_
  refine x_istore_n C (i := 2) (lo' := [some (.ref t0), some (.int 0), some (.int 0)]) dX2_hasFrail_3 rfl (by decide) rfl rfl ?_
  obtain ⟨z6, ez6, h⟩ := ob h
  refine x_wk [true, true, true] (lo' := [some (.ref t0), some (.int 0), some (.int 0)]) rfl ?_
  refine lp_X2_hasFrail_4 C Z σ t0 ?_ _ 0 0 ez6
  refine x_iload_n C (i := 1) dX2_hasFrail_37 rfl rfl ?_
  obtain ⟨u7, eu7, h⟩ := ob h
  exact x_zret C E (zb_n eu7) dX2_hasFrail_38 (hE z6 (Option.some.inj h).symm)
theorem dX2_arrangements_0 : decode cX2_arrangements 0 = .ok (.iconst 1, 1) := by decide +kernel
theorem dX2_arrangements_1 : decode cX2_arrangements 1 = .ok (.iconst 2, 1) := by decide +kernel
theorem dX2_arrangements_2 : decode cX2_arrangements 2 = .ok (.aload_n 0, 1) := by decide +kernel
theorem dX2_arrangements_3 : decode cX2_arrangements 3 = .ok (.getfield 15, 3) := by decide +kernel
theorem dX2_arrangements_6 : decode cX2_arrangements 6 = .ok (.imul, 1) := by decide +kernel
theorem dX2_arrangements_7 : decode cX2_arrangements 7 = .ok (.ishl, 1) := by decide +kernel
theorem dX2_arrangements_8 : decode cX2_arrangements 8 = .ok (.ireturn, 1) := by decide +kernel
def m_X2_arrangements (N : Nat) (σ : Hp) (t0 : Nat) : Option (Int32) :=
  (rv N σ t0 2).bind fun _ =>
  (gI N σ t0 2 1).bind fun x1 =>
  some ((1 : Int32) <<< (((2 : Int32) * x1) &&& 31))
set_option maxHeartbeats 4000000 in
set_option maxRecDepth 100000 in
theorem ct_X2_arrangements {l : Launch} {D : va_G} {cy : Nat → Nat} {N : Nat} {σ : Hp} {t0 : Nat} {r : Int32} (h : m_X2_arrangements N σ t0 = some r) : Ct l D cy yX2_arrangements cX2_arrangements 1 (some .int) 0 [.ref t0] N σ (fun v s' => v = (some (.int r)) ∧ s' = σ) := by
  refine Ct.intro [some (.ref t0)] (by decide) rfl (Nat.le_of_ble_eq_true rfl) ?_
  intro κ ω e1 e2 e3 e4 C Z E
  subst e1; subst e2; subst e3; subst e4
  have C : Cx κ 1 0 cX2_arrangements RX2 "arrangements" := C
  have hE : ∀ x : Int32, r = x → ((some (Value.int x)) = (some (Value.int r)) ∧ σ = σ) := fun x hx => by subst hx; exact ⟨rfl, rfl⟩
  unfold m_X2_arrangements at h
  obtain ⟨_, _, h⟩ := ob h
  refine x_iconst C (v := 1) dX2_arrangements_0 (by decide) ?_
  refine x_iconst C (v := 2) dX2_arrangements_1 (by decide) ?_
  refine x_aload_n C (i := 0) dX2_arrangements_2 rfl rfl ?_
  obtain ⟨x1, ex1, h⟩ := ob h
  refine x_getI C fl_X2_15 dX2_arrangements_3 ex1 ?_
  refine x_imul C dX2_arrangements_6 ?_
  refine x_ishl C dX2_arrangements_7 ?_
  exact x_iret C E dX2_arrangements_8 (hE ((1 : Int32) <<< (((2 : Int32) * x1) &&& 31)) (Option.some.inj h).symm)
theorem dX2_allOn_0 : decode cX2_allOn 0 = .ok (.iconst 0, 1) := by decide +kernel
theorem dX2_allOn_1 : decode cX2_allOn 1 = .ok (.istore_n 2, 1) := by decide +kernel
theorem dX2_allOn_2 : decode cX2_allOn 2 = .ok (.iconst 0, 1) := by decide +kernel
theorem dX2_allOn_3 : decode cX2_allOn 3 = .ok (.istore_n 3, 1) := by decide +kernel
theorem dX2_allOn_4 : decode cX2_allOn 4 = .ok (.iload_n 3, 1) := by decide +kernel
theorem dX2_allOn_5 : decode cX2_allOn 5 = .ok (.aload_n 0, 1) := by decide +kernel
theorem dX2_allOn_6 : decode cX2_allOn 6 = .ok (.getfield 15, 3) := by decide +kernel
theorem dX2_allOn_9 : decode cX2_allOn 9 = .ok (.if_icmp .ge 19, 3) := by decide +kernel
theorem dX2_allOn_12 : decode cX2_allOn 12 = .ok (.iload_n 2, 1) := by decide +kernel
theorem dX2_allOn_13 : decode cX2_allOn 13 = .ok (.iload_n 1, 1) := by decide +kernel
theorem dX2_allOn_14 : decode cX2_allOn 14 = .ok (.iconst 3, 1) := by decide +kernel
theorem dX2_allOn_15 : decode cX2_allOn 15 = .ok (.iand, 1) := by decide +kernel
theorem dX2_allOn_16 : decode cX2_allOn 16 = .ok (.iconst 2, 1) := by decide +kernel
theorem dX2_allOn_17 : decode cX2_allOn 17 = .ok (.iload_n 3, 1) := by decide +kernel
theorem dX2_allOn_18 : decode cX2_allOn 18 = .ok (.imul, 1) := by decide +kernel
theorem dX2_allOn_19 : decode cX2_allOn 19 = .ok (.ishl, 1) := by decide +kernel
theorem dX2_allOn_20 : decode cX2_allOn 20 = .ok (.ior, 1) := by decide +kernel
theorem dX2_allOn_21 : decode cX2_allOn 21 = .ok (.istore_n 2, 1) := by decide +kernel
theorem dX2_allOn_22 : decode cX2_allOn 22 = .ok (.iinc 3 1, 3) := by decide +kernel
theorem dX2_allOn_25 : decode cX2_allOn 25 = .ok (.goto (-21), 3) := by decide +kernel
theorem dX2_allOn_28 : decode cX2_allOn 28 = .ok (.iload_n 2, 1) := by decide +kernel
theorem dX2_allOn_29 : decode cX2_allOn 29 = .ok (.ireturn, 1) := by decide +kernel
def L_X2_allOn_4 (N : Nat) (σ : Hp) (v0 : Nat) (v1 : Int32) : Nat → Int32 → Int32 → Option (Int32)
  | 0, _, _ => none
  | n + 1, v2, v3 =>
  (gI N σ v0 2 1).bind fun x1 =>
  if x1 ≤ v3 then
   some v2
  else
   lt (v2 ||| ((v1 &&& 3) <<< (((2 : Int32) * v3) &&& 31))) fun y3 =>
  L_X2_allOn_4 N σ v0 v1 n y3 (v3 + 1)
def m_X2_allOn (N : Nat) (σ : Hp) (t0 : Nat) (p1 : Int32) : Option (Int32) :=
  (rv N σ t0 2).bind fun _ =>
  (L_X2_allOn_4 N σ t0 p1 fu 0 0).bind fun z4 =>
  some z4
set_option maxHeartbeats 4000000 in
set_option maxRecDepth 100000 in
theorem lp_X2_allOn_4 {κ : Kx} {ω : Om} (C : Cx κ 4 0 cX2_allOn RX2 "allOn") (Z : Zx κ ω) (σ : Hp) (v0 : Nat) (v1 : Int32) {r : Int32} (hk : X κ 4 ω 28 [none, none, some (.int r), none] [] σ) : ∀ (n : Nat) (v2 : Int32) (v3 : Int32), L_X2_allOn_4 ω.1 σ v0 v1 n v2 v3 = some r → X κ 4 ω 4 [some (.ref v0), some (.int v1), some (.int v2), some (.int v3)] [] σ := by
  intro n
  induction n with
  | zero => intro v2 v3 h; cases h
  | succ n ih =>
    intro v2 v3 h
    rw [L_X2_allOn_4.eq_2] at h
    refine x_iload_n C (i := 3) dX2_allOn_4 rfl rfl ?_
    refine x_aload_n C (i := 0) dX2_allOn_5 rfl rfl ?_
    obtain ⟨x1, ex1, h⟩ := ob h
    refine x_getI C fl_X2_15 dX2_allOn_6 ex1 ?_
    refine x_icmp_ge C (tgt := 28) dX2_allOn_9 (by decide) (fun c2 => ?_) (fun c2 => ?_)
    · have h := ifP h c2
      refine x_wk [false, false, true, false] (lo' := [none, none, some (.int v2), none]) rfl ?_
      obtain rfl := Option.some.inj h
      exact hk
    · have h := ifN h c2
      refine x_iload_n C (i := 2) dX2_allOn_12 rfl rfl ?_
      refine x_iload_n C (i := 1) dX2_allOn_13 rfl rfl ?_
      refine x_iconst C (v := 3) dX2_allOn_14 (by decide) ?_
      refine x_iand C dX2_allOn_15 ?_
      refine x_iconst C (v := 2) dX2_allOn_16 (by decide) ?_
      refine x_iload_n C (i := 3) dX2_allOn_17 rfl rfl ?_
      refine x_imul C dX2_allOn_18 ?_
      refine x_ishl C dX2_allOn_19 ?_
      refine x_ior C dX2_allOn_20 ?_
      refine x_topi (fun y3 ey3 => ?_)
      have h := lt_e h ey3
      refine x_istore_n C (i := 2) (lo' := [some (.ref v0), some (.int v1), some (.int y3), some (.int v3)]) dX2_allOn_21 rfl (by decide) rfl rfl ?_
      refine x_iinc C (i := 3) (y := v3 + 1) (lo' := [some (.ref v0), some (.int v1), some (.int y3), some (.int (v3 + 1))]) dX2_allOn_22 rfl rfl (by decide) rfl rfl ?_
      refine x_goto C (tgt := 4) dX2_allOn_25 (by decide) ?_
      refine x_wk [true, true, true, true] (lo' := [some (.ref v0), some (.int v1), some (.int y3), some (.int (v3 + 1))]) rfl ?_
      exact ih y3 (v3 + 1) h
set_option maxHeartbeats 4000000 in
set_option maxRecDepth 100000 in
theorem ct_X2_allOn {l : Launch} {D : va_G} {cy : Nat → Nat} {N : Nat} {σ : Hp} {t0 : Nat} {p1 : Int32} {r : Int32} (h : m_X2_allOn N σ t0 p1 = some r) : Ct l D cy yX2_allOn cX2_allOn 4 (some .int) 0 [.ref t0, .int p1] N σ (fun v s' => v = (some (.int r)) ∧ s' = σ) := by
  refine Ct.intro [some (.ref t0), some (.int p1), none, none] (by decide) rfl (Nat.le_of_ble_eq_true rfl) ?_
  intro κ ω e1 e2 e3 e4 C Z E
  subst e1; subst e2; subst e3; subst e4
  have C : Cx κ 4 0 cX2_allOn RX2 "allOn" := C
  have hE : ∀ x : Int32, r = x → ((some (Value.int x)) = (some (Value.int r)) ∧ σ = σ) := fun x hx => by subst hx; exact ⟨rfl, rfl⟩
  unfold m_X2_allOn at h
  obtain ⟨_, _, h⟩ := ob h
  refine x_iconst C (v := 0) dX2_allOn_0 (by decide) ?_
  refine x_istore_n C (i := 2) (lo' := [some (.ref t0), some (.int p1), some (.int 0), none]) dX2_allOn_1 rfl (by decide) rfl rfl ?_
  refine x_iconst C (v := 0) dX2_allOn_2 (by decide) ?_
  refine x_istore_n C (i := 3) (lo' := [some (.ref t0), some (.int p1), some (.int 0), some (.int 0)]) dX2_allOn_3 rfl (by decide) rfl rfl ?_
  obtain ⟨z4, ez4, h⟩ := ob h
  refine x_wk [true, true, true, true] (lo' := [some (.ref t0), some (.int p1), some (.int 0), some (.int 0)]) rfl ?_
  refine lp_X2_allOn_4 C Z σ t0 p1 ?_ _ 0 0 ez4
  refine x_iload_n C (i := 2) dX2_allOn_28 rfl rfl ?_
  exact x_iret C E dX2_allOn_29 (hE z4 (Option.some.inj h).symm)
theorem dX5_itemAt_0 : decode cX5_itemAt 0 = .ok (.iload_n 1, 1) := by decide +kernel
theorem dX5_itemAt_1 : decode cX5_itemAt 1 = .ok (.ifCond .lt 11, 3) := by decide +kernel
theorem dX5_itemAt_4 : decode cX5_itemAt 4 = .ok (.iload_n 1, 1) := by decide +kernel
theorem dX5_itemAt_5 : decode cX5_itemAt 5 = .ok (.aload_n 0, 1) := by decide +kernel
theorem dX5_itemAt_6 : decode cX5_itemAt 6 = .ok (.getfield 19, 3) := by decide +kernel
theorem dX5_itemAt_9 : decode cX5_itemAt 9 = .ok (.if_icmp .lt 8, 3) := by decide +kernel
theorem dX5_itemAt_12 : decode cX5_itemAt 12 = .ok (.ldc 32, 2) := by decide +kernel
theorem dX5_itemAt_14 : decode cX5_itemAt 14 = .ok (.goto 9, 3) := by decide +kernel
theorem dX5_itemAt_17 : decode cX5_itemAt 17 = .ok (.aload_n 0, 1) := by decide +kernel
theorem dX5_itemAt_18 : decode cX5_itemAt 18 = .ok (.getfield 15, 3) := by decide +kernel
theorem dX5_itemAt_21 : decode cX5_itemAt 21 = .ok (.iload_n 1, 1) := by decide +kernel
theorem dX5_itemAt_22 : decode cX5_itemAt 22 = .ok (.iaload, 1) := by decide +kernel
theorem dX5_itemAt_23 : decode cX5_itemAt 23 = .ok (.ireturn, 1) := by decide +kernel
def m_X5_itemAt (N : Nat) (σ : Hp) (t0 : Nat) (p1 : Int32) : Option (Int32) :=
  (rv N σ t0 5).bind fun _ =>
  if p1 < 0 then
   some (-1000000)
  else
   (gI N σ t0 5 1).bind fun x2 =>
  if p1 < x2 then
   (gR N σ t0 5 2).bind fun x4 =>
  (aI 0 N σ x4 p1).bind fun x5 =>
  some x5
  else
   some (-1000000)
set_option maxHeartbeats 4000000 in
set_option maxRecDepth 100000 in
theorem ct_X5_itemAt {l : Launch} {D : va_G} {cy : Nat → Nat} {N : Nat} {σ : Hp} {t0 : Nat} {p1 : Int32} {r : Int32} (h : m_X5_itemAt N σ t0 p1 = some r) : Ct l D cy yX5_itemAt cX5_itemAt 2 (some .int) 0 [.ref t0, .int p1] N σ (fun v s' => v = (some (.int r)) ∧ s' = σ) := by
  refine Ct.intro [some (.ref t0), some (.int p1)] (by decide) rfl (Nat.le_of_ble_eq_true rfl) ?_
  intro κ ω e1 e2 e3 e4 C Z E
  subst e1; subst e2; subst e3; subst e4
  have C : Cx κ 2 0 cX5_itemAt RX5 "itemAt" := C
  have hE : ∀ x : Int32, r = x → ((some (Value.int x)) = (some (Value.int r)) ∧ σ = σ) := fun x hx => by subst hx; exact ⟨rfl, rfl⟩
  unfold m_X5_itemAt at h
  obtain ⟨_, _, h⟩ := ob h
  refine x_iload_n C (i := 1) dX5_itemAt_0 rfl rfl ?_
  refine x_if_lt C (tgt := 12) dX5_itemAt_1 (by decide) (fun c1 => ?_) (fun c1 => ?_)
  · have h := ifP h c1
    refine x_ldc C kc_X5_32 dX5_itemAt_12 ?_
    refine x_goto C (tgt := 23) dX5_itemAt_14 (by decide) ?_
    exact x_iret C E dX5_itemAt_23 (hE (-1000000) (Option.some.inj h).symm)
  · have h := ifN h c1
    refine x_iload_n C (i := 1) dX5_itemAt_4 rfl rfl ?_
    refine x_aload_n C (i := 0) dX5_itemAt_5 rfl rfl ?_
    obtain ⟨x2, ex2, h⟩ := ob h
    refine x_getI C fl_X5_19 dX5_itemAt_6 ex2 ?_
    refine x_icmp_lt C (tgt := 17) dX5_itemAt_9 (by decide) (fun c3 => ?_) (fun c3 => ?_)
    · have h := ifP h c3
      refine x_aload_n C (i := 0) dX5_itemAt_17 rfl rfl ?_
      obtain ⟨x4, ex4, h⟩ := ob h
      refine x_getR C fl_X5_15 dX5_itemAt_18 ex4 ?_
      refine x_iload_n C (i := 1) dX5_itemAt_21 rfl rfl ?_
      obtain ⟨x5, ex5, h⟩ := ob h
      refine x_iald C dX5_itemAt_22 ex5 ?_
      exact x_iret C E dX5_itemAt_23 (hE x5 (Option.some.inj h).symm)
    · have h := ifN h c3
      refine x_ldc C kc_X5_32 dX5_itemAt_12 ?_
      refine x_goto C (tgt := 23) dX5_itemAt_14 (by decide) ?_
      exact x_iret C E dX5_itemAt_23 (hE (-1000000) (Option.some.inj h).symm)
theorem dX2_arrangedBy_0 : decode cX2_arrangedBy 0 = .ok (.iconst 0, 1) := by decide +kernel
theorem dX2_arrangedBy_1 : decode cX2_arrangedBy 1 = .ok (.istore_n 3, 1) := by decide +kernel
theorem dX2_arrangedBy_2 : decode cX2_arrangedBy 2 = .ok (.iconst 0, 1) := by decide +kernel
theorem dX2_arrangedBy_3 : decode cX2_arrangedBy 3 = .ok (.istore 4, 2) := by decide +kernel
theorem dX2_arrangedBy_5 : decode cX2_arrangedBy 5 = .ok (.iload 4, 2) := by decide +kernel
theorem dX2_arrangedBy_7 : decode cX2_arrangedBy 7 = .ok (.aload_n 0, 1) := by decide +kernel
theorem dX2_arrangedBy_8 : decode cX2_arrangedBy 8 = .ok (.getfield 15, 3) := by decide +kernel
theorem dX2_arrangedBy_11 : decode cX2_arrangedBy 11 = .ok (.if_icmp .ge 40, 3) := by decide +kernel
theorem dX2_arrangedBy_14 : decode cX2_arrangedBy 14 = .ok (.aload_n 1, 1) := by decide +kernel
theorem dX2_arrangedBy_15 : decode cX2_arrangedBy 15 = .ok (.iload_n 2, 1) := by decide +kernel
theorem dX2_arrangedBy_16 : decode cX2_arrangedBy 16 = .ok (.iload 4, 2) := by decide +kernel
theorem dX2_arrangedBy_18 : decode cX2_arrangedBy 18 = .ok (.iadd, 1) := by decide +kernel
theorem dX2_arrangedBy_19 : decode cX2_arrangedBy 19 = .ok (.invokevirtual 38, 3) := by decide +kernel
theorem dX2_arrangedBy_22 : decode cX2_arrangedBy 22 = .ok (.istore 5, 2) := by decide +kernel
theorem dX2_arrangedBy_24 : decode cX2_arrangedBy 24 = .ok (.aload_n 0, 1) := by decide +kernel
theorem dX2_arrangedBy_25 : decode cX2_arrangedBy 25 = .ok (.iload 5, 2) := by decide +kernel
theorem dX2_arrangedBy_27 : decode cX2_arrangedBy 27 = .ok (.invokevirtual 43, 3) := by decide +kernel
theorem dX2_arrangedBy_30 : decode cX2_arrangedBy 30 = .ok (.ifCond .ne 5, 3) := by decide +kernel
theorem dX2_arrangedBy_33 : decode cX2_arrangedBy 33 = .ok (.iconst (-1), 1) := by decide +kernel
theorem dX2_arrangedBy_34 : decode cX2_arrangedBy 34 = .ok (.ireturn, 1) := by decide +kernel
theorem dX2_arrangedBy_35 : decode cX2_arrangedBy 35 = .ok (.iload_n 3, 1) := by decide +kernel
theorem dX2_arrangedBy_36 : decode cX2_arrangedBy 36 = .ok (.iload 5, 2) := by decide +kernel
theorem dX2_arrangedBy_38 : decode cX2_arrangedBy 38 = .ok (.iconst 2, 1) := by decide +kernel
theorem dX2_arrangedBy_39 : decode cX2_arrangedBy 39 = .ok (.iload 4, 2) := by decide +kernel
theorem dX2_arrangedBy_41 : decode cX2_arrangedBy 41 = .ok (.imul, 1) := by decide +kernel
theorem dX2_arrangedBy_42 : decode cX2_arrangedBy 42 = .ok (.ishl, 1) := by decide +kernel
theorem dX2_arrangedBy_43 : decode cX2_arrangedBy 43 = .ok (.ior, 1) := by decide +kernel
theorem dX2_arrangedBy_44 : decode cX2_arrangedBy 44 = .ok (.istore_n 3, 1) := by decide +kernel
theorem dX2_arrangedBy_45 : decode cX2_arrangedBy 45 = .ok (.iinc 4 1, 3) := by decide +kernel
theorem dX2_arrangedBy_48 : decode cX2_arrangedBy 48 = .ok (.goto (-43), 3) := by decide +kernel
theorem dX2_arrangedBy_51 : decode cX2_arrangedBy 51 = .ok (.iload_n 3, 1) := by decide +kernel
theorem dX2_arrangedBy_52 : decode cX2_arrangedBy 52 = .ok (.ireturn, 1) := by decide +kernel
def L_X2_arrangedBy_5 (N : Nat) (σ : Hp) (v0 : Nat) (v1 : Nat) (v2 : Int32) : Nat → Int32 → Int32 → Option ((Int32) ⊕ (Int32))
  | 0, _, _ => none
  | n + 1, v3, v4 =>
  (gI N σ v0 2 1).bind fun x1 =>
  if x1 ≤ v4 then
   some (.inl v3)
  else
   (m_X5_itemAt N σ v1 (v2 + v4)).bind fun r3 =>
  (m_X2_hasPeg N σ v0 r3).bind fun r4 =>
  if r4 = 0 then
   some (.inr (-1))
  else
   lt (v3 ||| (r3 <<< (((2 : Int32) * v4) &&& 31))) fun y6 =>
  L_X2_arrangedBy_5 N σ v0 v1 v2 n y6 (v4 + 1)
def m_X2_arrangedBy (N : Nat) (σ : Hp) (t0 : Nat) (p1 : Nat) (p2 : Int32) : Option (Int32) :=
  (rv N σ t0 2).bind fun _ =>
  (L_X2_arrangedBy_5 N σ t0 p1 p2 fu 0 0).bind fun z7 =>
  cS z7 (fun w8 => some w8) (fun q9 => some q9)
set_option maxHeartbeats 4000000 in
set_option maxRecDepth 100000 in
theorem lp_X2_arrangedBy_5 {κ : Kx} {ω : Om} (C : Cx κ 6 1 cX2_arrangedBy RX2 "arrangedBy") (Z : Zx κ ω) {Post : Option Value → Hp → Prop} (E : Rt κ ω (some .int) Post) (σ : Hp) (v0 : Nat) (v1 : Nat) (v2 : Int32) {r : (Int32) ⊕ (Int32)} (hE : ∀ x : Int32, r = .inr x → Post (some (.int x)) σ) (hk : ∀ u, r = .inl u → X κ 6 ω 51 [none, none, none, some (.int u), none, none] [] σ) : ∀ (n : Nat) (v3 : Int32) (v4 : Int32), L_X2_arrangedBy_5 ω.1 σ v0 v1 v2 n v3 v4 = some r → X κ 6 ω 5 [some (.ref v0), some (.ref v1), some (.int v2), some (.int v3), some (.int v4), none] [] σ := by
  intro n
  induction n with
  | zero => intro v3 v4 h; cases h
  | succ n ih =>
    intro v3 v4 h
    rw [L_X2_arrangedBy_5.eq_2] at h
    refine x_iload C (i := 4) dX2_arrangedBy_5 rfl ?_
    refine x_aload_n C (i := 0) dX2_arrangedBy_7 rfl rfl ?_
    obtain ⟨x1, ex1, h⟩ := ob h
    refine x_getI C fl_X2_15 dX2_arrangedBy_8 ex1 ?_
    refine x_icmp_ge C (tgt := 51) dX2_arrangedBy_11 (by decide) (fun c2 => ?_) (fun c2 => ?_)
    · have h := ifP h c2
      refine x_wk [false, false, false, true, false, false] (lo' := [none, none, none, some (.int v3), none, none]) rfl ?_
      exact hk _ (Option.some.inj h).symm
    · have h := ifN h c2
      refine x_aload_n C (i := 1) dX2_arrangedBy_14 rfl rfl ?_
      refine x_iload_n C (i := 2) dX2_arrangedBy_15 rfl rfl ?_
      refine x_iload C (i := 4) dX2_arrangedBy_16 rfl ?_
      refine x_iadd C dX2_arrangedBy_18 ?_
      obtain ⟨r3, er3, h⟩ := ob h
      refine x_callVr C Z mv_X5_itemAt lk_X2_38 (rv_h er3) (ct_X5_itemAt er3) (by decide) rfl rfl (Nat.le_of_ble_eq_true rfl) dX2_arrangedBy_19 ?_
      refine x_istore C (i := 5) (lo' := [some (.ref v0), some (.ref v1), some (.int v2), some (.int v3), some (.int v4), some (.int r3)]) dX2_arrangedBy_22 (by decide) rfl rfl ?_
      refine x_aload_n C (i := 0) dX2_arrangedBy_24 rfl rfl ?_
      refine x_iload C (i := 5) dX2_arrangedBy_25 rfl ?_
      obtain ⟨r4, er4, h⟩ := ob h
      refine x_callVr C Z mv_X2_hasPeg lk_X2_43 (rv_h er4) (ct_X2_hasPeg er4) (by decide) rfl rfl (Nat.le_of_ble_eq_true rfl) dX2_arrangedBy_27 ?_
      refine x_if_ne C (tgt := 35) dX2_arrangedBy_30 (by decide) (fun c5 => ?_) (fun c5 => ?_)
      · have h := ifN h c5
        refine x_iload_n C (i := 3) dX2_arrangedBy_35 rfl rfl ?_
        refine x_iload C (i := 5) dX2_arrangedBy_36 rfl ?_
        refine x_iconst C (v := 2) dX2_arrangedBy_38 (by decide) ?_
        refine x_iload C (i := 4) dX2_arrangedBy_39 rfl ?_
        refine x_imul C dX2_arrangedBy_41 ?_
        refine x_ishl C dX2_arrangedBy_42 ?_
        refine x_ior C dX2_arrangedBy_43 ?_
        refine x_topi (fun y6 ey6 => ?_)
        have h := lt_e h ey6
        refine x_istore_n C (i := 3) (lo' := [some (.ref v0), some (.ref v1), some (.int v2), some (.int y6), some (.int v4), some (.int r3)]) dX2_arrangedBy_44 rfl (by decide) rfl rfl ?_
        refine x_iinc C (i := 4) (y := v4 + 1) (lo' := [some (.ref v0), some (.ref v1), some (.int v2), some (.int y6), some (.int (v4 + 1)), some (.int r3)]) dX2_arrangedBy_45 rfl rfl (by decide) rfl rfl ?_
        refine x_goto C (tgt := 5) dX2_arrangedBy_48 (by decide) ?_
        refine x_wk [true, true, true, true, true, false] (lo' := [some (.ref v0), some (.ref v1), some (.int v2), some (.int y6), some (.int (v4 + 1)), none]) rfl ?_
        exact ih y6 (v4 + 1) h
      · have h := ifP h c5
        refine x_iconst C (v := (-1)) dX2_arrangedBy_33 (by decide) ?_
        exact x_iret C E dX2_arrangedBy_34 (hE (-1) (Option.some.inj h).symm)
set_option maxHeartbeats 4000000 in
set_option maxRecDepth 100000 in
theorem ct_X2_arrangedBy {l : Launch} {D : va_G} {cy : Nat → Nat} {N : Nat} {σ : Hp} {t0 : Nat} {p1 : Nat} {p2 : Int32} {r : Int32} (h : m_X2_arrangedBy N σ t0 p1 p2 = some r) : Ct l D cy yX2_arrangedBy cX2_arrangedBy 6 (some .int) 1 [.ref t0, .ref p1, .int p2] N σ (fun v s' => v = (some (.int r)) ∧ s' = σ) := by
  refine Ct.intro [some (.ref t0), some (.ref p1), some (.int p2), none, none, none] (by decide) rfl (Nat.le_of_ble_eq_true rfl) ?_
  intro κ ω e1 e2 e3 e4 C Z E
  subst e1; subst e2; subst e3; subst e4
  have C : Cx κ 6 1 cX2_arrangedBy RX2 "arrangedBy" := C
  have hE : ∀ x : Int32, r = x → ((some (Value.int x)) = (some (Value.int r)) ∧ σ = σ) := fun x hx => by subst hx; exact ⟨rfl, rfl⟩
  unfold m_X2_arrangedBy at h
  obtain ⟨_, _, h⟩ := ob h
  refine x_iconst C (v := 0) dX2_arrangedBy_0 (by decide) ?_
  refine x_istore_n C (i := 3) (lo' := [some (.ref t0), some (.ref p1), some (.int p2), some (.int 0), none, none]) dX2_arrangedBy_1 rfl (by decide) rfl rfl ?_
  refine x_iconst C (v := 0) dX2_arrangedBy_2 (by decide) ?_
  refine x_istore C (i := 4) (lo' := [some (.ref t0), some (.ref p1), some (.int p2), some (.int 0), some (.int 0), none]) dX2_arrangedBy_3 (by decide) rfl rfl ?_
  obtain ⟨z7, ez7, h⟩ := ob h
  refine x_wk [true, true, true, true, true, false] (lo' := [some (.ref t0), some (.ref p1), some (.int p2), some (.int 0), some (.int 0), none]) rfl ?_
  refine lp_X2_arrangedBy_5 C Z E σ t0 p1 p2 (fun q9 hx => by subst hx; have h := cS_r h; exact hE q9 (Option.some.inj h).symm) (fun w8 hu => ?_) _ 0 0 ez7
  subst hu
  have h := cS_l h
  refine x_iload_n C (i := 3) dX2_arrangedBy_51 rfl rfl ?_
  exact x_iret C E dX2_arrangedBy_52 (hE w8 (Option.some.inj h).symm)
theorem dX2_codeOf_0 : decode cX2_codeOf 0 = .ok (.iconst 0, 1) := by decide +kernel
theorem dX2_codeOf_1 : decode cX2_codeOf 1 = .ok (.istore_n 2, 1) := by decide +kernel
theorem dX2_codeOf_2 : decode cX2_codeOf 2 = .ok (.aload_n 0, 1) := by decide +kernel
theorem dX2_codeOf_3 : decode cX2_codeOf 3 = .ok (.getfield 15, 3) := by decide +kernel
theorem dX2_codeOf_6 : decode cX2_codeOf 6 = .ok (.iconst 1, 1) := by decide +kernel
theorem dX2_codeOf_7 : decode cX2_codeOf 7 = .ok (.isub, 1) := by decide +kernel
theorem dX2_codeOf_8 : decode cX2_codeOf 8 = .ok (.istore_n 3, 1) := by decide +kernel
theorem dX2_codeOf_9 : decode cX2_codeOf 9 = .ok (.iload_n 3, 1) := by decide +kernel
theorem dX2_codeOf_10 : decode cX2_codeOf 10 = .ok (.ifCond .lt 22, 3) := by decide +kernel
theorem dX2_codeOf_13 : decode cX2_codeOf 13 = .ok (.bipush 10, 2) := by decide +kernel
theorem dX2_codeOf_15 : decode cX2_codeOf 15 = .ok (.iload_n 2, 1) := by decide +kernel
theorem dX2_codeOf_16 : decode cX2_codeOf 16 = .ok (.imul, 1) := by decide +kernel
theorem dX2_codeOf_17 : decode cX2_codeOf 17 = .ok (.iload_n 1, 1) := by decide +kernel
theorem dX2_codeOf_18 : decode cX2_codeOf 18 = .ok (.iconst 2, 1) := by decide +kernel
theorem dX2_codeOf_19 : decode cX2_codeOf 19 = .ok (.iload_n 3, 1) := by decide +kernel
theorem dX2_codeOf_20 : decode cX2_codeOf 20 = .ok (.imul, 1) := by decide +kernel
theorem dX2_codeOf_21 : decode cX2_codeOf 21 = .ok (.ishr, 1) := by decide +kernel
theorem dX2_codeOf_22 : decode cX2_codeOf 22 = .ok (.iconst 3, 1) := by decide +kernel
theorem dX2_codeOf_23 : decode cX2_codeOf 23 = .ok (.iand, 1) := by decide +kernel
theorem dX2_codeOf_24 : decode cX2_codeOf 24 = .ok (.iadd, 1) := by decide +kernel
theorem dX2_codeOf_25 : decode cX2_codeOf 25 = .ok (.istore_n 2, 1) := by decide +kernel
theorem dX2_codeOf_26 : decode cX2_codeOf 26 = .ok (.iinc 3 (-1), 3) := by decide +kernel
theorem dX2_codeOf_29 : decode cX2_codeOf 29 = .ok (.goto (-20), 3) := by decide +kernel
theorem dX2_codeOf_32 : decode cX2_codeOf 32 = .ok (.iload_n 2, 1) := by decide +kernel
theorem dX2_codeOf_33 : decode cX2_codeOf 33 = .ok (.ireturn, 1) := by decide +kernel
def L_X2_codeOf_9 (N : Nat) (σ : Hp) (v1 : Int32) : Nat → Int32 → Int32 → Option (Int32)
  | 0, _, _ => none
  | n + 1, v2, v3 =>
  if v3 < 0 then
   some v2
  else
   lt (((10 : Int32) * v2) + ((v1 >>> (((2 : Int32) * v3) &&& 31)) &&& 3)) fun y3 =>
  L_X2_codeOf_9 N σ v1 n y3 (v3 + (-1))
def m_X2_codeOf (N : Nat) (σ : Hp) (t0 : Nat) (p1 : Int32) : Option (Int32) :=
  (rv N σ t0 2).bind fun _ =>
  (gI N σ t0 2 1).bind fun x1 =>
  (L_X2_codeOf_9 N σ p1 fu 0 (x1 - 1)).bind fun z4 =>
  some z4
set_option maxHeartbeats 4000000 in
set_option maxRecDepth 100000 in
theorem lp_X2_codeOf_9 {κ : Kx} {ω : Om} (C : Cx κ 4 0 cX2_codeOf RX2 "codeOf") (Z : Zx κ ω) (σ : Hp) (v1 : Int32) {r : Int32} (hk : X κ 4 ω 32 [none, none, some (.int r), none] [] σ) : ∀ (n : Nat) (v2 : Int32) (v3 : Int32), L_X2_codeOf_9 ω.1 σ v1 n v2 v3 = some r → X κ 4 ω 9 [none, some (.int v1), some (.int v2), some (.int v3)] [] σ := by
  intro n
  induction n with
  | zero => intro v2 v3 h; cases h
  | succ n ih =>
    intro v2 v3 h
    rw [L_X2_codeOf_9.eq_2] at h
    refine x_iload_n C (i := 3) dX2_codeOf_9 rfl rfl ?_
    refine x_if_lt C (tgt := 32) dX2_codeOf_10 (by decide) (fun c2 => ?_) (fun c2 => ?_)
    · have h := ifP h c2
      refine x_wk [false, false, true, false] (lo' := [none, none, some (.int v2), none]) rfl ?_
      obtain rfl := Option.some.inj h
      exact hk
    · have h := ifN h c2
      refine x_bipush C (v := 10) dX2_codeOf_13 (by decide) ?_
      refine x_iload_n C (i := 2) dX2_codeOf_15 rfl rfl ?_
      refine x_imul C dX2_codeOf_16 ?_
      refine x_iload_n C (i := 1) dX2_codeOf_17 rfl rfl ?_
      refine x_iconst C (v := 2) dX2_codeOf_18 (by decide) ?_
      refine x_iload_n C (i := 3) dX2_codeOf_19 rfl rfl ?_
      refine x_imul C dX2_codeOf_20 ?_
      refine x_ishr C dX2_codeOf_21 ?_
      refine x_iconst C (v := 3) dX2_codeOf_22 (by decide) ?_
      refine x_iand C dX2_codeOf_23 ?_
      refine x_iadd C dX2_codeOf_24 ?_
      refine x_topi (fun y3 ey3 => ?_)
      have h := lt_e h ey3
      refine x_istore_n C (i := 2) (lo' := [none, some (.int v1), some (.int y3), some (.int v3)]) dX2_codeOf_25 rfl (by decide) rfl rfl ?_
      refine x_iinc C (i := 3) (y := v3 + (-1)) (lo' := [none, some (.int v1), some (.int y3), some (.int (v3 + (-1)))]) dX2_codeOf_26 rfl rfl (by decide) rfl rfl ?_
      refine x_goto C (tgt := 9) dX2_codeOf_29 (by decide) ?_
      refine x_wk [false, true, true, true] (lo' := [none, some (.int v1), some (.int y3), some (.int (v3 + (-1)))]) rfl ?_
      exact ih y3 (v3 + (-1)) h
set_option maxHeartbeats 4000000 in
set_option maxRecDepth 100000 in
theorem ct_X2_codeOf {l : Launch} {D : va_G} {cy : Nat → Nat} {N : Nat} {σ : Hp} {t0 : Nat} {p1 : Int32} {r : Int32} (h : m_X2_codeOf N σ t0 p1 = some r) : Ct l D cy yX2_codeOf cX2_codeOf 4 (some .int) 0 [.ref t0, .int p1] N σ (fun v s' => v = (some (.int r)) ∧ s' = σ) := by
  refine Ct.intro [some (.ref t0), some (.int p1), none, none] (by decide) rfl (Nat.le_of_ble_eq_true rfl) ?_
  intro κ ω e1 e2 e3 e4 C Z E
  subst e1; subst e2; subst e3; subst e4
  have C : Cx κ 4 0 cX2_codeOf RX2 "codeOf" := C
  have hE : ∀ x : Int32, r = x → ((some (Value.int x)) = (some (Value.int r)) ∧ σ = σ) := fun x hx => by subst hx; exact ⟨rfl, rfl⟩
  unfold m_X2_codeOf at h
  obtain ⟨_, _, h⟩ := ob h
  refine x_iconst C (v := 0) dX2_codeOf_0 (by decide) ?_
  refine x_istore_n C (i := 2) (lo' := [some (.ref t0), some (.int p1), some (.int 0), none]) dX2_codeOf_1 rfl (by decide) rfl rfl ?_
  refine x_aload_n C (i := 0) dX2_codeOf_2 rfl rfl ?_
  obtain ⟨x1, ex1, h⟩ := ob h
  refine x_getI C fl_X2_15 dX2_codeOf_3 ex1 ?_
  refine x_iconst C (v := 1) dX2_codeOf_6 (by decide) ?_
  refine x_isub C dX2_codeOf_7 ?_
  refine x_istore_n C (i := 3) (lo' := [some (.ref t0), some (.int p1), some (.int 0), some (.int (x1 - 1))]) dX2_codeOf_8 rfl (by decide) rfl rfl ?_
  obtain ⟨z4, ez4, h⟩ := ob h
  refine x_wk [false, true, true, true] (lo' := [none, some (.int p1), some (.int 0), some (.int (x1 - 1))]) rfl ?_
  refine lp_X2_codeOf_9 C Z σ p1 ?_ _ 0 (x1 - 1) ez4
  refine x_iload_n C (i := 2) dX2_codeOf_32 rfl rfl ?_
  exact x_iret C E dX2_codeOf_33 (hE z4 (Option.some.inj h).symm)
theorem dX2_leastOf_0 : decode cX2_leastOf 0 = .ok (.iload_n 0, 1) := by decide +kernel
theorem dX2_leastOf_1 : decode cX2_leastOf 1 = .ok (.iload_n 0, 1) := by decide +kernel
theorem dX2_leastOf_2 : decode cX2_leastOf 2 = .ok (.ineg, 1) := by decide +kernel
theorem dX2_leastOf_3 : decode cX2_leastOf 3 = .ok (.iand, 1) := by decide +kernel
theorem dX2_leastOf_4 : decode cX2_leastOf 4 = .ok (.iconst 1, 1) := by decide +kernel
theorem dX2_leastOf_5 : decode cX2_leastOf 5 = .ok (.isub, 1) := by decide +kernel
theorem dX2_leastOf_6 : decode cX2_leastOf 6 = .ok (.invokestatic 68, 3) := by decide +kernel
theorem dX2_leastOf_9 : decode cX2_leastOf 9 = .ok (.ireturn, 1) := by decide +kernel
def m_X2_leastOf (p0 : Int32) : Option (Int32) :=
  (m_J6_bitCount_0f7a4 ((p0 &&& (-p0)) - 1)).bind fun r1 =>
  some r1
set_option maxHeartbeats 4000000 in
set_option maxRecDepth 100000 in
theorem ct_X2_leastOf {l : Launch} {D : va_G} {cy : Nat → Nat} {N : Nat} {σ : Hp} {p0 : Int32} {r : Int32} (h : m_X2_leastOf p0 = some r) : Ct l D cy yX2_leastOf cX2_leastOf 1 (some .int) 1 [.int p0] N σ (fun v s' => v = (some (.int r)) ∧ s' = σ) := by
  refine Ct.intro [some (.int p0)] (by decide) rfl (Nat.le_of_ble_eq_true rfl) ?_
  intro κ ω e1 e2 e3 e4 C Z E
  subst e1; subst e2; subst e3; subst e4
  have C : Cx κ 1 1 cX2_leastOf RX2 "leastOf" := C
  have hE : ∀ x : Int32, r = x → ((some (Value.int x)) = (some (Value.int r)) ∧ σ = σ) := fun x hx => by subst hx; exact ⟨rfl, rfl⟩
  unfold m_X2_leastOf at h
  refine x_iload_n C (i := 0) dX2_leastOf_0 rfl rfl ?_
  refine x_iload_n C (i := 0) dX2_leastOf_1 rfl rfl ?_
  refine x_ineg C dX2_leastOf_2 ?_
  refine x_iand C dX2_leastOf_3 ?_
  refine x_iconst C (v := 1) dX2_leastOf_4 (by decide) ?_
  refine x_isub C dX2_leastOf_5 ?_
  obtain ⟨r1, er1, h⟩ := ob h
  refine x_callSr C Z ms_J6_bitCount_0f7a4 lk_X2_68 (ct_J6_bitCount_0f7a4 (N := ω.1) (σ := σ) er1) (by decide) rfl rfl (Nat.le_of_ble_eq_true rfl) dX2_leastOf_6 ?_
  exact x_iret C E dX2_leastOf_9 (hE r1 (Option.some.inj h).symm)
theorem dX2_topOf_0 : decode cX2_topOf 0 = .ok (.aload_n 0, 1) := by decide +kernel
theorem dX2_topOf_1 : decode cX2_topOf 1 = .ok (.iload_n 1, 1) := by decide +kernel
theorem dX2_topOf_2 : decode cX2_topOf 2 = .ok (.invokevirtual 50, 3) := by decide +kernel
theorem dX2_topOf_5 : decode cX2_topOf 5 = .ok (.invokestatic 53, 3) := by decide +kernel
theorem dX2_topOf_8 : decode cX2_topOf 8 = .ok (.ireturn, 1) := by decide +kernel
def m_X2_topOf (N : Nat) (σ : Hp) (t0 : Nat) (p1 : Int32) : Option (Int32) :=
  (rv N σ t0 2).bind fun _ =>
  (m_X2_lyingOn N σ t0 p1).bind fun r1 =>
  (m_X2_leastOf r1).bind fun r2 =>
  some r2
set_option maxHeartbeats 4000000 in
set_option maxRecDepth 100000 in
theorem ct_X2_topOf {l : Launch} {D : va_G} {cy : Nat → Nat} {N : Nat} {σ : Hp} {t0 : Nat} {p1 : Int32} {r : Int32} (h : m_X2_topOf N σ t0 p1 = some r) : Ct l D cy yX2_topOf cX2_topOf 2 (some .int) 2 [.ref t0, .int p1] N σ (fun v s' => v = (some (.int r)) ∧ s' = σ) := by
  refine Ct.intro [some (.ref t0), some (.int p1)] (by decide) rfl (Nat.le_of_ble_eq_true rfl) ?_
  intro κ ω e1 e2 e3 e4 C Z E
  subst e1; subst e2; subst e3; subst e4
  have C : Cx κ 2 2 cX2_topOf RX2 "topOf" := C
  have hE : ∀ x : Int32, r = x → ((some (Value.int x)) = (some (Value.int r)) ∧ σ = σ) := fun x hx => by subst hx; exact ⟨rfl, rfl⟩
  unfold m_X2_topOf at h
  obtain ⟨_, _, h⟩ := ob h
  refine x_aload_n C (i := 0) dX2_topOf_0 rfl rfl ?_
  refine x_iload_n C (i := 1) dX2_topOf_1 rfl rfl ?_
  obtain ⟨r1, er1, h⟩ := ob h
  refine x_callVr C Z mv_X2_lyingOn lk_X2_50 (rv_h er1) (ct_X2_lyingOn er1) (by decide) rfl rfl (Nat.le_of_ble_eq_true rfl) dX2_topOf_2 ?_
  obtain ⟨r2, er2, h⟩ := ob h
  refine x_callSr C Z ms_X2_leastOf lk_X2_53 (ct_X2_leastOf (N := ω.1) (σ := σ) er2) (by decide) rfl rfl (Nat.le_of_ble_eq_true rfl) dX2_topOf_5 ?_
  exact x_iret C E dX2_topOf_8 (hE r2 (Option.some.inj h).symm)
theorem dX2_mayGo_0 : decode cX2_mayGo 0 = .ok (.iload_n 3, 1) := by decide +kernel
theorem dX2_mayGo_1 : decode cX2_mayGo 1 = .ok (.iconst 1, 1) := by decide +kernel
theorem dX2_mayGo_2 : decode cX2_mayGo 2 = .ok (.iload_n 1, 1) := by decide +kernel
theorem dX2_mayGo_3 : decode cX2_mayGo 3 = .ok (.ishl, 1) := by decide +kernel
theorem dX2_mayGo_4 : decode cX2_mayGo 4 = .ok (.iconst 1, 1) := by decide +kernel
theorem dX2_mayGo_5 : decode cX2_mayGo 5 = .ok (.isub, 1) := by decide +kernel
theorem dX2_mayGo_6 : decode cX2_mayGo 6 = .ok (.iand, 1) := by decide +kernel
theorem dX2_mayGo_7 : decode cX2_mayGo 7 = .ok (.ifCond .eq 5, 3) := by decide +kernel
theorem dX2_mayGo_10 : decode cX2_mayGo 10 = .ok (.iconst 0, 1) := by decide +kernel
theorem dX2_mayGo_11 : decode cX2_mayGo 11 = .ok (.ireturn, 1) := by decide +kernel
theorem dX2_mayGo_12 : decode cX2_mayGo 12 = .ok (.aload_n 0, 1) := by decide +kernel
theorem dX2_mayGo_13 : decode cX2_mayGo 13 = .ok (.iload_n 1, 1) := by decide +kernel
theorem dX2_mayGo_14 : decode cX2_mayGo 14 = .ok (.invokevirtual 34, 3) := by decide +kernel
theorem dX2_mayGo_17 : decode cX2_mayGo 17 = .ok (.tableswitch 102 2 5 #[31, 47, 63, 80], 31) := by decide +kernel
theorem dX2_mayGo_48 : decode cX2_mayGo 48 = .ok (.iload_n 2, 1) := by decide +kernel
theorem dX2_mayGo_49 : decode cX2_mayGo 49 = .ok (.iconst 1, 1) := by decide +kernel
theorem dX2_mayGo_50 : decode cX2_mayGo 50 = .ok (.if_icmp .eq 8, 3) := by decide +kernel
theorem dX2_mayGo_53 : decode cX2_mayGo 53 = .ok (.iload_n 2, 1) := by decide +kernel
theorem dX2_mayGo_54 : decode cX2_mayGo 54 = .ok (.iconst (-1), 1) := by decide +kernel
theorem dX2_mayGo_55 : decode cX2_mayGo 55 = .ok (.if_icmp .ne 7, 3) := by decide +kernel
theorem dX2_mayGo_58 : decode cX2_mayGo 58 = .ok (.iconst 1, 1) := by decide +kernel
theorem dX2_mayGo_59 : decode cX2_mayGo 59 = .ok (.goto 4, 3) := by decide +kernel
theorem dX2_mayGo_62 : decode cX2_mayGo 62 = .ok (.iconst 0, 1) := by decide +kernel
theorem dX2_mayGo_63 : decode cX2_mayGo 63 = .ok (.ireturn, 1) := by decide +kernel
theorem dX2_mayGo_64 : decode cX2_mayGo 64 = .ok (.iload_n 3, 1) := by decide +kernel
theorem dX2_mayGo_65 : decode cX2_mayGo 65 = .ok (.iload_n 1, 1) := by decide +kernel
theorem dX2_mayGo_66 : decode cX2_mayGo 66 = .ok (.iconst 1, 1) := by decide +kernel
theorem dX2_mayGo_67 : decode cX2_mayGo 67 = .ok (.iadd, 1) := by decide +kernel
theorem dX2_mayGo_68 : decode cX2_mayGo 68 = .ok (.ishr, 1) := by decide +kernel
theorem dX2_mayGo_69 : decode cX2_mayGo 69 = .ok (.iconst 1, 1) := by decide +kernel
theorem dX2_mayGo_70 : decode cX2_mayGo 70 = .ok (.iand, 1) := by decide +kernel
theorem dX2_mayGo_71 : decode cX2_mayGo 71 = .ok (.ifCond .ne 7, 3) := by decide +kernel
theorem dX2_mayGo_74 : decode cX2_mayGo 74 = .ok (.iconst 1, 1) := by decide +kernel
theorem dX2_mayGo_75 : decode cX2_mayGo 75 = .ok (.goto 4, 3) := by decide +kernel
theorem dX2_mayGo_78 : decode cX2_mayGo 78 = .ok (.iconst 0, 1) := by decide +kernel
theorem dX2_mayGo_79 : decode cX2_mayGo 79 = .ok (.ireturn, 1) := by decide +kernel
theorem dX2_mayGo_80 : decode cX2_mayGo 80 = .ok (.iload_n 3, 1) := by decide +kernel
theorem dX2_mayGo_81 : decode cX2_mayGo 81 = .ok (.invokestatic 68, 3) := by decide +kernel
theorem dX2_mayGo_84 : decode cX2_mayGo 84 = .ok (.aload_n 0, 1) := by decide +kernel
theorem dX2_mayGo_85 : decode cX2_mayGo 85 = .ok (.getfield 18, 3) := by decide +kernel
theorem dX2_mayGo_88 : decode cX2_mayGo 88 = .ok (.if_icmp .ge 7, 3) := by decide +kernel
theorem dX2_mayGo_91 : decode cX2_mayGo 91 = .ok (.iconst 1, 1) := by decide +kernel
theorem dX2_mayGo_92 : decode cX2_mayGo 92 = .ok (.goto 4, 3) := by decide +kernel
theorem dX2_mayGo_95 : decode cX2_mayGo 95 = .ok (.iconst 0, 1) := by decide +kernel
theorem dX2_mayGo_96 : decode cX2_mayGo 96 = .ok (.ireturn, 1) := by decide +kernel
theorem dX2_mayGo_97 : decode cX2_mayGo 97 = .ok (.iload_n 3, 1) := by decide +kernel
theorem dX2_mayGo_98 : decode cX2_mayGo 98 = .ok (.invokestatic 68, 3) := by decide +kernel
theorem dX2_mayGo_101 : decode cX2_mayGo 101 = .ok (.aload_n 0, 1) := by decide +kernel
theorem dX2_mayGo_102 : decode cX2_mayGo 102 = .ok (.getfield 18, 3) := by decide +kernel
theorem dX2_mayGo_105 : decode cX2_mayGo 105 = .ok (.if_icmp .ge 12, 3) := by decide +kernel
theorem dX2_mayGo_108 : decode cX2_mayGo 108 = .ok (.iload 4, 2) := by decide +kernel
theorem dX2_mayGo_110 : decode cX2_mayGo 110 = .ok (.ifCond .ne 7, 3) := by decide +kernel
theorem dX2_mayGo_113 : decode cX2_mayGo 113 = .ok (.iconst 1, 1) := by decide +kernel
theorem dX2_mayGo_114 : decode cX2_mayGo 114 = .ok (.goto 4, 3) := by decide +kernel
theorem dX2_mayGo_117 : decode cX2_mayGo 117 = .ok (.iconst 0, 1) := by decide +kernel
theorem dX2_mayGo_118 : decode cX2_mayGo 118 = .ok (.ireturn, 1) := by decide +kernel
theorem dX2_mayGo_119 : decode cX2_mayGo 119 = .ok (.iconst 1, 1) := by decide +kernel
theorem dX2_mayGo_120 : decode cX2_mayGo 120 = .ok (.ireturn, 1) := by decide +kernel
def m_X2_mayGo (N : Nat) (σ : Hp) (t0 : Nat) (p1 : Int32) (p2 : Int32) (p3 : Int32) (p4 : Int32) : Option (Int32) :=
  (rv N σ t0 2).bind fun _ =>
  if (p3 &&& (((1 : Int32) <<< (p1 &&& 31)) - 1)) = 0 then
   (m_X2_kindOf N σ t0 p1).bind fun r2 =>
  if r2 = 2 then
   if p2 = 1 then
   some 1
  else
   if p2 = (-1) then
   some 1
  else
   some 0
  else if r2 = 3 then
   if ((p3 >>> ((p1 + 1) &&& 31)) &&& 1) = 0 then
   some 1
  else
   some 0
  else if r2 = 4 then
   (m_J6_bitCount_0f7a4 p3).bind fun r9 =>
  (gI N σ t0 2 2).bind fun x10 =>
  if x10 ≤ r9 then
   some 0
  else
   some 1
  else if r2 = 5 then
   (m_J6_bitCount_0f7a4 p3).bind fun r13 =>
  (gI N σ t0 2 2).bind fun x14 =>
  if x14 ≤ r13 then
   some 0
  else
   if p4 = 0 then
   some 1
  else
   some 0
  else 
   some 1
  else
   some 0
set_option maxHeartbeats 4000000 in
set_option maxRecDepth 100000 in
theorem ct_X2_mayGo {l : Launch} {D : va_G} {cy : Nat → Nat} {N : Nat} {σ : Hp} {t0 : Nat} {p1 : Int32} {p2 : Int32} {p3 : Int32} {p4 : Int32} {r : Int32} (h : m_X2_mayGo N σ t0 p1 p2 p3 p4 = some r) : Ct l D cy yX2_mayGo cX2_mayGo 5 (some .boolean) 1 [.ref t0, .int p1, .int p2, .int p3, .int p4] N σ (fun v s' => v = (some (.int r)) ∧ s' = σ) := by
  refine Ct.intro [some (.ref t0), some (.int p1), some (.int p2), some (.int p3), some (.int p4)] (by decide) rfl (Nat.le_of_ble_eq_true rfl) ?_
  intro κ ω e1 e2 e3 e4 C Z E
  subst e1; subst e2; subst e3; subst e4
  have C : Cx κ 5 1 cX2_mayGo RX2 "mayGo" := C
  have hE : ∀ x : Int32, r = x → ((some (Value.int x)) = (some (Value.int r)) ∧ σ = σ) := fun x hx => by subst hx; exact ⟨rfl, rfl⟩
  unfold m_X2_mayGo at h
  obtain ⟨_, _, h⟩ := ob h
  refine x_iload_n C (i := 3) dX2_mayGo_0 rfl rfl ?_
  refine x_iconst C (v := 1) dX2_mayGo_1 (by decide) ?_
  refine x_iload_n C (i := 1) dX2_mayGo_2 rfl rfl ?_
  refine x_ishl C dX2_mayGo_3 ?_
  refine x_iconst C (v := 1) dX2_mayGo_4 (by decide) ?_
  refine x_isub C dX2_mayGo_5 ?_
  refine x_iand C dX2_mayGo_6 ?_
  refine x_if_eq C (tgt := 12) dX2_mayGo_7 (by decide) (fun c1 => ?_) (fun c1 => ?_)
  · have h := ifP h c1
    refine x_aload_n C (i := 0) dX2_mayGo_12 rfl rfl ?_
    refine x_iload_n C (i := 1) dX2_mayGo_13 rfl rfl ?_
    obtain ⟨r2, er2, h⟩ := ob h
    refine x_callVr C Z mv_X2_kindOf lk_X2_34 (rv_h er2) (ct_X2_kindOf er2) (by decide) rfl rfl (Nat.le_of_ble_eq_true rfl) dX2_mayGo_14 ?_
    by_cases c3 : r2 = 2
    · have h := ifP h c3
      refine x_tableIn C (off := 31) (tgt := 48) dX2_mayGo_17 (by rw [c3]; decide) (by rw [c3]; decide) (by rw [c3]; rfl) (by decide) ?_
      refine x_iload_n C (i := 2) dX2_mayGo_48 rfl rfl ?_
      refine x_iconst C (v := 1) dX2_mayGo_49 (by decide) ?_
      refine x_icmp_eq C (tgt := 58) dX2_mayGo_50 (by decide) (fun c4 => ?_) (fun c4 => ?_)
      · have h := ifP h c4
        refine x_iconst C (v := 1) dX2_mayGo_58 (by decide) ?_
        refine x_goto C (tgt := 63) dX2_mayGo_59 (by decide) ?_
        exact x_zret C E (by decide +kernel) dX2_mayGo_63 (hE 1 (Option.some.inj h).symm)
      · have h := ifN h c4
        refine x_iload_n C (i := 2) dX2_mayGo_53 rfl rfl ?_
        refine x_iconst C (v := (-1)) dX2_mayGo_54 (by decide) ?_
        refine x_icmp_ne C (tgt := 62) dX2_mayGo_55 (by decide) (fun c5 => ?_) (fun c5 => ?_)
        · have h := ifN h c5
          refine x_iconst C (v := 0) dX2_mayGo_62 (by decide) ?_
          exact x_zret C E (by decide +kernel) dX2_mayGo_63 (hE 0 (Option.some.inj h).symm)
        · have h := ifP h c5
          refine x_iconst C (v := 1) dX2_mayGo_58 (by decide) ?_
          refine x_goto C (tgt := 63) dX2_mayGo_59 (by decide) ?_
          exact x_zret C E (by decide +kernel) dX2_mayGo_63 (hE 1 (Option.some.inj h).symm)
    · have h := ifN h c3
      by_cases c6 : r2 = 3
      · have h := ifP h c6
        refine x_tableIn C (off := 47) (tgt := 64) dX2_mayGo_17 (by rw [c6]; decide) (by rw [c6]; decide) (by rw [c6]; rfl) (by decide) ?_
        refine x_iload_n C (i := 3) dX2_mayGo_64 rfl rfl ?_
        refine x_iload_n C (i := 1) dX2_mayGo_65 rfl rfl ?_
        refine x_iconst C (v := 1) dX2_mayGo_66 (by decide) ?_
        refine x_iadd C dX2_mayGo_67 ?_
        refine x_ishr C dX2_mayGo_68 ?_
        refine x_iconst C (v := 1) dX2_mayGo_69 (by decide) ?_
        refine x_iand C dX2_mayGo_70 ?_
        refine x_if_ne C (tgt := 78) dX2_mayGo_71 (by decide) (fun c7 => ?_) (fun c7 => ?_)
        · have h := ifN h c7
          refine x_iconst C (v := 0) dX2_mayGo_78 (by decide) ?_
          exact x_zret C E (by decide +kernel) dX2_mayGo_79 (hE 0 (Option.some.inj h).symm)
        · have h := ifP h c7
          refine x_iconst C (v := 1) dX2_mayGo_74 (by decide) ?_
          refine x_goto C (tgt := 79) dX2_mayGo_75 (by decide) ?_
          exact x_zret C E (by decide +kernel) dX2_mayGo_79 (hE 1 (Option.some.inj h).symm)
      · have h := ifN h c6
        by_cases c8 : r2 = 4
        · have h := ifP h c8
          refine x_tableIn C (off := 63) (tgt := 80) dX2_mayGo_17 (by rw [c8]; decide) (by rw [c8]; decide) (by rw [c8]; rfl) (by decide) ?_
          refine x_iload_n C (i := 3) dX2_mayGo_80 rfl rfl ?_
          obtain ⟨r9, er9, h⟩ := ob h
          refine x_callSr C Z ms_J6_bitCount_0f7a4 lk_X2_68 (ct_J6_bitCount_0f7a4 (N := ω.1) (σ := σ) er9) (by decide) rfl rfl (Nat.le_of_ble_eq_true rfl) dX2_mayGo_81 ?_
          refine x_aload_n C (i := 0) dX2_mayGo_84 rfl rfl ?_
          obtain ⟨x10, ex10, h⟩ := ob h
          refine x_getI C fl_X2_18 dX2_mayGo_85 ex10 ?_
          refine x_icmp_ge C (tgt := 95) dX2_mayGo_88 (by decide) (fun c11 => ?_) (fun c11 => ?_)
          · have h := ifP h c11
            refine x_iconst C (v := 0) dX2_mayGo_95 (by decide) ?_
            exact x_zret C E (by decide +kernel) dX2_mayGo_96 (hE 0 (Option.some.inj h).symm)
          · have h := ifN h c11
            refine x_iconst C (v := 1) dX2_mayGo_91 (by decide) ?_
            refine x_goto C (tgt := 96) dX2_mayGo_92 (by decide) ?_
            exact x_zret C E (by decide +kernel) dX2_mayGo_96 (hE 1 (Option.some.inj h).symm)
        · have h := ifN h c8
          by_cases c12 : r2 = 5
          · have h := ifP h c12
            refine x_tableIn C (off := 80) (tgt := 97) dX2_mayGo_17 (by rw [c12]; decide) (by rw [c12]; decide) (by rw [c12]; rfl) (by decide) ?_
            refine x_iload_n C (i := 3) dX2_mayGo_97 rfl rfl ?_
            obtain ⟨r13, er13, h⟩ := ob h
            refine x_callSr C Z ms_J6_bitCount_0f7a4 lk_X2_68 (ct_J6_bitCount_0f7a4 (N := ω.1) (σ := σ) er13) (by decide) rfl rfl (Nat.le_of_ble_eq_true rfl) dX2_mayGo_98 ?_
            refine x_aload_n C (i := 0) dX2_mayGo_101 rfl rfl ?_
            obtain ⟨x14, ex14, h⟩ := ob h
            refine x_getI C fl_X2_18 dX2_mayGo_102 ex14 ?_
            refine x_icmp_ge C (tgt := 117) dX2_mayGo_105 (by decide) (fun c15 => ?_) (fun c15 => ?_)
            · have h := ifP h c15
              refine x_iconst C (v := 0) dX2_mayGo_117 (by decide) ?_
              exact x_zret C E (by decide +kernel) dX2_mayGo_118 (hE 0 (Option.some.inj h).symm)
            · have h := ifN h c15
              refine x_iload C (i := 4) dX2_mayGo_108 rfl ?_
              refine x_if_ne C (tgt := 117) dX2_mayGo_110 (by decide) (fun c16 => ?_) (fun c16 => ?_)
              · have h := ifN h c16
                refine x_iconst C (v := 0) dX2_mayGo_117 (by decide) ?_
                exact x_zret C E (by decide +kernel) dX2_mayGo_118 (hE 0 (Option.some.inj h).symm)
              · have h := ifP h c16
                refine x_iconst C (v := 1) dX2_mayGo_113 (by decide) ?_
                refine x_goto C (tgt := 118) dX2_mayGo_114 (by decide) ?_
                exact x_zret C E (by decide +kernel) dX2_mayGo_118 (hE 1 (Option.some.inj h).symm)
          · have h := ifN h c12
            refine x_tableOut C (tgt := 119) dX2_mayGo_17 (by have q2 := lv_neT (a := 2) c3 (by decide); have q3 := lv_neT (a := 3) c6 (by decide); have q4 := lv_neT (a := 4) c8 (by decide); have q5 := lv_neT (a := 5) c12 (by decide); omega) (by decide) ?_
            refine x_iconst C (v := 1) dX2_mayGo_119 (by decide) ?_
            exact x_zret C E (by decide +kernel) dX2_mayGo_120 (hE 1 (Option.some.inj h).symm)
  · have h := ifN h c1
    refine x_iconst C (v := 0) dX2_mayGo_10 (by decide) ?_
    exact x_zret C E (by decide +kernel) dX2_mayGo_11 (hE 0 (Option.some.inj h).symm)
theorem dX2_movesFrom_0 : decode cX2_movesFrom 0 = .ok (.aload_n 0, 1) := by decide +kernel
theorem dX2_movesFrom_1 : decode cX2_movesFrom 1 = .ok (.iload_n 1, 1) := by decide +kernel
theorem dX2_movesFrom_2 : decode cX2_movesFrom 2 = .ok (.invokevirtual 47, 3) := by decide +kernel
theorem dX2_movesFrom_5 : decode cX2_movesFrom 5 = .ok (.istore_n 3, 1) := by decide +kernel
theorem dX2_movesFrom_6 : decode cX2_movesFrom 6 = .ok (.iconst 0, 1) := by decide +kernel
theorem dX2_movesFrom_7 : decode cX2_movesFrom 7 = .ok (.istore 4, 2) := by decide +kernel
theorem dX2_movesFrom_9 : decode cX2_movesFrom 9 = .ok (.iconst 0, 1) := by decide +kernel
theorem dX2_movesFrom_10 : decode cX2_movesFrom 10 = .ok (.istore 5, 2) := by decide +kernel
theorem dX2_movesFrom_12 : decode cX2_movesFrom 12 = .ok (.iload 5, 2) := by decide +kernel
theorem dX2_movesFrom_14 : decode cX2_movesFrom 14 = .ok (.aload_n 0, 1) := by decide +kernel
theorem dX2_movesFrom_15 : decode cX2_movesFrom 15 = .ok (.getfield 9, 3) := by decide +kernel
theorem dX2_movesFrom_18 : decode cX2_movesFrom 18 = .ok (.if_icmp .ge 93, 3) := by decide +kernel
theorem dX2_movesFrom_21 : decode cX2_movesFrom 21 = .ok (.iload_n 3, 1) := by decide +kernel
theorem dX2_movesFrom_22 : decode cX2_movesFrom 22 = .ok (.bipush 6, 2) := by decide +kernel
theorem dX2_movesFrom_24 : decode cX2_movesFrom 24 = .ok (.iload 5, 2) := by decide +kernel
theorem dX2_movesFrom_26 : decode cX2_movesFrom 26 = .ok (.imul, 1) := by decide +kernel
theorem dX2_movesFrom_27 : decode cX2_movesFrom 27 = .ok (.ishr, 1) := by decide +kernel
theorem dX2_movesFrom_28 : decode cX2_movesFrom 28 = .ok (.bipush 63, 2) := by decide +kernel
theorem dX2_movesFrom_30 : decode cX2_movesFrom 30 = .ok (.iand, 1) := by decide +kernel
theorem dX2_movesFrom_31 : decode cX2_movesFrom 31 = .ok (.istore 6, 2) := by decide +kernel
theorem dX2_movesFrom_33 : decode cX2_movesFrom 33 = .ok (.iconst 0, 1) := by decide +kernel
theorem dX2_movesFrom_34 : decode cX2_movesFrom 34 = .ok (.istore 7, 2) := by decide +kernel
theorem dX2_movesFrom_36 : decode cX2_movesFrom 36 = .ok (.iload 7, 2) := by decide +kernel
theorem dX2_movesFrom_38 : decode cX2_movesFrom 38 = .ok (.aload_n 0, 1) := by decide +kernel
theorem dX2_movesFrom_39 : decode cX2_movesFrom 39 = .ok (.getfield 9, 3) := by decide +kernel
theorem dX2_movesFrom_42 : decode cX2_movesFrom 42 = .ok (.if_icmp .ge 63, 3) := by decide +kernel
theorem dX2_movesFrom_45 : decode cX2_movesFrom 45 = .ok (.iload 6, 2) := by decide +kernel
theorem dX2_movesFrom_47 : decode cX2_movesFrom 47 = .ok (.ifCond .eq 58, 3) := by decide +kernel
theorem dX2_movesFrom_50 : decode cX2_movesFrom 50 = .ok (.iload 7, 2) := by decide +kernel
theorem dX2_movesFrom_52 : decode cX2_movesFrom 52 = .ok (.iload 5, 2) := by decide +kernel
theorem dX2_movesFrom_54 : decode cX2_movesFrom 54 = .ok (.if_icmp .eq 45, 3) := by decide +kernel
theorem dX2_movesFrom_57 : decode cX2_movesFrom 57 = .ok (.aload_n 0, 1) := by decide +kernel
theorem dX2_movesFrom_58 : decode cX2_movesFrom 58 = .ok (.iload 6, 2) := by decide +kernel
theorem dX2_movesFrom_60 : decode cX2_movesFrom 60 = .ok (.invokestatic 53, 3) := by decide +kernel
theorem dX2_movesFrom_63 : decode cX2_movesFrom 63 = .ok (.iload 5, 2) := by decide +kernel
theorem dX2_movesFrom_65 : decode cX2_movesFrom 65 = .ok (.iload 7, 2) := by decide +kernel
theorem dX2_movesFrom_67 : decode cX2_movesFrom 67 = .ok (.isub, 1) := by decide +kernel
theorem dX2_movesFrom_68 : decode cX2_movesFrom 68 = .ok (.iload_n 3, 1) := by decide +kernel
theorem dX2_movesFrom_69 : decode cX2_movesFrom 69 = .ok (.bipush 6, 2) := by decide +kernel
theorem dX2_movesFrom_71 : decode cX2_movesFrom 71 = .ok (.iload 7, 2) := by decide +kernel
theorem dX2_movesFrom_73 : decode cX2_movesFrom 73 = .ok (.imul, 1) := by decide +kernel
theorem dX2_movesFrom_74 : decode cX2_movesFrom 74 = .ok (.ishr, 1) := by decide +kernel
theorem dX2_movesFrom_75 : decode cX2_movesFrom 75 = .ok (.bipush 63, 2) := by decide +kernel
theorem dX2_movesFrom_77 : decode cX2_movesFrom 77 = .ok (.iand, 1) := by decide +kernel
theorem dX2_movesFrom_78 : decode cX2_movesFrom 78 = .ok (.iload_n 2, 1) := by decide +kernel
theorem dX2_movesFrom_79 : decode cX2_movesFrom 79 = .ok (.invokevirtual 64, 3) := by decide +kernel
theorem dX2_movesFrom_82 : decode cX2_movesFrom 82 = .ok (.ifCond .eq 17, 3) := by decide +kernel
theorem dX2_movesFrom_85 : decode cX2_movesFrom 85 = .ok (.iload 4, 2) := by decide +kernel
theorem dX2_movesFrom_87 : decode cX2_movesFrom 87 = .ok (.iconst 1, 1) := by decide +kernel
theorem dX2_movesFrom_88 : decode cX2_movesFrom 88 = .ok (.iconst 4, 1) := by decide +kernel
theorem dX2_movesFrom_89 : decode cX2_movesFrom 89 = .ok (.iload 5, 2) := by decide +kernel
theorem dX2_movesFrom_91 : decode cX2_movesFrom 91 = .ok (.imul, 1) := by decide +kernel
theorem dX2_movesFrom_92 : decode cX2_movesFrom 92 = .ok (.iload 7, 2) := by decide +kernel
theorem dX2_movesFrom_94 : decode cX2_movesFrom 94 = .ok (.iadd, 1) := by decide +kernel
theorem dX2_movesFrom_95 : decode cX2_movesFrom 95 = .ok (.ishl, 1) := by decide +kernel
theorem dX2_movesFrom_96 : decode cX2_movesFrom 96 = .ok (.ior, 1) := by decide +kernel
theorem dX2_movesFrom_97 : decode cX2_movesFrom 97 = .ok (.istore 4, 2) := by decide +kernel
theorem dX2_movesFrom_99 : decode cX2_movesFrom 99 = .ok (.iinc 7 1, 3) := by decide +kernel
theorem dX2_movesFrom_102 : decode cX2_movesFrom 102 = .ok (.goto (-66), 3) := by decide +kernel
theorem dX2_movesFrom_105 : decode cX2_movesFrom 105 = .ok (.iinc 5 1, 3) := by decide +kernel
theorem dX2_movesFrom_108 : decode cX2_movesFrom 108 = .ok (.goto (-96), 3) := by decide +kernel
theorem dX2_movesFrom_111 : decode cX2_movesFrom 111 = .ok (.iload 4, 2) := by decide +kernel
theorem dX2_movesFrom_113 : decode cX2_movesFrom 113 = .ok (.ireturn, 1) := by decide +kernel
def L_X2_movesFrom_36 (N : Nat) (σ : Hp) (v0 : Nat) (v2 : Int32) (v3 : Int32) (v5 : Int32) (v6 : Int32) : Nat → Int32 → Int32 → Option (Int32)
  | 0, _, _ => none
  | n + 1, v4, v7 =>
  (gI N σ v0 2 0).bind fun x5 =>
  if x5 ≤ v7 then
   some v4
  else
   if v6 = 0 then
   some v4
  else
   if v7 = v5 then
   L_X2_movesFrom_36 N σ v0 v2 v3 v5 v6 n v4 (v7 + 1)
  else
   (m_X2_leastOf v6).bind fun r9 =>
  (m_X2_mayGo N σ v0 r9 (v5 - v7) ((v3 >>> (((6 : Int32) * v7) &&& 31)) &&& 63) v2).bind fun r10 =>
  if r10 = 0 then
   L_X2_movesFrom_36 N σ v0 v2 v3 v5 v6 n v4 (v7 + 1)
  else
   lt (v4 ||| ((1 : Int32) <<< ((((4 : Int32) * v5) + v7) &&& 31))) fun y12 =>
  L_X2_movesFrom_36 N σ v0 v2 v3 v5 v6 n y12 (v7 + 1)
def L_X2_movesFrom_12 (N : Nat) (σ : Hp) (v0 : Nat) (v2 : Int32) (v3 : Int32) : Nat → Int32 → Int32 → Option (Int32)
  | 0, _, _ => none
  | n + 1, v4, v5 =>
  (gI N σ v0 2 0).bind fun x2 =>
  if x2 ≤ v5 then
   some v4
  else
   lt ((v3 >>> (((6 : Int32) * v5) &&& 31)) &&& 63) fun y4 =>
  (L_X2_movesFrom_36 N σ v0 v2 v3 v5 y4 fu v4 0).bind fun z13 =>
  L_X2_movesFrom_12 N σ v0 v2 v3 n z13 (v5 + 1)
def m_X2_movesFrom (N : Nat) (σ : Hp) (t0 : Nat) (p1 : Int32) (p2 : Int32) : Option (Int32) :=
  (rv N σ t0 2).bind fun _ =>
  (m_X2_lyingIn N σ t0 p1).bind fun r1 =>
  (L_X2_movesFrom_12 N σ t0 p2 r1 fu 0 0).bind fun z14 =>
  some z14
set_option maxHeartbeats 4000000 in
set_option maxRecDepth 100000 in
theorem lp_X2_movesFrom_36 {κ : Kx} {ω : Om} (C : Cx κ 8 2 cX2_movesFrom RX2 "movesFrom") (Z : Zx κ ω) (σ : Hp) (v0 : Nat) (v2 : Int32) (v3 : Int32) (v5 : Int32) (v6 : Int32) {r : Int32} (hk : X κ 8 ω 105 [some (.ref v0), none, some (.int v2), some (.int v3), some (.int r), some (.int v5), none, none] [] σ) : ∀ (n : Nat) (v4 : Int32) (v7 : Int32), L_X2_movesFrom_36 ω.1 σ v0 v2 v3 v5 v6 n v4 v7 = some r → X κ 8 ω 36 [some (.ref v0), none, some (.int v2), some (.int v3), some (.int v4), some (.int v5), some (.int v6), some (.int v7)] [] σ := by
  intro n
  induction n with
  | zero => intro v4 v7 h; cases h
  | succ n ih =>
    intro v4 v7 h
    rw [L_X2_movesFrom_36.eq_2] at h
    refine x_iload C (i := 7) dX2_movesFrom_36 rfl ?_
    refine x_aload_n C (i := 0) dX2_movesFrom_38 rfl rfl ?_
    obtain ⟨x5, ex5, h⟩ := ob h
    refine x_getI C fl_X2_9 dX2_movesFrom_39 ex5 ?_
    refine x_icmp_ge C (tgt := 105) dX2_movesFrom_42 (by decide) (fun c6 => ?_) (fun c6 => ?_)
    · have h := ifP h c6
      refine x_wk [true, false, true, true, true, true, false, false] (lo' := [some (.ref v0), none, some (.int v2), some (.int v3), some (.int v4), some (.int v5), none, none]) rfl ?_
      obtain rfl := Option.some.inj h
      exact hk
    · have h := ifN h c6
      refine x_iload C (i := 6) dX2_movesFrom_45 rfl ?_
      refine x_if_eq C (tgt := 105) dX2_movesFrom_47 (by decide) (fun c7 => ?_) (fun c7 => ?_)
      · have h := ifP h c7
        refine x_wk [true, false, true, true, true, true, false, false] (lo' := [some (.ref v0), none, some (.int v2), some (.int v3), some (.int v4), some (.int v5), none, none]) rfl ?_
        obtain rfl := Option.some.inj h
        exact hk
      · have h := ifN h c7
        refine x_iload C (i := 7) dX2_movesFrom_50 rfl ?_
        refine x_iload C (i := 5) dX2_movesFrom_52 rfl ?_
        refine x_icmp_eq C (tgt := 99) dX2_movesFrom_54 (by decide) (fun c8 => ?_) (fun c8 => ?_)
        · have h := ifP h c8
          refine x_iinc C (i := 7) (y := v7 + 1) (lo' := [some (.ref v0), none, some (.int v2), some (.int v3), some (.int v4), some (.int v5), some (.int v6), some (.int (v7 + 1))]) dX2_movesFrom_99 rfl rfl (by decide) rfl rfl ?_
          refine x_goto C (tgt := 36) dX2_movesFrom_102 (by decide) ?_
          refine x_wk [true, false, true, true, true, true, true, true] (lo' := [some (.ref v0), none, some (.int v2), some (.int v3), some (.int v4), some (.int v5), some (.int v6), some (.int (v7 + 1))]) rfl ?_
          exact ih v4 (v7 + 1) h
        · have h := ifN h c8
          refine x_aload_n C (i := 0) dX2_movesFrom_57 rfl rfl ?_
          refine x_iload C (i := 6) dX2_movesFrom_58 rfl ?_
          obtain ⟨r9, er9, h⟩ := ob h
          refine x_callSr C Z ms_X2_leastOf lk_X2_53 (ct_X2_leastOf (N := ω.1) (σ := σ) er9) (by decide) rfl rfl (Nat.le_of_ble_eq_true rfl) dX2_movesFrom_60 ?_
          refine x_iload C (i := 5) dX2_movesFrom_63 rfl ?_
          refine x_iload C (i := 7) dX2_movesFrom_65 rfl ?_
          refine x_isub C dX2_movesFrom_67 ?_
          refine x_iload_n C (i := 3) dX2_movesFrom_68 rfl rfl ?_
          refine x_bipush C (v := 6) dX2_movesFrom_69 (by decide) ?_
          refine x_iload C (i := 7) dX2_movesFrom_71 rfl ?_
          refine x_imul C dX2_movesFrom_73 ?_
          refine x_ishr C dX2_movesFrom_74 ?_
          refine x_bipush C (v := 63) dX2_movesFrom_75 (by decide) ?_
          refine x_iand C dX2_movesFrom_77 ?_
          refine x_iload_n C (i := 2) dX2_movesFrom_78 rfl rfl ?_
          obtain ⟨r10, er10, h⟩ := ob h
          refine x_callVr C Z mv_X2_mayGo lk_X2_64 (rv_h er10) (ct_X2_mayGo er10) (by decide) rfl rfl (Nat.le_of_ble_eq_true rfl) dX2_movesFrom_79 ?_
          refine x_if_eq C (tgt := 99) dX2_movesFrom_82 (by decide) (fun c11 => ?_) (fun c11 => ?_)
          · have h := ifP h c11
            refine x_iinc C (i := 7) (y := v7 + 1) (lo' := [some (.ref v0), none, some (.int v2), some (.int v3), some (.int v4), some (.int v5), some (.int v6), some (.int (v7 + 1))]) dX2_movesFrom_99 rfl rfl (by decide) rfl rfl ?_
            refine x_goto C (tgt := 36) dX2_movesFrom_102 (by decide) ?_
            refine x_wk [true, false, true, true, true, true, true, true] (lo' := [some (.ref v0), none, some (.int v2), some (.int v3), some (.int v4), some (.int v5), some (.int v6), some (.int (v7 + 1))]) rfl ?_
            exact ih v4 (v7 + 1) h
          · have h := ifN h c11
            refine x_iload C (i := 4) dX2_movesFrom_85 rfl ?_
            refine x_iconst C (v := 1) dX2_movesFrom_87 (by decide) ?_
            refine x_iconst C (v := 4) dX2_movesFrom_88 (by decide) ?_
            refine x_iload C (i := 5) dX2_movesFrom_89 rfl ?_
            refine x_imul C dX2_movesFrom_91 ?_
            refine x_iload C (i := 7) dX2_movesFrom_92 rfl ?_
            refine x_iadd C dX2_movesFrom_94 ?_
            refine x_ishl C dX2_movesFrom_95 ?_
            refine x_ior C dX2_movesFrom_96 ?_
            refine x_topi (fun y12 ey12 => ?_)
            have h := lt_e h ey12
            refine x_istore C (i := 4) (lo' := [some (.ref v0), none, some (.int v2), some (.int v3), some (.int y12), some (.int v5), some (.int v6), some (.int v7)]) dX2_movesFrom_97 (by decide) rfl rfl ?_
            refine x_iinc C (i := 7) (y := v7 + 1) (lo' := [some (.ref v0), none, some (.int v2), some (.int v3), some (.int y12), some (.int v5), some (.int v6), some (.int (v7 + 1))]) dX2_movesFrom_99 rfl rfl (by decide) rfl rfl ?_
            refine x_goto C (tgt := 36) dX2_movesFrom_102 (by decide) ?_
            refine x_wk [true, false, true, true, true, true, true, true] (lo' := [some (.ref v0), none, some (.int v2), some (.int v3), some (.int y12), some (.int v5), some (.int v6), some (.int (v7 + 1))]) rfl ?_
            exact ih y12 (v7 + 1) h
set_option maxHeartbeats 4000000 in
set_option maxRecDepth 100000 in
theorem lp_X2_movesFrom_12 {κ : Kx} {ω : Om} (C : Cx κ 8 2 cX2_movesFrom RX2 "movesFrom") (Z : Zx κ ω) (σ : Hp) (v0 : Nat) (v2 : Int32) (v3 : Int32) {r : Int32} (hk : X κ 8 ω 111 [none, none, none, none, some (.int r), none, none, none] [] σ) : ∀ (n : Nat) (v4 : Int32) (v5 : Int32), L_X2_movesFrom_12 ω.1 σ v0 v2 v3 n v4 v5 = some r → X κ 8 ω 12 [some (.ref v0), none, some (.int v2), some (.int v3), some (.int v4), some (.int v5), none, none] [] σ := by
  intro n
  induction n with
  | zero => intro v4 v5 h; cases h
  | succ n ih =>
    intro v4 v5 h
    rw [L_X2_movesFrom_12.eq_2] at h
    refine x_iload C (i := 5) dX2_movesFrom_12 rfl ?_
    refine x_aload_n C (i := 0) dX2_movesFrom_14 rfl rfl ?_
    obtain ⟨x2, ex2, h⟩ := ob h
    refine x_getI C fl_X2_9 dX2_movesFrom_15 ex2 ?_
    refine x_icmp_ge C (tgt := 111) dX2_movesFrom_18 (by decide) (fun c3 => ?_) (fun c3 => ?_)
    · have h := ifP h c3
      refine x_wk [false, false, false, false, true, false, false, false] (lo' := [none, none, none, none, some (.int v4), none, none, none]) rfl ?_
      obtain rfl := Option.some.inj h
      exact hk
    · have h := ifN h c3
      refine x_iload_n C (i := 3) dX2_movesFrom_21 rfl rfl ?_
      refine x_bipush C (v := 6) dX2_movesFrom_22 (by decide) ?_
      refine x_iload C (i := 5) dX2_movesFrom_24 rfl ?_
      refine x_imul C dX2_movesFrom_26 ?_
      refine x_ishr C dX2_movesFrom_27 ?_
      refine x_bipush C (v := 63) dX2_movesFrom_28 (by decide) ?_
      refine x_iand C dX2_movesFrom_30 ?_
      refine x_topi (fun y4 ey4 => ?_)
      have h := lt_e h ey4
      refine x_istore C (i := 6) (lo' := [some (.ref v0), none, some (.int v2), some (.int v3), some (.int v4), some (.int v5), some (.int y4), none]) dX2_movesFrom_31 (by decide) rfl rfl ?_
      refine x_iconst C (v := 0) dX2_movesFrom_33 (by decide) ?_
      refine x_istore C (i := 7) (lo' := [some (.ref v0), none, some (.int v2), some (.int v3), some (.int v4), some (.int v5), some (.int y4), some (.int 0)]) dX2_movesFrom_34 (by decide) rfl rfl ?_
      obtain ⟨z13, ez13, h⟩ := ob h
      refine x_wk [true, false, true, true, true, true, true, true] (lo' := [some (.ref v0), none, some (.int v2), some (.int v3), some (.int v4), some (.int v5), some (.int y4), some (.int 0)]) rfl ?_
      refine lp_X2_movesFrom_36 C Z σ v0 v2 v3 v5 y4 ?_ _ v4 0 ez13
      refine x_iinc C (i := 5) (y := v5 + 1) (lo' := [some (.ref v0), none, some (.int v2), some (.int v3), some (.int z13), some (.int (v5 + 1)), none, none]) dX2_movesFrom_105 rfl rfl (by decide) rfl rfl ?_
      refine x_goto C (tgt := 12) dX2_movesFrom_108 (by decide) ?_
      refine x_wk [true, false, true, true, true, true, false, false] (lo' := [some (.ref v0), none, some (.int v2), some (.int v3), some (.int z13), some (.int (v5 + 1)), none, none]) rfl ?_
      exact ih z13 (v5 + 1) h
set_option maxHeartbeats 4000000 in
set_option maxRecDepth 100000 in
theorem ct_X2_movesFrom {l : Launch} {D : va_G} {cy : Nat → Nat} {N : Nat} {σ : Hp} {t0 : Nat} {p1 : Int32} {p2 : Int32} {r : Int32} (h : m_X2_movesFrom N σ t0 p1 p2 = some r) : Ct l D cy yX2_movesFrom cX2_movesFrom 8 (some .int) 2 [.ref t0, .int p1, .int p2] N σ (fun v s' => v = (some (.int r)) ∧ s' = σ) := by
  refine Ct.intro [some (.ref t0), some (.int p1), some (.int p2), none, none, none, none, none] (by decide) rfl (Nat.le_of_ble_eq_true rfl) ?_
  intro κ ω e1 e2 e3 e4 C Z E
  subst e1; subst e2; subst e3; subst e4
  have C : Cx κ 8 2 cX2_movesFrom RX2 "movesFrom" := C
  have hE : ∀ x : Int32, r = x → ((some (Value.int x)) = (some (Value.int r)) ∧ σ = σ) := fun x hx => by subst hx; exact ⟨rfl, rfl⟩
  unfold m_X2_movesFrom at h
  obtain ⟨_, _, h⟩ := ob h
  refine x_aload_n C (i := 0) dX2_movesFrom_0 rfl rfl ?_
  refine x_iload_n C (i := 1) dX2_movesFrom_1 rfl rfl ?_
  obtain ⟨r1, er1, h⟩ := ob h
  refine x_callVr C Z mv_X2_lyingIn lk_X2_47 (rv_h er1) (ct_X2_lyingIn er1) (by decide) rfl rfl (Nat.le_of_ble_eq_true rfl) dX2_movesFrom_2 ?_
  refine x_istore_n C (i := 3) (lo' := [some (.ref t0), some (.int p1), some (.int p2), some (.int r1), none, none, none, none]) dX2_movesFrom_5 rfl (by decide) rfl rfl ?_
  refine x_iconst C (v := 0) dX2_movesFrom_6 (by decide) ?_
  refine x_istore C (i := 4) (lo' := [some (.ref t0), some (.int p1), some (.int p2), some (.int r1), some (.int 0), none, none, none]) dX2_movesFrom_7 (by decide) rfl rfl ?_
  refine x_iconst C (v := 0) dX2_movesFrom_9 (by decide) ?_
  refine x_istore C (i := 5) (lo' := [some (.ref t0), some (.int p1), some (.int p2), some (.int r1), some (.int 0), some (.int 0), none, none]) dX2_movesFrom_10 (by decide) rfl rfl ?_
  obtain ⟨z14, ez14, h⟩ := ob h
  refine x_wk [true, false, true, true, true, true, false, false] (lo' := [some (.ref t0), none, some (.int p2), some (.int r1), some (.int 0), some (.int 0), none, none]) rfl ?_
  refine lp_X2_movesFrom_12 C Z σ t0 p2 r1 ?_ _ 0 0 ez14
  refine x_iload C (i := 4) dX2_movesFrom_111 rfl ?_
  exact x_iret C E dX2_movesFrom_113 (hE z14 (Option.some.inj h).symm)
theorem dX2_movesNow_0 : decode cX2_movesNow 0 = .ok (.aload_n 0, 1) := by decide +kernel
theorem dX2_movesNow_1 : decode cX2_movesNow 1 = .ok (.aload_n 0, 1) := by decide +kernel
theorem dX2_movesNow_2 : decode cX2_movesNow 2 = .ok (.getfield 27, 3) := by decide +kernel
theorem dX2_movesNow_5 : decode cX2_movesNow 5 = .ok (.aload_n 0, 1) := by decide +kernel
theorem dX2_movesNow_6 : decode cX2_movesNow 6 = .ok (.getfield 21, 3) := by decide +kernel
theorem dX2_movesNow_9 : decode cX2_movesNow 9 = .ok (.iconst 1, 1) := by decide +kernel
theorem dX2_movesNow_10 : decode cX2_movesNow 10 = .ok (.iand, 1) := by decide +kernel
theorem dX2_movesNow_11 : decode cX2_movesNow 11 = .ok (.ifCond .eq 7, 3) := by decide +kernel
theorem dX2_movesNow_14 : decode cX2_movesNow 14 = .ok (.iconst 1, 1) := by decide +kernel
theorem dX2_movesNow_15 : decode cX2_movesNow 15 = .ok (.goto 4, 3) := by decide +kernel
theorem dX2_movesNow_18 : decode cX2_movesNow 18 = .ok (.iconst 0, 1) := by decide +kernel
theorem dX2_movesNow_19 : decode cX2_movesNow 19 = .ok (.invokevirtual 56, 3) := by decide +kernel
theorem dX2_movesNow_22 : decode cX2_movesNow 22 = .ok (.ireturn, 1) := by decide +kernel
def m_X2_movesNow (N : Nat) (σ : Hp) (t0 : Nat) : Option (Int32) :=
  (rv N σ t0 2).bind fun _ =>
  (gI N σ t0 2 5).bind fun x1 =>
  (gI N σ t0 2 3).bind fun x2 =>
  ((if (x2 &&& 1) = 0 then
   some 0
  else
   some 1) : Option (Int32)).bind fun z3 =>
  (m_X2_movesFrom N σ t0 x1 z3).bind fun r4 =>
  some r4
set_option maxHeartbeats 4000000 in
set_option maxRecDepth 100000 in
theorem ct_X2_movesNow {l : Launch} {D : va_G} {cy : Nat → Nat} {N : Nat} {σ : Hp} {t0 : Nat} {r : Int32} (h : m_X2_movesNow N σ t0 = some r) : Ct l D cy yX2_movesNow cX2_movesNow 1 (some .int) 3 [.ref t0] N σ (fun v s' => v = (some (.int r)) ∧ s' = σ) := by
  refine Ct.intro [some (.ref t0)] (by decide) rfl (Nat.le_of_ble_eq_true rfl) ?_
  intro κ ω e1 e2 e3 e4 C Z E
  subst e1; subst e2; subst e3; subst e4
  have C : Cx κ 1 3 cX2_movesNow RX2 "movesNow" := C
  have hE : ∀ x : Int32, r = x → ((some (Value.int x)) = (some (Value.int r)) ∧ σ = σ) := fun x hx => by subst hx; exact ⟨rfl, rfl⟩
  unfold m_X2_movesNow at h
  obtain ⟨_, _, h⟩ := ob h
  refine x_aload_n C (i := 0) dX2_movesNow_0 rfl rfl ?_
  refine x_aload_n C (i := 0) dX2_movesNow_1 rfl rfl ?_
  obtain ⟨x1, ex1, h⟩ := ob h
  refine x_getI C fl_X2_27 dX2_movesNow_2 ex1 ?_
  refine x_aload_n C (i := 0) dX2_movesNow_5 rfl rfl ?_
  obtain ⟨x2, ex2, h⟩ := ob h
  refine x_getI C fl_X2_21 dX2_movesNow_6 ex2 ?_
  refine x_iconst C (v := 1) dX2_movesNow_9 (by decide) ?_
  refine x_iand C dX2_movesNow_10 ?_
  obtain ⟨z3, hz3, h⟩ := ob h
  have hJ5 : X κ 1 ω 19 [none] [.int z3, .int x1, .ref t0] σ := by
    obtain ⟨r4, er4, h⟩ := ob h
    refine x_callVr C Z mv_X2_movesFrom lk_X2_56 (rv_h er4) (ct_X2_movesFrom er4) (by decide) rfl rfl (Nat.le_of_ble_eq_true rfl) dX2_movesNow_19 ?_
    exact x_iret C E dX2_movesNow_22 (hE r4 (Option.some.inj h).symm)
  clear h
  have h := hz3
  refine x_if_eq C (tgt := 18) dX2_movesNow_11 (by decide) (fun c7 => ?_) (fun c7 => ?_)
  · have h := ifP h c7
    refine x_iconst C (v := 0) dX2_movesNow_18 (by decide) ?_
    refine x_wk [false] (lo' := [none]) rfl ?_
    obtain rfl := Option.some.inj h
    exact hJ5
  · have h := ifN h c7
    refine x_iconst C (v := 1) dX2_movesNow_14 (by decide) ?_
    refine x_goto C (tgt := 19) dX2_movesNow_15 (by decide) ?_
    refine x_wk [false] (lo' := [none]) rfl ?_
    obtain rfl := Option.some.inj h
    exact hJ5
theorem dX2_allows_0 : decode cX2_allows 0 = .ok (.aload_n 0, 1) := by decide +kernel
theorem dX2_allows_1 : decode cX2_allows 1 = .ok (.invokevirtual 60, 3) := by decide +kernel
theorem dX2_allows_4 : decode cX2_allows 4 = .ok (.iload_n 1, 1) := by decide +kernel
theorem dX2_allows_5 : decode cX2_allows 5 = .ok (.ishr, 1) := by decide +kernel
theorem dX2_allows_6 : decode cX2_allows 6 = .ok (.iconst 1, 1) := by decide +kernel
theorem dX2_allows_7 : decode cX2_allows 7 = .ok (.iand, 1) := by decide +kernel
theorem dX2_allows_8 : decode cX2_allows 8 = .ok (.ifCond .eq 7, 3) := by decide +kernel
theorem dX2_allows_11 : decode cX2_allows 11 = .ok (.iconst 1, 1) := by decide +kernel
theorem dX2_allows_12 : decode cX2_allows 12 = .ok (.goto 4, 3) := by decide +kernel
theorem dX2_allows_15 : decode cX2_allows 15 = .ok (.iconst 0, 1) := by decide +kernel
theorem dX2_allows_16 : decode cX2_allows 16 = .ok (.ireturn, 1) := by decide +kernel
def m_X2_allows (N : Nat) (σ : Hp) (t0 : Nat) (p1 : Int32) : Option (Int32) :=
  (rv N σ t0 2).bind fun _ =>
  (m_X2_movesNow N σ t0).bind fun r1 =>
  if ((r1 >>> (p1 &&& 31)) &&& 1) = 0 then
   some 0
  else
   some 1
set_option maxHeartbeats 4000000 in
set_option maxRecDepth 100000 in
theorem ct_X2_allows {l : Launch} {D : va_G} {cy : Nat → Nat} {N : Nat} {σ : Hp} {t0 : Nat} {p1 : Int32} {r : Int32} (h : m_X2_allows N σ t0 p1 = some r) : Ct l D cy yX2_allows cX2_allows 2 (some .boolean) 4 [.ref t0, .int p1] N σ (fun v s' => v = (some (.int r)) ∧ s' = σ) := by
  refine Ct.intro [some (.ref t0), some (.int p1)] (by decide) rfl (Nat.le_of_ble_eq_true rfl) ?_
  intro κ ω e1 e2 e3 e4 C Z E
  subst e1; subst e2; subst e3; subst e4
  have C : Cx κ 2 4 cX2_allows RX2 "allows" := C
  have hE : ∀ x : Int32, r = x → ((some (Value.int x)) = (some (Value.int r)) ∧ σ = σ) := fun x hx => by subst hx; exact ⟨rfl, rfl⟩
  unfold m_X2_allows at h
  obtain ⟨_, _, h⟩ := ob h
  refine x_aload_n C (i := 0) dX2_allows_0 rfl rfl ?_
  obtain ⟨r1, er1, h⟩ := ob h
  refine x_callVr C Z mv_X2_movesNow lk_X2_60 (rv_h er1) (ct_X2_movesNow er1) (by decide) rfl rfl (Nat.le_of_ble_eq_true rfl) dX2_allows_1 ?_
  refine x_iload_n C (i := 1) dX2_allows_4 rfl rfl ?_
  refine x_ishr C dX2_allows_5 ?_
  refine x_iconst C (v := 1) dX2_allows_6 (by decide) ?_
  refine x_iand C dX2_allows_7 ?_
  refine x_if_eq C (tgt := 15) dX2_allows_8 (by decide) (fun c2 => ?_) (fun c2 => ?_)
  · have h := ifP h c2
    refine x_iconst C (v := 0) dX2_allows_15 (by decide) ?_
    exact x_zret C E (by decide +kernel) dX2_allows_16 (hE 0 (Option.some.inj h).symm)
  · have h := ifN h c2
    refine x_iconst C (v := 1) dX2_allows_11 (by decide) ?_
    refine x_goto C (tgt := 16) dX2_allows_12 (by decide) ?_
    exact x_zret C E (by decide +kernel) dX2_allows_16 (hE 1 (Option.some.inj h).symm)
theorem dX2_behind_0 : decode cX2_behind 0 = .ok (.iload_n 2, 1) := by decide +kernel
theorem dX2_behind_1 : decode cX2_behind 1 = .ok (.iconst 2, 1) := by decide +kernel
theorem dX2_behind_2 : decode cX2_behind 2 = .ok (.ishr, 1) := by decide +kernel
theorem dX2_behind_3 : decode cX2_behind 3 = .ok (.iconst 3, 1) := by decide +kernel
theorem dX2_behind_4 : decode cX2_behind 4 = .ok (.iand, 1) := by decide +kernel
theorem dX2_behind_5 : decode cX2_behind 5 = .ok (.istore_n 3, 1) := by decide +kernel
theorem dX2_behind_6 : decode cX2_behind 6 = .ok (.iconst 0, 1) := by decide +kernel
theorem dX2_behind_7 : decode cX2_behind 7 = .ok (.istore 4, 2) := by decide +kernel
theorem dX2_behind_9 : decode cX2_behind 9 = .ok (.iload 4, 2) := by decide +kernel
theorem dX2_behind_11 : decode cX2_behind 11 = .ok (.aload_n 0, 1) := by decide +kernel
theorem dX2_behind_12 : decode cX2_behind 12 = .ok (.getfield 15, 3) := by decide +kernel
theorem dX2_behind_15 : decode cX2_behind 15 = .ok (.if_icmp .ge 41, 3) := by decide +kernel
theorem dX2_behind_18 : decode cX2_behind 18 = .ok (.iload_n 1, 1) := by decide +kernel
theorem dX2_behind_19 : decode cX2_behind 19 = .ok (.iconst 2, 1) := by decide +kernel
theorem dX2_behind_20 : decode cX2_behind 20 = .ok (.iload 4, 2) := by decide +kernel
theorem dX2_behind_22 : decode cX2_behind 22 = .ok (.imul, 1) := by decide +kernel
theorem dX2_behind_23 : decode cX2_behind 23 = .ok (.ishr, 1) := by decide +kernel
theorem dX2_behind_24 : decode cX2_behind 24 = .ok (.iconst 3, 1) := by decide +kernel
theorem dX2_behind_25 : decode cX2_behind 25 = .ok (.iand, 1) := by decide +kernel
theorem dX2_behind_26 : decode cX2_behind 26 = .ok (.iload_n 3, 1) := by decide +kernel
theorem dX2_behind_27 : decode cX2_behind 27 = .ok (.if_icmp .ne 23, 3) := by decide +kernel
theorem dX2_behind_30 : decode cX2_behind 30 = .ok (.iload_n 1, 1) := by decide +kernel
theorem dX2_behind_31 : decode cX2_behind 31 = .ok (.iconst 3, 1) := by decide +kernel
theorem dX2_behind_32 : decode cX2_behind 32 = .ok (.iconst 2, 1) := by decide +kernel
theorem dX2_behind_33 : decode cX2_behind 33 = .ok (.iload 4, 2) := by decide +kernel
theorem dX2_behind_35 : decode cX2_behind 35 = .ok (.imul, 1) := by decide +kernel
theorem dX2_behind_36 : decode cX2_behind 36 = .ok (.ishl, 1) := by decide +kernel
theorem dX2_behind_37 : decode cX2_behind 37 = .ok (.iconst (-1), 1) := by decide +kernel
theorem dX2_behind_38 : decode cX2_behind 38 = .ok (.ixor, 1) := by decide +kernel
theorem dX2_behind_39 : decode cX2_behind 39 = .ok (.iand, 1) := by decide +kernel
theorem dX2_behind_40 : decode cX2_behind 40 = .ok (.iload_n 2, 1) := by decide +kernel
theorem dX2_behind_41 : decode cX2_behind 41 = .ok (.iconst 3, 1) := by decide +kernel
theorem dX2_behind_42 : decode cX2_behind 42 = .ok (.iand, 1) := by decide +kernel
theorem dX2_behind_43 : decode cX2_behind 43 = .ok (.iconst 2, 1) := by decide +kernel
theorem dX2_behind_44 : decode cX2_behind 44 = .ok (.iload 4, 2) := by decide +kernel
theorem dX2_behind_46 : decode cX2_behind 46 = .ok (.imul, 1) := by decide +kernel
theorem dX2_behind_47 : decode cX2_behind 47 = .ok (.ishl, 1) := by decide +kernel
theorem dX2_behind_48 : decode cX2_behind 48 = .ok (.ior, 1) := by decide +kernel
theorem dX2_behind_49 : decode cX2_behind 49 = .ok (.ireturn, 1) := by decide +kernel
theorem dX2_behind_50 : decode cX2_behind 50 = .ok (.iinc 4 1, 3) := by decide +kernel
theorem dX2_behind_53 : decode cX2_behind 53 = .ok (.goto (-44), 3) := by decide +kernel
theorem dX2_behind_56 : decode cX2_behind 56 = .ok (.iload_n 1, 1) := by decide +kernel
theorem dX2_behind_57 : decode cX2_behind 57 = .ok (.ireturn, 1) := by decide +kernel
def L_X2_behind_9 (N : Nat) (σ : Hp) (v0 : Nat) (v1 : Int32) (v2 : Int32) (v3 : Int32) : Nat → Int32 → Option ((Unit) ⊕ (Int32))
  | 0, _ => none
  | n + 1, v4 =>
  (gI N σ v0 2 1).bind fun x2 =>
  if x2 ≤ v4 then
   some (.inl ())
  else
   if ((v1 >>> (((2 : Int32) * v4) &&& 31)) &&& 3) = v3 then
   some (.inr ((v1 &&& (((3 : Int32) <<< (((2 : Int32) * v4) &&& 31)) ^^^ (-1))) ||| ((v2 &&& 3) <<< (((2 : Int32) * v4) &&& 31))))
  else
   L_X2_behind_9 N σ v0 v1 v2 v3 n (v4 + 1)
def m_X2_behind (N : Nat) (σ : Hp) (t0 : Nat) (p1 : Int32) (p2 : Int32) : Option (Int32) :=
  (rv N σ t0 2).bind fun _ =>
  lt ((p2 >>> (2 &&& 31)) &&& 3) fun y1 =>
  (L_X2_behind_9 N σ t0 p1 p2 y1 fu 0).bind fun z5 =>
  cS z5 (fun w6 => some p1) (fun q7 => some q7)
set_option maxHeartbeats 4000000 in
set_option maxRecDepth 100000 in
theorem lp_X2_behind_9 {κ : Kx} {ω : Om} (C : Cx κ 5 0 cX2_behind RX2 "behind") (Z : Zx κ ω) {Post : Option Value → Hp → Prop} (E : Rt κ ω (some .int) Post) (σ : Hp) (v0 : Nat) (v1 : Int32) (v2 : Int32) (v3 : Int32) {r : (Unit) ⊕ (Int32)} (hE : ∀ x : Int32, r = .inr x → Post (some (.int x)) σ) (hk : ∀ u, r = .inl u → X κ 5 ω 56 [none, some (.int v1), none, none, none] [] σ) : ∀ (n : Nat) (v4 : Int32), L_X2_behind_9 ω.1 σ v0 v1 v2 v3 n v4 = some r → X κ 5 ω 9 [some (.ref v0), some (.int v1), some (.int v2), some (.int v3), some (.int v4)] [] σ := by
  intro n
  induction n with
  | zero => intro v4 h; cases h
  | succ n ih =>
    intro v4 h
    rw [L_X2_behind_9.eq_2] at h
    refine x_iload C (i := 4) dX2_behind_9 rfl ?_
    refine x_aload_n C (i := 0) dX2_behind_11 rfl rfl ?_
    obtain ⟨x2, ex2, h⟩ := ob h
    refine x_getI C fl_X2_15 dX2_behind_12 ex2 ?_
    refine x_icmp_ge C (tgt := 56) dX2_behind_15 (by decide) (fun c3 => ?_) (fun c3 => ?_)
    · have h := ifP h c3
      refine x_wk [false, true, false, false, false] (lo' := [none, some (.int v1), none, none, none]) rfl ?_
      exact hk _ (Option.some.inj h).symm
    · have h := ifN h c3
      refine x_iload_n C (i := 1) dX2_behind_18 rfl rfl ?_
      refine x_iconst C (v := 2) dX2_behind_19 (by decide) ?_
      refine x_iload C (i := 4) dX2_behind_20 rfl ?_
      refine x_imul C dX2_behind_22 ?_
      refine x_ishr C dX2_behind_23 ?_
      refine x_iconst C (v := 3) dX2_behind_24 (by decide) ?_
      refine x_iand C dX2_behind_25 ?_
      refine x_iload_n C (i := 3) dX2_behind_26 rfl rfl ?_
      refine x_icmp_ne C (tgt := 50) dX2_behind_27 (by decide) (fun c4 => ?_) (fun c4 => ?_)
      · have h := ifN h c4
        refine x_iinc C (i := 4) (y := v4 + 1) (lo' := [some (.ref v0), some (.int v1), some (.int v2), some (.int v3), some (.int (v4 + 1))]) dX2_behind_50 rfl rfl (by decide) rfl rfl ?_
        refine x_goto C (tgt := 9) dX2_behind_53 (by decide) ?_
        refine x_wk [true, true, true, true, true] (lo' := [some (.ref v0), some (.int v1), some (.int v2), some (.int v3), some (.int (v4 + 1))]) rfl ?_
        exact ih (v4 + 1) h
      · have h := ifP h c4
        refine x_iload_n C (i := 1) dX2_behind_30 rfl rfl ?_
        refine x_iconst C (v := 3) dX2_behind_31 (by decide) ?_
        refine x_iconst C (v := 2) dX2_behind_32 (by decide) ?_
        refine x_iload C (i := 4) dX2_behind_33 rfl ?_
        refine x_imul C dX2_behind_35 ?_
        refine x_ishl C dX2_behind_36 ?_
        refine x_iconst C (v := (-1)) dX2_behind_37 (by decide) ?_
        refine x_ixor C dX2_behind_38 ?_
        refine x_iand C dX2_behind_39 ?_
        refine x_iload_n C (i := 2) dX2_behind_40 rfl rfl ?_
        refine x_iconst C (v := 3) dX2_behind_41 (by decide) ?_
        refine x_iand C dX2_behind_42 ?_
        refine x_iconst C (v := 2) dX2_behind_43 (by decide) ?_
        refine x_iload C (i := 4) dX2_behind_44 rfl ?_
        refine x_imul C dX2_behind_46 ?_
        refine x_ishl C dX2_behind_47 ?_
        refine x_ior C dX2_behind_48 ?_
        exact x_iret C E dX2_behind_49 (hE ((v1 &&& (((3 : Int32) <<< (((2 : Int32) * v4) &&& 31)) ^^^ (-1))) ||| ((v2 &&& 3) <<< (((2 : Int32) * v4) &&& 31))) (Option.some.inj h).symm)
set_option maxHeartbeats 4000000 in
set_option maxRecDepth 100000 in
theorem ct_X2_behind {l : Launch} {D : va_G} {cy : Nat → Nat} {N : Nat} {σ : Hp} {t0 : Nat} {p1 : Int32} {p2 : Int32} {r : Int32} (h : m_X2_behind N σ t0 p1 p2 = some r) : Ct l D cy yX2_behind cX2_behind 5 (some .int) 0 [.ref t0, .int p1, .int p2] N σ (fun v s' => v = (some (.int r)) ∧ s' = σ) := by
  refine Ct.intro [some (.ref t0), some (.int p1), some (.int p2), none, none] (by decide) rfl (Nat.le_of_ble_eq_true rfl) ?_
  intro κ ω e1 e2 e3 e4 C Z E
  subst e1; subst e2; subst e3; subst e4
  have C : Cx κ 5 0 cX2_behind RX2 "behind" := C
  have hE : ∀ x : Int32, r = x → ((some (Value.int x)) = (some (Value.int r)) ∧ σ = σ) := fun x hx => by subst hx; exact ⟨rfl, rfl⟩
  unfold m_X2_behind at h
  obtain ⟨_, _, h⟩ := ob h
  refine x_iload_n C (i := 2) dX2_behind_0 rfl rfl ?_
  refine x_iconst C (v := 2) dX2_behind_1 (by decide) ?_
  refine x_ishr C dX2_behind_2 ?_
  refine x_iconst C (v := 3) dX2_behind_3 (by decide) ?_
  refine x_iand C dX2_behind_4 ?_
  refine x_topi (fun y1 ey1 => ?_)
  have h := lt_e h ey1
  refine x_istore_n C (i := 3) (lo' := [some (.ref t0), some (.int p1), some (.int p2), some (.int y1), none]) dX2_behind_5 rfl (by decide) rfl rfl ?_
  refine x_iconst C (v := 0) dX2_behind_6 (by decide) ?_
  refine x_istore C (i := 4) (lo' := [some (.ref t0), some (.int p1), some (.int p2), some (.int y1), some (.int 0)]) dX2_behind_7 (by decide) rfl rfl ?_
  obtain ⟨z5, ez5, h⟩ := ob h
  refine x_wk [true, true, true, true, true] (lo' := [some (.ref t0), some (.int p1), some (.int p2), some (.int y1), some (.int 0)]) rfl ?_
  refine lp_X2_behind_9 C Z E σ t0 p1 p2 y1 (fun q7 hx => by subst hx; have h := cS_r h; exact hE q7 (Option.some.inj h).symm) (fun w6 hu => ?_) _ 0 ez5
  subst hu
  have h := cS_l h
  refine x_iload_n C (i := 1) dX2_behind_56 rfl rfl ?_
  exact x_iret C E dX2_behind_57 (hE p1 (Option.some.inj h).symm)
theorem dX2_carryOut_0 : decode cX2_carryOut 0 = .ok (.aload_n 0, 1) := by decide +kernel
theorem dX2_carryOut_1 : decode cX2_carryOut 1 = .ok (.aload_n 0, 1) := by decide +kernel
theorem dX2_carryOut_2 : decode cX2_carryOut 2 = .ok (.aload_n 0, 1) := by decide +kernel
theorem dX2_carryOut_3 : decode cX2_carryOut 3 = .ok (.getfield 27, 3) := by decide +kernel
theorem dX2_carryOut_6 : decode cX2_carryOut 6 = .ok (.iload_n 1, 1) := by decide +kernel
theorem dX2_carryOut_7 : decode cX2_carryOut 7 = .ok (.invokevirtual 73, 3) := by decide +kernel
theorem dX2_carryOut_10 : decode cX2_carryOut 10 = .ok (.putfield 27, 3) := by decide +kernel
theorem dX2_carryOut_13 : decode cX2_carryOut 13 = .ok (.aload_n 0, 1) := by decide +kernel
theorem dX2_carryOut_14 : decode cX2_carryOut 14 = .ok (.dup, 1) := by decide +kernel
theorem dX2_carryOut_15 : decode cX2_carryOut 15 = .ok (.getfield 21, 3) := by decide +kernel
theorem dX2_carryOut_18 : decode cX2_carryOut 18 = .ok (.iconst 1, 1) := by decide +kernel
theorem dX2_carryOut_19 : decode cX2_carryOut 19 = .ok (.iadd, 1) := by decide +kernel
theorem dX2_carryOut_20 : decode cX2_carryOut 20 = .ok (.putfield 21, 3) := by decide +kernel
theorem dX2_carryOut_23 : decode cX2_carryOut 23 = .ok (.return_, 1) := by decide +kernel
def m_X2_carryOut (N : Nat) (σ : Hp) (t0 : Nat) (p1 : Int32) : Option (Hp) :=
  (rv N σ t0 2).bind fun _ =>
  (gI N σ t0 2 5).bind fun x1 =>
  (m_X2_behind N σ t0 x1 p1).bind fun r2 =>
  (pV N σ t0 2 5 (.int r2)).bind fun σ3 =>
  (gI N σ3 t0 2 3).bind fun x4 =>
  (pV N σ3 t0 2 3 (.int (x4 + 1))).bind fun σ5 =>
  some σ5
set_option maxHeartbeats 4000000 in
set_option maxRecDepth 100000 in
theorem ct_X2_carryOut {l : Launch} {D : va_G} {cy : Nat → Nat} {N : Nat} {σ : Hp} {t0 : Nat} {p1 : Int32} {r : Hp} (h : m_X2_carryOut N σ t0 p1 = some r) : Ct l D cy yX2_carryOut cX2_carryOut 2 none 1 [.ref t0, .int p1] N σ (fun v s' => v = none ∧ s' = r) := by
  refine Ct.intro [some (.ref t0), some (.int p1)] (by decide) rfl (Nat.le_of_ble_eq_true rfl) ?_
  intro κ ω e1 e2 e3 e4 C Z E
  subst e1; subst e2; subst e3; subst e4
  have C : Cx κ 2 1 cX2_carryOut RX2 "carryOut" := C
  have hE : ∀ x : Hp, r = x → ((none : Option Value) = none ∧ x = r) := fun x hx => by subst hx; exact ⟨rfl, rfl⟩
  unfold m_X2_carryOut at h
  obtain ⟨_, _, h⟩ := ob h
  refine x_aload_n C (i := 0) dX2_carryOut_0 rfl rfl ?_
  refine x_aload_n C (i := 0) dX2_carryOut_1 rfl rfl ?_
  refine x_aload_n C (i := 0) dX2_carryOut_2 rfl rfl ?_
  obtain ⟨x1, ex1, h⟩ := ob h
  refine x_getI C fl_X2_27 dX2_carryOut_3 ex1 ?_
  refine x_iload_n C (i := 1) dX2_carryOut_6 rfl rfl ?_
  obtain ⟨r2, er2, h⟩ := ob h
  refine x_callVr C Z mv_X2_behind lk_X2_73 (rv_h er2) (ct_X2_behind er2) (by decide) rfl rfl (Nat.le_of_ble_eq_true rfl) dX2_carryOut_7 ?_
  obtain ⟨σ3, eσ3, h⟩ := ob h
  refine x_put C pl_X2_27 dX2_carryOut_10 (fun _ => ⟨rfl, rfl⟩) eσ3 ?_
  refine x_aload_n C (i := 0) dX2_carryOut_13 rfl rfl ?_
  refine x_dup C dX2_carryOut_14 rfl ?_
  obtain ⟨x4, ex4, h⟩ := ob h
  refine x_getI C fl_X2_21 dX2_carryOut_15 ex4 ?_
  refine x_iconst C (v := 1) dX2_carryOut_18 (by decide) ?_
  refine x_iadd C dX2_carryOut_19 ?_
  obtain ⟨σ5, eσ5, h⟩ := ob h
  refine x_put C pl_X2_21 dX2_carryOut_20 (fun _ => ⟨rfl, rfl⟩) eσ5 ?_
  exact x_vret C E dX2_carryOut_23 (hE σ5 (Option.some.inj h).symm)
theorem dX2_numberOf_0 : decode cX2_numberOf 0 = .ok (.iload_n 1, 1) := by decide +kernel
theorem dX2_numberOf_1 : decode cX2_numberOf 1 = .ok (.ifCond .lt 25, 3) := by decide +kernel
theorem dX2_numberOf_4 : decode cX2_numberOf 4 = .ok (.aload_n 0, 1) := by decide +kernel
theorem dX2_numberOf_5 : decode cX2_numberOf 5 = .ok (.iload_n 1, 1) := by decide +kernel
theorem dX2_numberOf_6 : decode cX2_numberOf 6 = .ok (.bipush 10, 2) := by decide +kernel
theorem dX2_numberOf_8 : decode cX2_numberOf 8 = .ok (.idiv, 1) := by decide +kernel
theorem dX2_numberOf_9 : decode cX2_numberOf 9 = .ok (.invokevirtual 43, 3) := by decide +kernel
theorem dX2_numberOf_12 : decode cX2_numberOf 12 = .ok (.ifCond .eq 14, 3) := by decide +kernel
theorem dX2_numberOf_15 : decode cX2_numberOf 15 = .ok (.aload_n 0, 1) := by decide +kernel
theorem dX2_numberOf_16 : decode cX2_numberOf 16 = .ok (.iload_n 1, 1) := by decide +kernel
theorem dX2_numberOf_17 : decode cX2_numberOf 17 = .ok (.bipush 10, 2) := by decide +kernel
theorem dX2_numberOf_19 : decode cX2_numberOf 19 = .ok (.irem, 1) := by decide +kernel
theorem dX2_numberOf_20 : decode cX2_numberOf 20 = .ok (.invokevirtual 43, 3) := by decide +kernel
theorem dX2_numberOf_23 : decode cX2_numberOf 23 = .ok (.ifCond .ne 7, 3) := by decide +kernel
theorem dX2_numberOf_26 : decode cX2_numberOf 26 = .ok (.iconst (-1), 1) := by decide +kernel
theorem dX2_numberOf_27 : decode cX2_numberOf 27 = .ok (.goto 14, 3) := by decide +kernel
theorem dX2_numberOf_30 : decode cX2_numberOf 30 = .ok (.iconst 4, 1) := by decide +kernel
theorem dX2_numberOf_31 : decode cX2_numberOf 31 = .ok (.iload_n 1, 1) := by decide +kernel
theorem dX2_numberOf_32 : decode cX2_numberOf 32 = .ok (.bipush 10, 2) := by decide +kernel
theorem dX2_numberOf_34 : decode cX2_numberOf 34 = .ok (.idiv, 1) := by decide +kernel
theorem dX2_numberOf_35 : decode cX2_numberOf 35 = .ok (.imul, 1) := by decide +kernel
theorem dX2_numberOf_36 : decode cX2_numberOf 36 = .ok (.iload_n 1, 1) := by decide +kernel
theorem dX2_numberOf_37 : decode cX2_numberOf 37 = .ok (.bipush 10, 2) := by decide +kernel
theorem dX2_numberOf_39 : decode cX2_numberOf 39 = .ok (.irem, 1) := by decide +kernel
theorem dX2_numberOf_40 : decode cX2_numberOf 40 = .ok (.iadd, 1) := by decide +kernel
theorem dX2_numberOf_41 : decode cX2_numberOf 41 = .ok (.ireturn, 1) := by decide +kernel
def m_X2_numberOf (N : Nat) (σ : Hp) (t0 : Nat) (p1 : Int32) : Option (Int32) :=
  (rv N σ t0 2).bind fun _ =>
  if p1 < 0 then
   some (-1)
  else
   (m_X2_hasPeg N σ t0 (p1 / 10)).bind fun r2 =>
  if r2 = 0 then
   some (-1)
  else
   (m_X2_hasPeg N σ t0 (p1 - p1 / 10 * 10)).bind fun r4 =>
  if r4 = 0 then
   some (-1)
  else
   some (((4 : Int32) * (p1 / 10)) + (p1 - p1 / 10 * 10))
set_option maxHeartbeats 4000000 in
set_option maxRecDepth 100000 in
theorem ct_X2_numberOf {l : Launch} {D : va_G} {cy : Nat → Nat} {N : Nat} {σ : Hp} {t0 : Nat} {p1 : Int32} {r : Int32} (h : m_X2_numberOf N σ t0 p1 = some r) : Ct l D cy yX2_numberOf cX2_numberOf 2 (some .int) 1 [.ref t0, .int p1] N σ (fun v s' => v = (some (.int r)) ∧ s' = σ) := by
  refine Ct.intro [some (.ref t0), some (.int p1)] (by decide) rfl (Nat.le_of_ble_eq_true rfl) ?_
  intro κ ω e1 e2 e3 e4 C Z E
  subst e1; subst e2; subst e3; subst e4
  have C : Cx κ 2 1 cX2_numberOf RX2 "numberOf" := C
  have hE : ∀ x : Int32, r = x → ((some (Value.int x)) = (some (Value.int r)) ∧ σ = σ) := fun x hx => by subst hx; exact ⟨rfl, rfl⟩
  unfold m_X2_numberOf at h
  obtain ⟨_, _, h⟩ := ob h
  refine x_iload_n C (i := 1) dX2_numberOf_0 rfl rfl ?_
  refine x_if_lt C (tgt := 26) dX2_numberOf_1 (by decide) (fun c1 => ?_) (fun c1 => ?_)
  · have h := ifP h c1
    refine x_iconst C (v := (-1)) dX2_numberOf_26 (by decide) ?_
    refine x_goto C (tgt := 41) dX2_numberOf_27 (by decide) ?_
    exact x_iret C E dX2_numberOf_41 (hE (-1) (Option.some.inj h).symm)
  · have h := ifN h c1
    refine x_aload_n C (i := 0) dX2_numberOf_4 rfl rfl ?_
    refine x_iload_n C (i := 1) dX2_numberOf_5 rfl rfl ?_
    refine x_bipush C (v := 10) dX2_numberOf_6 (by decide) ?_
    refine x_idiv C dX2_numberOf_8 (by decide) ?_
    obtain ⟨r2, er2, h⟩ := ob h
    refine x_callVr C Z mv_X2_hasPeg lk_X2_43 (rv_h er2) (ct_X2_hasPeg er2) (by decide) rfl rfl (Nat.le_of_ble_eq_true rfl) dX2_numberOf_9 ?_
    refine x_if_eq C (tgt := 26) dX2_numberOf_12 (by decide) (fun c3 => ?_) (fun c3 => ?_)
    · have h := ifP h c3
      refine x_iconst C (v := (-1)) dX2_numberOf_26 (by decide) ?_
      refine x_goto C (tgt := 41) dX2_numberOf_27 (by decide) ?_
      exact x_iret C E dX2_numberOf_41 (hE (-1) (Option.some.inj h).symm)
    · have h := ifN h c3
      refine x_aload_n C (i := 0) dX2_numberOf_15 rfl rfl ?_
      refine x_iload_n C (i := 1) dX2_numberOf_16 rfl rfl ?_
      refine x_bipush C (v := 10) dX2_numberOf_17 (by decide) ?_
      refine x_irem C dX2_numberOf_19 (by decide) ?_
      obtain ⟨r4, er4, h⟩ := ob h
      refine x_callVr C Z mv_X2_hasPeg lk_X2_43 (rv_h er4) (ct_X2_hasPeg er4) (by decide) rfl rfl (Nat.le_of_ble_eq_true rfl) dX2_numberOf_20 ?_
      refine x_if_ne C (tgt := 30) dX2_numberOf_23 (by decide) (fun c5 => ?_) (fun c5 => ?_)
      · have h := ifN h c5
        refine x_iconst C (v := 4) dX2_numberOf_30 (by decide) ?_
        refine x_iload_n C (i := 1) dX2_numberOf_31 rfl rfl ?_
        refine x_bipush C (v := 10) dX2_numberOf_32 (by decide) ?_
        refine x_idiv C dX2_numberOf_34 (by decide) ?_
        refine x_imul C dX2_numberOf_35 ?_
        refine x_iload_n C (i := 1) dX2_numberOf_36 rfl rfl ?_
        refine x_bipush C (v := 10) dX2_numberOf_37 (by decide) ?_
        refine x_irem C dX2_numberOf_39 (by decide) ?_
        refine x_iadd C dX2_numberOf_40 ?_
        exact x_iret C E dX2_numberOf_41 (hE (((4 : Int32) * (p1 / 10)) + (p1 - p1 / 10 * 10)) (Option.some.inj h).symm)
      · have h := ifP h c5
        refine x_iconst C (v := (-1)) dX2_numberOf_26 (by decide) ?_
        refine x_goto C (tgt := 41) dX2_numberOf_27 (by decide) ?_
        exact x_iret C E dX2_numberOf_41 (hE (-1) (Option.some.inj h).symm)
theorem dX2_firstWrong_0 : decode cX2_firstWrong 0 = .ok (.iconst 0, 1) := by decide +kernel
theorem dX2_firstWrong_1 : decode cX2_firstWrong 1 = .ok (.istore 4, 2) := by decide +kernel
theorem dX2_firstWrong_3 : decode cX2_firstWrong 3 = .ok (.iload 4, 2) := by decide +kernel
theorem dX2_firstWrong_5 : decode cX2_firstWrong 5 = .ok (.iload_n 3, 1) := by decide +kernel
theorem dX2_firstWrong_6 : decode cX2_firstWrong 6 = .ok (.if_icmp .ge 46, 3) := by decide +kernel
theorem dX2_firstWrong_9 : decode cX2_firstWrong 9 = .ok (.aload_n 0, 1) := by decide +kernel
theorem dX2_firstWrong_10 : decode cX2_firstWrong 10 = .ok (.aload_n 1, 1) := by decide +kernel
theorem dX2_firstWrong_11 : decode cX2_firstWrong 11 = .ok (.iload_n 2, 1) := by decide +kernel
theorem dX2_firstWrong_12 : decode cX2_firstWrong 12 = .ok (.iload 4, 2) := by decide +kernel
theorem dX2_firstWrong_14 : decode cX2_firstWrong 14 = .ok (.iadd, 1) := by decide +kernel
theorem dX2_firstWrong_15 : decode cX2_firstWrong 15 = .ok (.invokevirtual 38, 3) := by decide +kernel
theorem dX2_firstWrong_18 : decode cX2_firstWrong 18 = .ok (.invokevirtual 77, 3) := by decide +kernel
theorem dX2_firstWrong_21 : decode cX2_firstWrong 21 = .ok (.istore 5, 2) := by decide +kernel
theorem dX2_firstWrong_23 : decode cX2_firstWrong 23 = .ok (.iload 5, 2) := by decide +kernel
theorem dX2_firstWrong_25 : decode cX2_firstWrong 25 = .ok (.ifCond .lt 12, 3) := by decide +kernel
theorem dX2_firstWrong_28 : decode cX2_firstWrong 28 = .ok (.aload_n 0, 1) := by decide +kernel
theorem dX2_firstWrong_29 : decode cX2_firstWrong 29 = .ok (.iload 5, 2) := by decide +kernel
theorem dX2_firstWrong_31 : decode cX2_firstWrong 31 = .ok (.invokevirtual 80, 3) := by decide +kernel
theorem dX2_firstWrong_34 : decode cX2_firstWrong 34 = .ok (.ifCond .ne 6, 3) := by decide +kernel
theorem dX2_firstWrong_37 : decode cX2_firstWrong 37 = .ok (.iload 4, 2) := by decide +kernel
theorem dX2_firstWrong_39 : decode cX2_firstWrong 39 = .ok (.ireturn, 1) := by decide +kernel
theorem dX2_firstWrong_40 : decode cX2_firstWrong 40 = .ok (.aload_n 0, 1) := by decide +kernel
theorem dX2_firstWrong_41 : decode cX2_firstWrong 41 = .ok (.iload 5, 2) := by decide +kernel
theorem dX2_firstWrong_43 : decode cX2_firstWrong 43 = .ok (.invokevirtual 83, 3) := by decide +kernel
theorem dX2_firstWrong_46 : decode cX2_firstWrong 46 = .ok (.iinc 4 1, 3) := by decide +kernel
theorem dX2_firstWrong_49 : decode cX2_firstWrong 49 = .ok (.goto (-46), 3) := by decide +kernel
theorem dX2_firstWrong_52 : decode cX2_firstWrong 52 = .ok (.ldc 87, 2) := by decide +kernel
theorem dX2_firstWrong_54 : decode cX2_firstWrong 54 = .ok (.ireturn, 1) := by decide +kernel
def L_X2_firstWrong_3 (N : Nat) (v0 : Nat) (v1 : Nat) (v2 : Int32) (v3 : Int32) : Nat → Hp → Int32 → Option ((Hp) ⊕ (Int32 × Hp))
  | 0, _, _ => none
  | n + 1, σ, v4 =>
  if v3 ≤ v4 then
   some (.inl σ)
  else
   (m_X5_itemAt N σ v1 (v2 + v4)).bind fun r2 =>
  (m_X2_numberOf N σ v0 r2).bind fun r3 =>
  if r3 < 0 then
   some (.inr (v4, σ))
  else
   (m_X2_allows N σ v0 r3).bind fun r5 =>
  if r5 = 0 then
   some (.inr (v4, σ))
  else
   (m_X2_carryOut N σ v0 r3).bind fun r7 =>
  L_X2_firstWrong_3 N v0 v1 v2 v3 n r7 (v4 + 1)
def m_X2_firstWrong (N : Nat) (σ : Hp) (t0 : Nat) (p1 : Nat) (p2 : Int32) (p3 : Int32) : Option (Int32 × Hp) :=
  (rv N σ t0 2).bind fun _ =>
  (L_X2_firstWrong_3 N t0 p1 p2 p3 fu σ 0).bind fun z8 =>
  cS z8 (fun w9 => some ((-1000000), w9)) (fun q10 => some q10)
set_option maxHeartbeats 4000000 in
set_option maxRecDepth 100000 in
theorem lp_X2_firstWrong_3 {κ : Kx} {ω : Om} (C : Cx κ 6 5 cX2_firstWrong RX2 "firstWrong") (Z : Zx κ ω) {Post : Option Value → Hp → Prop} (E : Rt κ ω (some .int) Post) (v0 : Nat) (v1 : Nat) (v2 : Int32) (v3 : Int32) {r : (Hp) ⊕ (Int32 × Hp)} (hE : ∀ x : Int32 × Hp, r = .inr x → Post (some (.int x.1)) x.2) (hk : ∀ u, r = .inl u → X κ 6 ω 52 [none, none, none, none, none, none] [] u) : ∀ (n : Nat) (σ : Hp) (v4 : Int32), L_X2_firstWrong_3 ω.1 v0 v1 v2 v3 n σ v4 = some r → X κ 6 ω 3 [some (.ref v0), some (.ref v1), some (.int v2), some (.int v3), some (.int v4), none] [] σ := by
  intro n
  induction n with
  | zero => intro σ v4 h; cases h
  | succ n ih =>
    intro σ v4 h
    rw [L_X2_firstWrong_3.eq_2] at h
    refine x_iload C (i := 4) dX2_firstWrong_3 rfl ?_
    refine x_iload_n C (i := 3) dX2_firstWrong_5 rfl rfl ?_
    refine x_icmp_ge C (tgt := 52) dX2_firstWrong_6 (by decide) (fun c1 => ?_) (fun c1 => ?_)
    · have h := ifP h c1
      refine x_wk [false, false, false, false, false, false] (lo' := [none, none, none, none, none, none]) rfl ?_
      exact hk _ (Option.some.inj h).symm
    · have h := ifN h c1
      refine x_aload_n C (i := 0) dX2_firstWrong_9 rfl rfl ?_
      refine x_aload_n C (i := 1) dX2_firstWrong_10 rfl rfl ?_
      refine x_iload_n C (i := 2) dX2_firstWrong_11 rfl rfl ?_
      refine x_iload C (i := 4) dX2_firstWrong_12 rfl ?_
      refine x_iadd C dX2_firstWrong_14 ?_
      obtain ⟨r2, er2, h⟩ := ob h
      refine x_callVr C Z mv_X5_itemAt lk_X2_38 (rv_h er2) (ct_X5_itemAt er2) (by decide) rfl rfl (Nat.le_of_ble_eq_true rfl) dX2_firstWrong_15 ?_
      obtain ⟨r3, er3, h⟩ := ob h
      refine x_callVr C Z mv_X2_numberOf lk_X2_77 (rv_h er3) (ct_X2_numberOf er3) (by decide) rfl rfl (Nat.le_of_ble_eq_true rfl) dX2_firstWrong_18 ?_
      refine x_istore C (i := 5) (lo' := [some (.ref v0), some (.ref v1), some (.int v2), some (.int v3), some (.int v4), some (.int r3)]) dX2_firstWrong_21 (by decide) rfl rfl ?_
      refine x_iload C (i := 5) dX2_firstWrong_23 rfl ?_
      refine x_if_lt C (tgt := 37) dX2_firstWrong_25 (by decide) (fun c4 => ?_) (fun c4 => ?_)
      · have h := ifP h c4
        refine x_iload C (i := 4) dX2_firstWrong_37 rfl ?_
        exact x_iret C E dX2_firstWrong_39 (hE (v4, σ) (Option.some.inj h).symm)
      · have h := ifN h c4
        refine x_aload_n C (i := 0) dX2_firstWrong_28 rfl rfl ?_
        refine x_iload C (i := 5) dX2_firstWrong_29 rfl ?_
        obtain ⟨r5, er5, h⟩ := ob h
        refine x_callVr C Z mv_X2_allows lk_X2_80 (rv_h er5) (ct_X2_allows er5) (by decide) rfl rfl (Nat.le_of_ble_eq_true rfl) dX2_firstWrong_31 ?_
        refine x_if_ne C (tgt := 40) dX2_firstWrong_34 (by decide) (fun c6 => ?_) (fun c6 => ?_)
        · have h := ifN h c6
          refine x_aload_n C (i := 0) dX2_firstWrong_40 rfl rfl ?_
          refine x_iload C (i := 5) dX2_firstWrong_41 rfl ?_
          obtain ⟨r7, er7, h⟩ := ob h
          refine x_callVn C Z mv_X2_carryOut lk_X2_83 (rv_h er7) (ct_X2_carryOut er7) (by decide) rfl rfl (Nat.le_of_ble_eq_true rfl) dX2_firstWrong_43 ?_
          refine x_iinc C (i := 4) (y := v4 + 1) (lo' := [some (.ref v0), some (.ref v1), some (.int v2), some (.int v3), some (.int (v4 + 1)), some (.int r3)]) dX2_firstWrong_46 rfl rfl (by decide) rfl rfl ?_
          refine x_goto C (tgt := 3) dX2_firstWrong_49 (by decide) ?_
          refine x_wk [true, true, true, true, true, false] (lo' := [some (.ref v0), some (.ref v1), some (.int v2), some (.int v3), some (.int (v4 + 1)), none]) rfl ?_
          exact ih r7 (v4 + 1) h
        · have h := ifP h c6
          refine x_iload C (i := 4) dX2_firstWrong_37 rfl ?_
          exact x_iret C E dX2_firstWrong_39 (hE (v4, σ) (Option.some.inj h).symm)
set_option maxHeartbeats 4000000 in
set_option maxRecDepth 100000 in
theorem ct_X2_firstWrong {l : Launch} {D : va_G} {cy : Nat → Nat} {N : Nat} {σ : Hp} {t0 : Nat} {p1 : Nat} {p2 : Int32} {p3 : Int32} {r : Int32 × Hp} (h : m_X2_firstWrong N σ t0 p1 p2 p3 = some r) : Ct l D cy yX2_firstWrong cX2_firstWrong 6 (some .int) 5 [.ref t0, .ref p1, .int p2, .int p3] N σ (fun v s' => v = (some (.int r.1)) ∧ s' = r.2) := by
  refine Ct.intro [some (.ref t0), some (.ref p1), some (.int p2), some (.int p3), none, none] (by decide) rfl (Nat.le_of_ble_eq_true rfl) ?_
  intro κ ω e1 e2 e3 e4 C Z E
  subst e1; subst e2; subst e3; subst e4
  have C : Cx κ 6 5 cX2_firstWrong RX2 "firstWrong" := C
  have hE : ∀ x : Int32 × Hp, r = x → ((some (Value.int x.1)) = (some (Value.int r.1)) ∧ x.2 = r.2) := fun x hx => by subst hx; exact ⟨rfl, rfl⟩
  unfold m_X2_firstWrong at h
  obtain ⟨_, _, h⟩ := ob h
  refine x_iconst C (v := 0) dX2_firstWrong_0 (by decide) ?_
  refine x_istore C (i := 4) (lo' := [some (.ref t0), some (.ref p1), some (.int p2), some (.int p3), some (.int 0), none]) dX2_firstWrong_1 (by decide) rfl rfl ?_
  obtain ⟨z8, ez8, h⟩ := ob h
  refine x_wk [true, true, true, true, true, false] (lo' := [some (.ref t0), some (.ref p1), some (.int p2), some (.int p3), some (.int 0), none]) rfl ?_
  refine lp_X2_firstWrong_3 C Z E t0 p1 p2 p3 (fun q10 hx => by subst hx; have h := cS_r h; exact hE q10 (Option.some.inj h).symm) (fun w9 hu => ?_) _ σ 0 ez8
  subst hu
  have h := cS_l h
  refine x_ldc C kc_X2_87 dX2_firstWrong_52 ?_
  exact x_iret C E dX2_firstWrong_54 (hE ((-1000000), w9) (Option.some.inj h).symm)
theorem dX2_pick_0 : decode cX2_pick 0 = .ok (.iload_n 0, 1) := by decide +kernel
theorem dX2_pick_1 : decode cX2_pick 1 = .ok (.istore_n 2, 1) := by decide +kernel
theorem dX2_pick_2 : decode cX2_pick 2 = .ok (.iconst 0, 1) := by decide +kernel
theorem dX2_pick_3 : decode cX2_pick 3 = .ok (.istore_n 3, 1) := by decide +kernel
theorem dX2_pick_4 : decode cX2_pick 4 = .ok (.iload_n 3, 1) := by decide +kernel
theorem dX2_pick_5 : decode cX2_pick 5 = .ok (.iload_n 1, 1) := by decide +kernel
theorem dX2_pick_6 : decode cX2_pick 6 = .ok (.if_icmp .ge 15, 3) := by decide +kernel
theorem dX2_pick_9 : decode cX2_pick 9 = .ok (.iload_n 2, 1) := by decide +kernel
theorem dX2_pick_10 : decode cX2_pick 10 = .ok (.iload_n 2, 1) := by decide +kernel
theorem dX2_pick_11 : decode cX2_pick 11 = .ok (.iconst 1, 1) := by decide +kernel
theorem dX2_pick_12 : decode cX2_pick 12 = .ok (.isub, 1) := by decide +kernel
theorem dX2_pick_13 : decode cX2_pick 13 = .ok (.iand, 1) := by decide +kernel
theorem dX2_pick_14 : decode cX2_pick 14 = .ok (.istore_n 2, 1) := by decide +kernel
theorem dX2_pick_15 : decode cX2_pick 15 = .ok (.iinc 3 1, 3) := by decide +kernel
theorem dX2_pick_18 : decode cX2_pick 18 = .ok (.goto (-14), 3) := by decide +kernel
theorem dX2_pick_21 : decode cX2_pick 21 = .ok (.iload_n 2, 1) := by decide +kernel
theorem dX2_pick_22 : decode cX2_pick 22 = .ok (.invokestatic 53, 3) := by decide +kernel
theorem dX2_pick_25 : decode cX2_pick 25 = .ok (.ireturn, 1) := by decide +kernel
def L_X2_pick_4 (v1 : Int32) : Nat → Int32 → Int32 → Option (Int32)
  | 0, _, _ => none
  | n + 1, v2, v3 =>
  if v1 ≤ v3 then
   some v2
  else
   L_X2_pick_4 v1 n (v2 &&& (v2 - 1)) (v3 + 1)
def m_X2_pick (p0 : Int32) (p1 : Int32) : Option (Int32) :=
  (L_X2_pick_4 p1 fu p0 0).bind fun z2 =>
  (m_X2_leastOf z2).bind fun r3 =>
  some r3
set_option maxHeartbeats 4000000 in
set_option maxRecDepth 100000 in
theorem lp_X2_pick_4 {κ : Kx} {ω : Om} (C : Cx κ 4 2 cX2_pick RX2 "pick") (Z : Zx κ ω) {σ : Hp} (v1 : Int32) {r : Int32} (hk : X κ 4 ω 21 [none, none, some (.int r), none] [] σ) : ∀ (n : Nat) (v2 : Int32) (v3 : Int32), L_X2_pick_4 v1 n v2 v3 = some r → X κ 4 ω 4 [none, some (.int v1), some (.int v2), some (.int v3)] [] σ := by
  intro n
  induction n with
  | zero => intro v2 v3 h; cases h
  | succ n ih =>
    intro v2 v3 h
    rw [L_X2_pick_4.eq_2] at h
    refine x_iload_n C (i := 3) dX2_pick_4 rfl rfl ?_
    refine x_iload_n C (i := 1) dX2_pick_5 rfl rfl ?_
    refine x_icmp_ge C (tgt := 21) dX2_pick_6 (by decide) (fun c1 => ?_) (fun c1 => ?_)
    · have h := ifP h c1
      refine x_wk [false, false, true, false] (lo' := [none, none, some (.int v2), none]) rfl ?_
      obtain rfl := Option.some.inj h
      exact hk
    · have h := ifN h c1
      refine x_iload_n C (i := 2) dX2_pick_9 rfl rfl ?_
      refine x_iload_n C (i := 2) dX2_pick_10 rfl rfl ?_
      refine x_iconst C (v := 1) dX2_pick_11 (by decide) ?_
      refine x_isub C dX2_pick_12 ?_
      refine x_iand C dX2_pick_13 ?_
      refine x_istore_n C (i := 2) (lo' := [none, some (.int v1), some (.int (v2 &&& (v2 - 1))), some (.int v3)]) dX2_pick_14 rfl (by decide) rfl rfl ?_
      refine x_iinc C (i := 3) (y := v3 + 1) (lo' := [none, some (.int v1), some (.int (v2 &&& (v2 - 1))), some (.int (v3 + 1))]) dX2_pick_15 rfl rfl (by decide) rfl rfl ?_
      refine x_goto C (tgt := 4) dX2_pick_18 (by decide) ?_
      refine x_wk [false, true, true, true] (lo' := [none, some (.int v1), some (.int (v2 &&& (v2 - 1))), some (.int (v3 + 1))]) rfl ?_
      exact ih (v2 &&& (v2 - 1)) (v3 + 1) h
set_option maxHeartbeats 4000000 in
set_option maxRecDepth 100000 in
theorem ct_X2_pick {l : Launch} {D : va_G} {cy : Nat → Nat} {N : Nat} {σ : Hp} {p0 : Int32} {p1 : Int32} {r : Int32} (h : m_X2_pick p0 p1 = some r) : Ct l D cy yX2_pick cX2_pick 4 (some .int) 2 [.int p0, .int p1] N σ (fun v s' => v = (some (.int r)) ∧ s' = σ) := by
  refine Ct.intro [some (.int p0), some (.int p1), none, none] (by decide) rfl (Nat.le_of_ble_eq_true rfl) ?_
  intro κ ω e1 e2 e3 e4 C Z E
  subst e1; subst e2; subst e3; subst e4
  have C : Cx κ 4 2 cX2_pick RX2 "pick" := C
  have hE : ∀ x : Int32, r = x → ((some (Value.int x)) = (some (Value.int r)) ∧ σ = σ) := fun x hx => by subst hx; exact ⟨rfl, rfl⟩
  unfold m_X2_pick at h
  refine x_iload_n C (i := 0) dX2_pick_0 rfl rfl ?_
  refine x_istore_n C (i := 2) (lo' := [some (.int p0), some (.int p1), some (.int p0), none]) dX2_pick_1 rfl (by decide) rfl rfl ?_
  refine x_iconst C (v := 0) dX2_pick_2 (by decide) ?_
  refine x_istore_n C (i := 3) (lo' := [some (.int p0), some (.int p1), some (.int p0), some (.int 0)]) dX2_pick_3 rfl (by decide) rfl rfl ?_
  obtain ⟨z2, ez2, h⟩ := ob h
  refine x_wk [false, true, true, true] (lo' := [none, some (.int p1), some (.int p0), some (.int 0)]) rfl ?_
  refine lp_X2_pick_4 C Z p1 ?_ _ p0 0 ez2
  refine x_iload_n C (i := 2) dX2_pick_21 rfl rfl ?_
  obtain ⟨r3, er3, h⟩ := ob h
  refine x_callSr C Z ms_X2_leastOf lk_X2_53 (ct_X2_leastOf (N := ω.1) (σ := σ) er3) (by decide) rfl rfl (Nat.le_of_ble_eq_true rfl) dX2_pick_22 ?_
  exact x_iret C E dX2_pick_25 (hE r3 (Option.some.inj h).symm)
theorem dX2_spendEvening_0 : decode cX2_spendEvening 0 = .ok (.iload_n 2, 1) := by decide +kernel
theorem dX2_spendEvening_1 : decode cX2_spendEvening 1 = .ok (.i2l, 1) := by decide +kernel
theorem dX2_spendEvening_2 : decode cX2_spendEvening 2 = .ok (.lstore_n 3, 1) := by decide +kernel
theorem dX2_spendEvening_3 : decode cX2_spendEvening 3 = .ok (.iconst 0, 1) := by decide +kernel
theorem dX2_spendEvening_4 : decode cX2_spendEvening 4 = .ok (.istore 5, 2) := by decide +kernel
theorem dX2_spendEvening_6 : decode cX2_spendEvening 6 = .ok (.iconst 0, 1) := by decide +kernel
theorem dX2_spendEvening_7 : decode cX2_spendEvening 7 = .ok (.istore 6, 2) := by decide +kernel
theorem dX2_spendEvening_9 : decode cX2_spendEvening 9 = .ok (.iload 6, 2) := by decide +kernel
theorem dX2_spendEvening_11 : decode cX2_spendEvening 11 = .ok (.iload_n 1, 1) := by decide +kernel
theorem dX2_spendEvening_12 : decode cX2_spendEvening 12 = .ok (.if_icmp .ge 70, 3) := by decide +kernel
theorem dX2_spendEvening_15 : decode cX2_spendEvening 15 = .ok (.lload_n 3, 1) := by decide +kernel
theorem dX2_spendEvening_16 : decode cX2_spendEvening 16 = .ok (.ldc2_w 88, 3) := by decide +kernel
theorem dX2_spendEvening_19 : decode cX2_spendEvening 19 = .ok (.lmul, 1) := by decide +kernel
theorem dX2_spendEvening_20 : decode cX2_spendEvening 20 = .ok (.ldc2_w 90, 3) := by decide +kernel
theorem dX2_spendEvening_23 : decode cX2_spendEvening 23 = .ok (.lrem, 1) := by decide +kernel
theorem dX2_spendEvening_24 : decode cX2_spendEvening 24 = .ok (.lstore_n 3, 1) := by decide +kernel
theorem dX2_spendEvening_25 : decode cX2_spendEvening 25 = .ok (.aload_n 0, 1) := by decide +kernel
theorem dX2_spendEvening_26 : decode cX2_spendEvening 26 = .ok (.invokevirtual 60, 3) := by decide +kernel
theorem dX2_spendEvening_29 : decode cX2_spendEvening 29 = .ok (.istore 7, 2) := by decide +kernel
theorem dX2_spendEvening_31 : decode cX2_spendEvening 31 = .ok (.iload 7, 2) := by decide +kernel
theorem dX2_spendEvening_33 : decode cX2_spendEvening 33 = .ok (.invokestatic 68, 3) := by decide +kernel
theorem dX2_spendEvening_36 : decode cX2_spendEvening 36 = .ok (.istore 8, 2) := by decide +kernel
theorem dX2_spendEvening_38 : decode cX2_spendEvening 38 = .ok (.iload 8, 2) := by decide +kernel
theorem dX2_spendEvening_40 : decode cX2_spendEvening 40 = .ok (.ifCond .eq 36, 3) := by decide +kernel
theorem dX2_spendEvening_43 : decode cX2_spendEvening 43 = .ok (.iload 7, 2) := by decide +kernel
theorem dX2_spendEvening_45 : decode cX2_spendEvening 45 = .ok (.lload_n 3, 1) := by decide +kernel
theorem dX2_spendEvening_46 : decode cX2_spendEvening 46 = .ok (.iload 8, 2) := by decide +kernel
theorem dX2_spendEvening_48 : decode cX2_spendEvening 48 = .ok (.i2l, 1) := by decide +kernel
theorem dX2_spendEvening_49 : decode cX2_spendEvening 49 = .ok (.lrem, 1) := by decide +kernel
theorem dX2_spendEvening_50 : decode cX2_spendEvening 50 = .ok (.l2i, 1) := by decide +kernel
theorem dX2_spendEvening_51 : decode cX2_spendEvening 51 = .ok (.invokestatic 92, 3) := by decide +kernel
theorem dX2_spendEvening_54 : decode cX2_spendEvening 54 = .ok (.istore 9, 2) := by decide +kernel
theorem dX2_spendEvening_56 : decode cX2_spendEvening 56 = .ok (.aload_n 0, 1) := by decide +kernel
theorem dX2_spendEvening_57 : decode cX2_spendEvening 57 = .ok (.iload 9, 2) := by decide +kernel
theorem dX2_spendEvening_59 : decode cX2_spendEvening 59 = .ok (.iconst 2, 1) := by decide +kernel
theorem dX2_spendEvening_60 : decode cX2_spendEvening 60 = .ok (.ishr, 1) := by decide +kernel
theorem dX2_spendEvening_61 : decode cX2_spendEvening 61 = .ok (.invokevirtual 95, 3) := by decide +kernel
theorem dX2_spendEvening_64 : decode cX2_spendEvening 64 = .ok (.ifCond .ne 6, 3) := by decide +kernel
theorem dX2_spendEvening_67 : decode cX2_spendEvening 67 = .ok (.iinc 5 1, 3) := by decide +kernel
theorem dX2_spendEvening_70 : decode cX2_spendEvening 70 = .ok (.aload_n 0, 1) := by decide +kernel
theorem dX2_spendEvening_71 : decode cX2_spendEvening 71 = .ok (.iload 9, 2) := by decide +kernel
theorem dX2_spendEvening_73 : decode cX2_spendEvening 73 = .ok (.invokevirtual 83, 3) := by decide +kernel
theorem dX2_spendEvening_76 : decode cX2_spendEvening 76 = .ok (.iinc 6 1, 3) := by decide +kernel
theorem dX2_spendEvening_79 : decode cX2_spendEvening 79 = .ok (.goto (-70), 3) := by decide +kernel
theorem dX2_spendEvening_82 : decode cX2_spendEvening 82 = .ok (.iload 5, 2) := by decide +kernel
theorem dX2_spendEvening_84 : decode cX2_spendEvening 84 = .ok (.ireturn, 1) := by decide +kernel
def L_X2_spendEvening_9 (N : Nat) (v0 : Nat) (v1 : Int32) : Nat → Hp → Int64 → Int32 → Int32 → Option (Int32 × Hp)
  | 0, _, _, _, _ => none
  | n + 1, σ, v3, v5, v6 =>
  if v1 ≤ v6 then
   some (v5, σ)
  else
   lt ((v3 * 16807) - (v3 * 16807) / 2147483647 * 2147483647) fun y2 =>
  (m_X2_movesNow N σ v0).bind fun r3 =>
  (m_J6_bitCount_0f7a4 r3).bind fun r4 =>
  if r4 = 0 then
   L_X2_spendEvening_9 N v0 v1 n σ y2 v5 (v6 + 1)
  else
   (nzJ r4.toInt64).bind fun u6 =>
  (m_X2_pick r3 ((y2 - y2 / r4.toInt64 * r4.toInt64).toInt32)).bind fun r7 =>
  (m_X2_topOf N σ v0 (r7 >>> (2 &&& 31))).bind fun r8 =>
  ((if r8 = 0 then
   some (v5 + 1)
  else
   some v5) : Option (Int32)).bind fun z9 =>
  (m_X2_carryOut N σ v0 r7).bind fun r10 =>
  L_X2_spendEvening_9 N v0 v1 n r10 y2 z9 (v6 + 1)
def m_X2_spendEvening (N : Nat) (σ : Hp) (t0 : Nat) (p1 : Int32) (p2 : Int32) : Option (Int32 × Hp) :=
  (rv N σ t0 2).bind fun _ =>
  (L_X2_spendEvening_9 N t0 p1 fu σ p2.toInt64 0 0).bind fun z14 =>
  some (z14.1, z14.2)
set_option maxHeartbeats 4000000 in
set_option maxRecDepth 100000 in
theorem lp_X2_spendEvening_9 {κ : Kx} {ω : Om} (C : Cx κ 10 4 cX2_spendEvening RX2 "spendEvening") (Z : Zx κ ω) (v0 : Nat) (v1 : Int32) {r : Int32 × Hp} (hk : X κ 10 ω 82 [none, none, none, none, none, some (.int r.1), none, none, none, none] [] r.2) : ∀ (n : Nat) (σ : Hp) (v3 : Int64) (v5 : Int32) (v6 : Int32), L_X2_spendEvening_9 ω.1 v0 v1 n σ v3 v5 v6 = some r → X κ 10 ω 9 [some (.ref v0), some (.int v1), none, some (.long v3), none, some (.int v5), some (.int v6), none, none, none] [] σ := by
  intro n
  induction n with
  | zero => intro σ v3 v5 v6 h; cases h
  | succ n ih =>
    intro σ v3 v5 v6 h
    rw [L_X2_spendEvening_9.eq_2] at h
    refine x_iload C (i := 6) dX2_spendEvening_9 rfl ?_
    refine x_iload_n C (i := 1) dX2_spendEvening_11 rfl rfl ?_
    refine x_icmp_ge C (tgt := 82) dX2_spendEvening_12 (by decide) (fun c1 => ?_) (fun c1 => ?_)
    · have h := ifP h c1
      refine x_wk [false, false, false, false, false, true, false, false, false, false] (lo' := [none, none, none, none, none, some (.int v5), none, none, none, none]) rfl ?_
      obtain rfl := Option.some.inj h
      exact hk
    · have h := ifN h c1
      refine x_lload_n C (i := 3) dX2_spendEvening_15 rfl rfl ?_
      refine x_ldc2 C kj_X2_88 dX2_spendEvening_16 ?_
      refine x_lmul C dX2_spendEvening_19 ?_
      refine x_ldc2 C kj_X2_90 dX2_spendEvening_20 ?_
      refine x_lrem C dX2_spendEvening_23 (by decide) ?_
      refine x_topl (fun y2 ey2 => ?_)
      have h := lt_e h ey2
      refine x_lstore_n C (i := 3) (lo' := [some (.ref v0), some (.int v1), none, some (.long y2), none, some (.int v5), some (.int v6), none, none, none]) dX2_spendEvening_24 rfl (by decide) rfl rfl ?_
      refine x_aload_n C (i := 0) dX2_spendEvening_25 rfl rfl ?_
      obtain ⟨r3, er3, h⟩ := ob h
      refine x_callVr C Z mv_X2_movesNow lk_X2_60 (rv_h er3) (ct_X2_movesNow er3) (by decide) rfl rfl (Nat.le_of_ble_eq_true rfl) dX2_spendEvening_26 ?_
      refine x_istore C (i := 7) (lo' := [some (.ref v0), some (.int v1), none, some (.long y2), none, some (.int v5), some (.int v6), some (.int r3), none, none]) dX2_spendEvening_29 (by decide) rfl rfl ?_
      refine x_iload C (i := 7) dX2_spendEvening_31 rfl ?_
      obtain ⟨r4, er4, h⟩ := ob h
      refine x_callSr C Z ms_J6_bitCount_0f7a4 lk_X2_68 (ct_J6_bitCount_0f7a4 (N := ω.1) (σ := σ) er4) (by decide) rfl rfl (Nat.le_of_ble_eq_true rfl) dX2_spendEvening_33 ?_
      refine x_istore C (i := 8) (lo' := [some (.ref v0), some (.int v1), none, some (.long y2), none, some (.int v5), some (.int v6), some (.int r3), some (.int r4), none]) dX2_spendEvening_36 (by decide) rfl rfl ?_
      refine x_iload C (i := 8) dX2_spendEvening_38 rfl ?_
      refine x_if_eq C (tgt := 76) dX2_spendEvening_40 (by decide) (fun c5 => ?_) (fun c5 => ?_)
      · have h := ifP h c5
        refine x_iinc C (i := 6) (y := v6 + 1) (lo' := [some (.ref v0), some (.int v1), none, some (.long y2), none, some (.int v5), some (.int (v6 + 1)), some (.int r3), some (.int r4), none]) dX2_spendEvening_76 rfl rfl (by decide) rfl rfl ?_
        refine x_goto C (tgt := 9) dX2_spendEvening_79 (by decide) ?_
        refine x_wk [true, true, false, true, false, true, true, false, false, false] (lo' := [some (.ref v0), some (.int v1), none, some (.long y2), none, some (.int v5), some (.int (v6 + 1)), none, none, none]) rfl ?_
        exact ih σ y2 v5 (v6 + 1) h
      · have h := ifN h c5
        refine x_iload C (i := 7) dX2_spendEvening_43 rfl ?_
        refine x_lload_n C (i := 3) dX2_spendEvening_45 rfl rfl ?_
        refine x_iload C (i := 8) dX2_spendEvening_46 rfl ?_
        refine x_i2l C dX2_spendEvening_48 ?_
        obtain ⟨u6, eu6, h⟩ := ob h
        refine x_lrem C dX2_spendEvening_49 (nzJ_ne eu6) ?_
        refine x_l2i C dX2_spendEvening_50 ?_
        obtain ⟨r7, er7, h⟩ := ob h
        refine x_callSr C Z ms_X2_pick lk_X2_92 (ct_X2_pick (N := ω.1) (σ := σ) er7) (by decide) rfl rfl (Nat.le_of_ble_eq_true rfl) dX2_spendEvening_51 ?_
        refine x_istore C (i := 9) (lo' := [some (.ref v0), some (.int v1), none, some (.long y2), none, some (.int v5), some (.int v6), some (.int r3), some (.int r4), some (.int r7)]) dX2_spendEvening_54 (by decide) rfl rfl ?_
        refine x_aload_n C (i := 0) dX2_spendEvening_56 rfl rfl ?_
        refine x_iload C (i := 9) dX2_spendEvening_57 rfl ?_
        refine x_iconst C (v := 2) dX2_spendEvening_59 (by decide) ?_
        refine x_ishr C dX2_spendEvening_60 ?_
        obtain ⟨r8, er8, h⟩ := ob h
        refine x_callVr C Z mv_X2_topOf lk_X2_95 (rv_h er8) (ct_X2_topOf er8) (by decide) rfl rfl (Nat.le_of_ble_eq_true rfl) dX2_spendEvening_61 ?_
        obtain ⟨z9, hz9, h⟩ := ob h
        have hJ11 : X κ 10 ω 70 [some (.ref v0), some (.int v1), none, some (.long y2), none, some (.int z9), some (.int v6), none, none, some (.int r7)] [] σ := by
          refine x_aload_n C (i := 0) dX2_spendEvening_70 rfl rfl ?_
          refine x_iload C (i := 9) dX2_spendEvening_71 rfl ?_
          obtain ⟨r10, er10, h⟩ := ob h
          refine x_callVn C Z mv_X2_carryOut lk_X2_83 (rv_h er10) (ct_X2_carryOut er10) (by decide) rfl rfl (Nat.le_of_ble_eq_true rfl) dX2_spendEvening_73 ?_
          refine x_iinc C (i := 6) (y := v6 + 1) (lo' := [some (.ref v0), some (.int v1), none, some (.long y2), none, some (.int z9), some (.int (v6 + 1)), none, none, some (.int r7)]) dX2_spendEvening_76 rfl rfl (by decide) rfl rfl ?_
          refine x_goto C (tgt := 9) dX2_spendEvening_79 (by decide) ?_
          refine x_wk [true, true, false, true, false, true, true, false, false, false] (lo' := [some (.ref v0), some (.int v1), none, some (.long y2), none, some (.int z9), some (.int (v6 + 1)), none, none, none]) rfl ?_
          exact ih r10 y2 z9 (v6 + 1) h
        clear h
        have h := hz9
        refine x_if_ne C (tgt := 70) dX2_spendEvening_64 (by decide) (fun c13 => ?_) (fun c13 => ?_)
        · have h := ifN h c13
          refine x_wk [true, true, false, true, false, true, true, false, false, true] (lo' := [some (.ref v0), some (.int v1), none, some (.long y2), none, some (.int v5), some (.int v6), none, none, some (.int r7)]) rfl ?_
          obtain rfl := Option.some.inj h
          exact hJ11
        · have h := ifP h c13
          refine x_iinc C (i := 5) (y := v5 + 1) (lo' := [some (.ref v0), some (.int v1), none, some (.long y2), none, some (.int (v5 + 1)), some (.int v6), some (.int r3), some (.int r4), some (.int r7)]) dX2_spendEvening_67 rfl rfl (by decide) rfl rfl ?_
          refine x_wk [true, true, false, true, false, true, true, false, false, true] (lo' := [some (.ref v0), some (.int v1), none, some (.long y2), none, some (.int (v5 + 1)), some (.int v6), none, none, some (.int r7)]) rfl ?_
          obtain rfl := Option.some.inj h
          exact hJ11
set_option maxHeartbeats 4000000 in
set_option maxRecDepth 100000 in
theorem ct_X2_spendEvening {l : Launch} {D : va_G} {cy : Nat → Nat} {N : Nat} {σ : Hp} {t0 : Nat} {p1 : Int32} {p2 : Int32} {r : Int32 × Hp} (h : m_X2_spendEvening N σ t0 p1 p2 = some r) : Ct l D cy yX2_spendEvening cX2_spendEvening 10 (some .int) 4 [.ref t0, .int p1, .int p2] N σ (fun v s' => v = (some (.int r.1)) ∧ s' = r.2) := by
  refine Ct.intro [some (.ref t0), some (.int p1), some (.int p2), none, none, none, none, none, none, none] (by decide) rfl (Nat.le_of_ble_eq_true rfl) ?_
  intro κ ω e1 e2 e3 e4 C Z E
  subst e1; subst e2; subst e3; subst e4
  have C : Cx κ 10 4 cX2_spendEvening RX2 "spendEvening" := C
  have hE : ∀ x : Int32 × Hp, r = x → ((some (Value.int x.1)) = (some (Value.int r.1)) ∧ x.2 = r.2) := fun x hx => by subst hx; exact ⟨rfl, rfl⟩
  unfold m_X2_spendEvening at h
  obtain ⟨_, _, h⟩ := ob h
  refine x_iload_n C (i := 2) dX2_spendEvening_0 rfl rfl ?_
  refine x_i2l C dX2_spendEvening_1 ?_
  refine x_lstore_n C (i := 3) (lo' := [some (.ref t0), some (.int p1), some (.int p2), some (.long p2.toInt64), none, none, none, none, none, none]) dX2_spendEvening_2 rfl (by decide) rfl rfl ?_
  refine x_iconst C (v := 0) dX2_spendEvening_3 (by decide) ?_
  refine x_istore C (i := 5) (lo' := [some (.ref t0), some (.int p1), some (.int p2), some (.long p2.toInt64), none, some (.int 0), none, none, none, none]) dX2_spendEvening_4 (by decide) rfl rfl ?_
  refine x_iconst C (v := 0) dX2_spendEvening_6 (by decide) ?_
  refine x_istore C (i := 6) (lo' := [some (.ref t0), some (.int p1), some (.int p2), some (.long p2.toInt64), none, some (.int 0), some (.int 0), none, none, none]) dX2_spendEvening_7 (by decide) rfl rfl ?_
  obtain ⟨z14, ez14, h⟩ := ob h
  refine x_wk [true, true, false, true, false, true, true, false, false, false] (lo' := [some (.ref t0), some (.int p1), none, some (.long p2.toInt64), none, some (.int 0), some (.int 0), none, none, none]) rfl ?_
  refine lp_X2_spendEvening_9 C Z t0 p1 ?_ _ σ p2.toInt64 0 0 ez14
  refine x_iload C (i := 5) dX2_spendEvening_82 rfl ?_
  exact x_iret C E dX2_spendEvening_84 (hE (z14.1, z14.2) (Option.some.inj h).symm)
theorem dX3_init_0 : decode cX3_init 0 = .ok (.aload_n 0, 1) := by decide +kernel
theorem dX3_init_1 : decode cX3_init 1 = .ok (.invokespecial 3, 3) := by decide +kernel
theorem dX3_init_4 : decode cX3_init 4 = .ok (.aload_n 0, 1) := by decide +kernel
theorem dX3_init_5 : decode cX3_init 5 = .ok (.sipush 4096, 3) := by decide +kernel
theorem dX3_init_8 : decode cX3_init 8 = .ok (.newarray .long, 2) := by decide +kernel
theorem dX3_init_10 : decode cX3_init 10 = .ok (.putfield 9, 3) := by decide +kernel
theorem dX3_init_13 : decode cX3_init 13 = .ok (.aload_n 0, 1) := by decide +kernel
theorem dX3_init_14 : decode cX3_init 14 = .ok (.sipush 4096, 3) := by decide +kernel
theorem dX3_init_17 : decode cX3_init 17 = .ok (.newarray .long, 2) := by decide +kernel
theorem dX3_init_19 : decode cX3_init 19 = .ok (.putfield 15, 3) := by decide +kernel
theorem dX3_init_22 : decode cX3_init 22 = .ok (.aload_n 0, 1) := by decide +kernel
theorem dX3_init_23 : decode cX3_init 23 = .ok (.aload_n 1, 1) := by decide +kernel
theorem dX3_init_24 : decode cX3_init 24 = .ok (.putfield 18, 3) := by decide +kernel
theorem dX3_init_27 : decode cX3_init 27 = .ok (.return_, 1) := by decide +kernel
noncomputable def m_X3_init (N : Nat) (σ : Hp) (t0 : Nat) (p1 : Nat) : Option (Nat × Hp) :=
  (al N σ [t0, p1, t0] (0 + 1) (0 + 4096) 2 8192).bind fun u1 =>
  (mkc σ N (.inl (1, 4096, .inr (.inl (fun _ => 0))))).bind fun σ2 =>
  (pV (N + 1) σ2 t0 3 0 (.ref N)).bind fun σ3 =>
  (al (N + 1) σ3 [t0, p1, t0] (0 + 1 + 1) (0 + 4096 + 4096) 2 8192).bind fun u4 =>
  (mkc σ3 (N + 1) (.inl (1, 4096, .inr (.inl (fun _ => 0))))).bind fun σ5 =>
  (pV (N + 1 + 1) σ5 t0 3 1 (.ref (N + 1))).bind fun σ6 =>
  (pV (N + 1 + 1) σ6 t0 3 2 (.ref p1)).bind fun σ7 =>
  some (N + 1 + 1, σ7)
set_option maxHeartbeats 4000000 in
set_option maxRecDepth 100000 in
theorem ct_X3_init {l : Launch} {D : va_G} {cy : Nat → Nat} {N : Nat} {σ : Hp} {t0 : Nat} {p1 : Nat} {r : Nat × Hp} (h : m_X3_init N σ t0 p1 = some r) : CtA l D cy yX3_init cX3_init 2 none 1 2 8192 [.ref t0, .ref p1] N σ (fun v n' s' => v = none ∧ n' = r.1 ∧ s' = r.2) := by
  refine CtA.intro [some (.ref t0), some (.ref p1)] (by decide) rfl (Nat.le_of_ble_eq_true rfl) ?_
  intro κ ad0 e1 e2 e3 hRc hRs C Z E
  subst e1; subst e2; subst e3
  have C : Cx κ 2 1 cX3_init RX3 "<init>" := C
  have G := Ag.rf N ad0 0 0
  have hE : ∀ x : Nat × Hp, r = x → ((none : Option Value) = (none : Option Value) ∧ x.1 = r.1 ∧ x.2 = r.2) := fun x hx => by subst hx; exact ⟨rfl, rfl, rfl⟩
  unfold m_X3_init at h
  refine x_aload_n C (i := 0) dX3_init_0 rfl rfl ?_
  refine x_objInit C (by decide) oi_X3 oi_inst oi_code (Nat.le_of_ble_eq_true rfl) dX3_init_1 ?_
  refine x_aload_n C (i := 0) dX3_init_4 rfl rfl ?_
  refine x_sipush C (v := 4096) dX3_init_5 (by decide) ?_
  obtain ⟨u1, eu1, h⟩ := ob h
  obtain ⟨σ2, eσ2, h⟩ := ob h
  refine g_newJ C Z G hRc hRs 4096 wa_long (by decide) (by decide) (by decide) eu1 rfl eσ2 dX3_init_8 (fun ad Z G => ?_)
  obtain ⟨σ3, eσ3, h⟩ := ob h
  refine x_put C pl_X3_9 dX3_init_10 (fun _ => ⟨rfl, rfl⟩) eσ3 ?_
  refine x_aload_n C (i := 0) dX3_init_13 rfl rfl ?_
  refine x_sipush C (v := 4096) dX3_init_14 (by decide) ?_
  obtain ⟨u4, eu4, h⟩ := ob h
  obtain ⟨σ5, eσ5, h⟩ := ob h
  refine g_newJ C Z G hRc hRs 4096 wa_long (by decide) (by decide) (by decide) eu4 rfl eσ5 dX3_init_17 (fun ad Z G => ?_)
  obtain ⟨σ6, eσ6, h⟩ := ob h
  refine x_put C pl_X3_15 dX3_init_19 (fun _ => ⟨rfl, rfl⟩) eσ6 ?_
  refine x_aload_n C (i := 0) dX3_init_22 rfl rfl ?_
  refine x_aload_n C (i := 1) dX3_init_23 rfl rfl ?_
  obtain ⟨σ7, eσ7, h⟩ := ob h
  refine x_putF C pf_X3_18 dX3_init_24 (fun _ => ⟨rfl, rfl⟩) eσ7 ?_
  exact x_vretA C E G ⟨hRc ▸ Z.1.1, hRs ▸ Z.1.2⟩ dX3_init_27 (hE (N + 1 + 1, σ7) (Option.some.inj h).symm)
