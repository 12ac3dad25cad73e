theorem dX9_moved_0 : decode cX9_moved 0 = .ok (.iload_n 0, 1) := by decide +kernel
theorem dX9_moved_1 : decode cX9_moved 1 = .ok (.iconst 3, 1) := by decide +kernel
theorem dX9_moved_2 : decode cX9_moved 2 = .ok (.iconst 2, 1) := by decide +kernel
theorem dX9_moved_3 : decode cX9_moved 3 = .ok (.iload_n 1, 1) := by decide +kernel
theorem dX9_moved_4 : decode cX9_moved 4 = .ok (.imul, 1) := by decide +kernel
theorem dX9_moved_5 : decode cX9_moved 5 = .ok (.ishl, 1) := by decide +kernel
theorem dX9_moved_6 : decode cX9_moved 6 = .ok (.iconst (-1), 1) := by decide +kernel
theorem dX9_moved_7 : decode cX9_moved 7 = .ok (.ixor, 1) := by decide +kernel
theorem dX9_moved_8 : decode cX9_moved 8 = .ok (.iand, 1) := by decide +kernel
theorem dX9_moved_9 : decode cX9_moved 9 = .ok (.iload_n 2, 1) := by decide +kernel
theorem dX9_moved_10 : decode cX9_moved 10 = .ok (.iconst 2, 1) := by decide +kernel
theorem dX9_moved_11 : decode cX9_moved 11 = .ok (.iload_n 1, 1) := by decide +kernel
theorem dX9_moved_12 : decode cX9_moved 12 = .ok (.imul, 1) := by decide +kernel
theorem dX9_moved_13 : decode cX9_moved 13 = .ok (.ishl, 1) := by decide +kernel
theorem dX9_moved_14 : decode cX9_moved 14 = .ok (.ior, 1) := by decide +kernel
theorem dX9_moved_15 : decode cX9_moved 15 = .ok (.sipush 4096, 3) := by decide +kernel
theorem dX9_moved_18 : decode cX9_moved 18 = .ok (.ixor, 1) := by decide +kernel
theorem dX9_moved_19 : decode cX9_moved 19 = .ok (.ireturn, 1) := by decide +kernel
def m_X9_moved (p0 : Int32) (p1 : Int32) (p2 : Int32) : Option (Int32) :=
  some (((p0 &&& (((3 : Int32) <<< (((2 : Int32) * p1) &&& 31)) ^^^ (-1))) ||| (p2 <<< (((2 : Int32) * p1) &&& 31))) ^^^ 4096)
set_option maxHeartbeats 4000000 in
set_option maxRecDepth 100000 in
theorem ct_X9_moved {l : Launch} {D : va_G} {cy : Nat → Nat} {N : Nat} {σ : Hp} {p0 : Int32} {p1 : Int32} {p2 : Int32} {r : Int32} (h : m_X9_moved p0 p1 p2 = some r) : Ct l D cy yX9_moved cX9_moved 3 (some .int) 0 [.int p0, .int p1, .int p2] N σ (fun v s' => v = (some (.int r)) ∧ s' = σ) := by
  refine Ct.intro [some (.int p0), some (.int p1), some (.int p2)] (by decide) rfl (Nat.le_of_ble_eq_true rfl) ?_
  intro κ ω e1 e2 e3 e4 C Z E
  subst e1; subst e2; subst e3; subst e4
  have C : Cx κ 3 0 cX9_moved RX9 "moved" := C
  have hE : ∀ x : Int32, r = x → ((some (Value.int x)) = (some (Value.int r)) ∧ σ = σ) := fun x hx => by subst hx; exact ⟨rfl, rfl⟩
  unfold m_X9_moved at h
  refine x_iload_n C (i := 0) dX9_moved_0 rfl rfl ?_
  refine x_iconst C (v := 3) dX9_moved_1 (by decide) ?_
  refine x_iconst C (v := 2) dX9_moved_2 (by decide) ?_
  refine x_iload_n C (i := 1) dX9_moved_3 rfl rfl ?_
  refine x_imul C dX9_moved_4 ?_
  refine x_ishl C dX9_moved_5 ?_
  refine x_iconst C (v := (-1)) dX9_moved_6 (by decide) ?_
  refine x_ixor C dX9_moved_7 ?_
  refine x_iand C dX9_moved_8 ?_
  refine x_iload_n C (i := 2) dX9_moved_9 rfl rfl ?_
  refine x_iconst C (v := 2) dX9_moved_10 (by decide) ?_
  refine x_iload_n C (i := 1) dX9_moved_11 rfl rfl ?_
  refine x_imul C dX9_moved_12 ?_
  refine x_ishl C dX9_moved_13 ?_
  refine x_ior C dX9_moved_14 ?_
  refine x_sipush C (v := 4096) dX9_moved_15 (by decide) ?_
  refine x_ixor C dX9_moved_18 ?_
  exact x_iret C E dX9_moved_19 (hE (((p0 &&& (((3 : Int32) <<< (((2 : Int32) * p1) &&& 31)) ^^^ (-1))) ||| (p2 <<< (((2 : Int32) * p1) &&& 31))) ^^^ 4096) (Option.some.inj h).symm)
theorem dX9_asTold_0 : decode cX9_asTold 0 = .ok (.aload_n 0, 1) := by decide +kernel
theorem dX9_asTold_1 : decode cX9_asTold 1 = .ok (.iconst (-1), 1) := by decide +kernel
theorem dX9_asTold_2 : decode cX9_asTold 2 = .ok (.putfield 142, 3) := by decide +kernel
theorem dX9_asTold_5 : decode cX9_asTold 5 = .ok (.aload_n 0, 1) := by decide +kernel
theorem dX9_asTold_6 : decode cX9_asTold 6 = .ok (.iconst 0, 1) := by decide +kernel
theorem dX9_asTold_7 : decode cX9_asTold 7 = .ok (.putfield 145, 3) := by decide +kernel
theorem dX9_asTold_10 : decode cX9_asTold 10 = .ok (.aload_n 0, 1) := by decide +kernel
theorem dX9_asTold_11 : decode cX9_asTold 11 = .ok (.aload_n 0, 1) := by decide +kernel
theorem dX9_asTold_12 : decode cX9_asTold 12 = .ok (.getfield 23, 3) := by decide +kernel
theorem dX9_asTold_15 : decode cX9_asTold 15 = .ok (.iconst 1, 1) := by decide +kernel
theorem dX9_asTold_16 : decode cX9_asTold 16 = .ok (.iaload, 1) := by decide +kernel
theorem dX9_asTold_17 : decode cX9_asTold 17 = .ok (.putfield 160, 3) := by decide +kernel
theorem dX9_asTold_20 : decode cX9_asTold 20 = .ok (.return_, 1) := by decide +kernel
def m_X9_asTold (N : Nat) (σ : Hp) (t0 : Nat) : Option (Hp) :=
  (rv N σ t0 9).bind fun _ =>
  (pV N σ t0 9 20 (.int (-1))).bind fun σ1 =>
  (pV N σ1 t0 9 19 (.int 0)).bind fun σ2 =>
  (gR N σ2 t0 9 10).bind fun x3 =>
  (aI 0 N σ2 x3 1).bind fun x4 =>
  (pV N σ2 t0 9 21 (.int x4)).bind fun σ5 =>
  some σ5
set_option maxHeartbeats 4000000 in
set_option maxRecDepth 100000 in
theorem ct_X9_asTold {l : Launch} {D : va_G} {cy : Nat → Nat} {N : Nat} {σ : Hp} {t0 : Nat} {r : Hp} (h : m_X9_asTold N σ t0 = some r) : Ct l D cy yX9_asTold cX9_asTold 1 none 0 [.ref t0] N σ (fun v s' => v = none ∧ s' = r) := by
  refine Ct.intro [some (.ref t0)] (by decide) rfl (Nat.le_of_ble_eq_true rfl) ?_
  intro κ ω e1 e2 e3 e4 C Z E
  subst e1; subst e2; subst e3; subst e4
  have C : Cx κ 1 0 cX9_asTold RX9 "asTold" := C
  have hE : ∀ x : Hp, r = x → ((none : Option Value) = none ∧ x = r) := fun x hx => by subst hx; exact ⟨rfl, rfl⟩
  unfold m_X9_asTold at h
  obtain ⟨_, _, h⟩ := ob h
  refine x_aload_n C (i := 0) dX9_asTold_0 rfl rfl ?_
  refine x_iconst C (v := (-1)) dX9_asTold_1 (by decide) ?_
  obtain ⟨σ1, eσ1, h⟩ := ob h
  refine x_put C pl_X9_142 dX9_asTold_2 (fun _ => ⟨rfl, rfl⟩) eσ1 ?_
  refine x_aload_n C (i := 0) dX9_asTold_5 rfl rfl ?_
  refine x_iconst C (v := 0) dX9_asTold_6 (by decide) ?_
  obtain ⟨σ2, eσ2, h⟩ := ob h
  refine x_put C pl_X9_145 dX9_asTold_7 (fun _ => ⟨rfl, rfl⟩) eσ2 ?_
  refine x_aload_n C (i := 0) dX9_asTold_10 rfl rfl ?_
  refine x_aload_n C (i := 0) dX9_asTold_11 rfl rfl ?_
  obtain ⟨x3, ex3, h⟩ := ob h
  refine x_getR C fl_X9_23 dX9_asTold_12 ex3 ?_
  refine x_iconst C (v := 1) dX9_asTold_15 (by decide) ?_
  obtain ⟨x4, ex4, h⟩ := ob h
  refine x_iald C dX9_asTold_16 ex4 ?_
  obtain ⟨σ5, eσ5, h⟩ := ob h
  refine x_put C pl_X9_160 dX9_asTold_17 (fun _ => ⟨rfl, rfl⟩) eσ5 ?_
  exact x_vret C E dX9_asTold_20 (hE σ5 (Option.some.inj h).symm)
theorem dX9_known_0 : decode cX9_known 0 = .ok (.aload_n 0, 1) := by decide +kernel
theorem dX9_known_1 : decode cX9_known 1 = .ok (.getfield 132, 3) := by decide +kernel
theorem dX9_known_4 : decode cX9_known 4 = .ok (.bipush 24, 2) := by decide +kernel
theorem dX9_known_6 : decode cX9_known 6 = .ok (.if_icmp .ne 40, 3) := by decide +kernel
theorem dX9_known_9 : decode cX9_known 9 = .ok (.bipush 16, 2) := by decide +kernel
theorem dX9_known_11 : decode cX9_known 11 = .ok (.istore_n 1, 1) := by decide +kernel
theorem dX9_known_12 : decode cX9_known 12 = .ok (.iload_n 1, 1) := by decide +kernel
theorem dX9_known_13 : decode cX9_known 13 = .ok (.sipush 384, 3) := by decide +kernel
theorem dX9_known_16 : decode cX9_known 16 = .ok (.if_icmp .ge 24, 3) := by decide +kernel
theorem dX9_known_19 : decode cX9_known 19 = .ok (.aload_n 0, 1) := by decide +kernel
theorem dX9_known_20 : decode cX9_known 20 = .ok (.getfield 23, 3) := by decide +kernel
theorem dX9_known_23 : decode cX9_known 23 = .ok (.iload_n 1, 1) := by decide +kernel
theorem dX9_known_24 : decode cX9_known 24 = .ok (.aload_n 0, 1) := by decide +kernel
theorem dX9_known_25 : decode cX9_known 25 = .ok (.getfield 23, 3) := by decide +kernel
theorem dX9_known_28 : decode cX9_known 28 = .ok (.iload_n 1, 1) := by decide +kernel
theorem dX9_known_29 : decode cX9_known 29 = .ok (.bipush 16, 2) := by decide +kernel
theorem dX9_known_31 : decode cX9_known 31 = .ok (.iadd, 1) := by decide +kernel
theorem dX9_known_32 : decode cX9_known 32 = .ok (.iaload, 1) := by decide +kernel
theorem dX9_known_33 : decode cX9_known 33 = .ok (.iastore, 1) := by decide +kernel
theorem dX9_known_34 : decode cX9_known 34 = .ok (.iinc 1 1, 3) := by decide +kernel
theorem dX9_known_37 : decode cX9_known 37 = .ok (.goto (-25), 3) := by decide +kernel
theorem dX9_known_40 : decode cX9_known 40 = .ok (.aload_n 0, 1) := by decide +kernel
theorem dX9_known_41 : decode cX9_known 41 = .ok (.bipush 23, 2) := by decide +kernel
theorem dX9_known_43 : decode cX9_known 43 = .ok (.putfield 132, 3) := by decide +kernel
theorem dX9_known_46 : decode cX9_known 46 = .ok (.aload_n 0, 1) := by decide +kernel
theorem dX9_known_47 : decode cX9_known 47 = .ok (.dup, 1) := by decide +kernel
theorem dX9_known_48 : decode cX9_known 48 = .ok (.getfield 132, 3) := by decide +kernel
theorem dX9_known_51 : decode cX9_known 51 = .ok (.iconst 1, 1) := by decide +kernel
theorem dX9_known_52 : decode cX9_known 52 = .ok (.iadd, 1) := by decide +kernel
theorem dX9_known_53 : decode cX9_known 53 = .ok (.putfield 132, 3) := by decide +kernel
theorem dX9_known_56 : decode cX9_known 56 = .ok (.aload_n 0, 1) := by decide +kernel
theorem dX9_known_57 : decode cX9_known 57 = .ok (.iconst 0, 1) := by decide +kernel
theorem dX9_known_58 : decode cX9_known 58 = .ok (.aload_n 0, 1) := by decide +kernel
theorem dX9_known_59 : decode cX9_known 59 = .ok (.getfield 132, 3) := by decide +kernel
theorem dX9_known_62 : decode cX9_known 62 = .ok (.bipush 16, 2) := by decide +kernel
theorem dX9_known_64 : decode cX9_known 64 = .ok (.imul, 1) := by decide +kernel
theorem dX9_known_65 : decode cX9_known 65 = .ok (.invokevirtual 129, 3) := by decide +kernel
theorem dX9_known_68 : decode cX9_known 68 = .ok (.return_, 1) := by decide +kernel
def L_X9_known_12 (N : Nat) (v0 : Nat) : Nat → Hp → Int32 → Option (Hp)
  | 0, _, _ => none
  | n + 1, σ, v1 =>
  if 384 ≤ v1 then
   some σ
  else
   (gR N σ v0 9 10).bind fun x11 =>
  (gR N σ v0 9 10).bind fun x12 =>
  (aI 0 N σ x12 (v1 + 16)).bind fun x13 =>
  (sI 0 N σ x11 v1 x13).bind fun σ14 =>
  L_X9_known_12 N v0 n σ14 (v1 + 1)
def m_X9_known (N : Nat) (σ : Hp) (t0 : Nat) : Option (Hp) :=
  (rv N σ t0 9).bind fun _ =>
  (gI N σ t0 9 11).bind fun x1 =>
  ((if x1 = 24 then
   (L_X9_known_12 N t0 fu σ 16).bind fun z15 =>
  (pV N z15 t0 9 11 (.int 23)).bind fun σ16 =>
  some σ16
  else
   some σ) : Option (Hp)).bind fun z2 =>
  (gI N z2 t0 9 11).bind fun x3 =>
  (pV N z2 t0 9 11 (.int (x3 + 1))).bind fun σ4 =>
  (gI N σ4 t0 9 11).bind fun x5 =>
  (m_X9_copies N σ4 t0 0 (x5 * 16)).bind fun r6 =>
  some r6
set_option maxHeartbeats 4000000 in
set_option maxRecDepth 100000 in
theorem lp_X9_known_12 {κ : Kx} {ω : Om} (C : Cx κ 2 1 cX9_known RX9 "known") (Z : Zx κ ω) (v0 : Nat) {r : Hp} (hk : X κ 2 ω 40 [some (.ref v0), none] [] r) : ∀ (n : Nat) (σ : Hp) (v1 : Int32), L_X9_known_12 ω.1 v0 n σ v1 = some r → X κ 2 ω 12 [some (.ref v0), some (.int v1)] [] σ := by
  intro n
  induction n with
  | zero => intro σ v1 h; cases h
  | succ n ih =>
    intro σ v1 h
    rw [L_X9_known_12.eq_2] at h
    refine x_iload_n C (i := 1) dX9_known_12 rfl rfl ?_
    refine x_sipush C (v := 384) dX9_known_13 (by decide) ?_
    refine x_icmp_ge C (tgt := 40) dX9_known_16 (by decide) (fun c10 => ?_) (fun c10 => ?_)
    · have h := ifP h c10
      refine x_wk [true, false] (lo' := [some (.ref v0), none]) rfl ?_
      obtain rfl := Option.some.inj h
      exact hk
    · have h := ifN h c10
      refine x_aload_n C (i := 0) dX9_known_19 rfl rfl ?_
      obtain ⟨x11, ex11, h⟩ := ob h
      refine x_getR C fl_X9_23 dX9_known_20 ex11 ?_
      refine x_iload_n C (i := 1) dX9_known_23 rfl rfl ?_
      refine x_aload_n C (i := 0) dX9_known_24 rfl rfl ?_
      obtain ⟨x12, ex12, h⟩ := ob h
      refine x_getR C fl_X9_23 dX9_known_25 ex12 ?_
      refine x_iload_n C (i := 1) dX9_known_28 rfl rfl ?_
      refine x_bipush C (v := 16) dX9_known_29 (by decide) ?_
      refine x_iadd C dX9_known_31 ?_
      obtain ⟨x13, ex13, h⟩ := ob h
      refine x_iald C dX9_known_32 ex13 ?_
      obtain ⟨σ14, eσ14, h⟩ := ob h
      refine x_iast C dX9_known_33 eσ14 ?_
      refine x_iinc C (i := 1) (y := v1 + 1) (lo' := [some (.ref v0), some (.int (v1 + 1))]) dX9_known_34 rfl rfl (by decide) rfl rfl ?_
      refine x_goto C (tgt := 12) dX9_known_37 (by decide) ?_
      refine x_wk [true, true] (lo' := [some (.ref v0), some (.int (v1 + 1))]) rfl ?_
      exact ih σ14 (v1 + 1) h
set_option maxHeartbeats 4000000 in
set_option maxRecDepth 100000 in
theorem ct_X9_known {l : Launch} {D : va_G} {cy : Nat → Nat} {N : Nat} {σ : Hp} {t0 : Nat} {r : Hp} (h : m_X9_known N σ t0 = some r) : Ct l D cy yX9_known cX9_known 2 none 1 [.ref t0] N σ (fun v s' => v = none ∧ s' = r) := by
  refine Ct.intro [some (.ref t0), none] (by decide) rfl (Nat.le_of_ble_eq_true rfl) ?_
  intro κ ω e1 e2 e3 e4 C Z E
  subst e1; subst e2; subst e3; subst e4
  have C : Cx κ 2 1 cX9_known RX9 "known" := C
  have hE : ∀ x : Hp, r = x → ((none : Option Value) = none ∧ x = r) := fun x hx => by subst hx; exact ⟨rfl, rfl⟩
  unfold m_X9_known at h
  obtain ⟨_, _, h⟩ := ob h
  refine x_aload_n C (i := 0) dX9_known_0 rfl rfl ?_
  obtain ⟨x1, ex1, h⟩ := ob h
  refine x_getI C fl_X9_132 dX9_known_1 ex1 ?_
  refine x_bipush C (v := 24) dX9_known_4 (by decide) ?_
  obtain ⟨z2, hz2, h⟩ := ob h
  have hJ7 : X κ 2 ω 46 [some (.ref t0), none] [] z2 := by
    refine x_aload_n C (i := 0) dX9_known_46 rfl rfl ?_
    refine x_dup C dX9_known_47 rfl ?_
    obtain ⟨x3, ex3, h⟩ := ob h
    refine x_getI C fl_X9_132 dX9_known_48 ex3 ?_
    refine x_iconst C (v := 1) dX9_known_51 (by decide) ?_
    refine x_iadd C dX9_known_52 ?_
    obtain ⟨σ4, eσ4, h⟩ := ob h
    refine x_put C pl_X9_132 dX9_known_53 (fun _ => ⟨rfl, rfl⟩) eσ4 ?_
    refine x_aload_n C (i := 0) dX9_known_56 rfl rfl ?_
    refine x_iconst C (v := 0) dX9_known_57 (by decide) ?_
    refine x_aload_n C (i := 0) dX9_known_58 rfl rfl ?_
    obtain ⟨x5, ex5, h⟩ := ob h
    refine x_getI C fl_X9_132 dX9_known_59 ex5 ?_
    refine x_bipush C (v := 16) dX9_known_62 (by decide) ?_
    refine x_imul C dX9_known_64 ?_
    obtain ⟨r6, er6, h⟩ := ob h
    refine x_callVn C Z mv_X9_copies lk_X9_129 (rv_h er6) (ct_X9_copies er6) (by decide) rfl rfl (Nat.le_of_ble_eq_true rfl) dX9_known_65 ?_
    exact x_vret C E dX9_known_68 (hE r6 (Option.some.inj h).symm)
  clear h
  have h := hz2
  refine x_icmp_ne C (tgt := 46) dX9_known_6 (by decide) (fun c9 => ?_) (fun c9 => ?_)
  · have h := ifN h c9
    refine x_wk [true, false] (lo' := [some (.ref t0), none]) rfl ?_
    obtain rfl := Option.some.inj h
    exact hJ7
  · have h := ifP h c9
    refine x_bipush C (v := 16) dX9_known_9 (by decide) ?_
    refine x_istore_n C (i := 1) (lo' := [some (.ref t0), some (.int 16)]) dX9_known_11 rfl (by decide) rfl rfl ?_
    obtain ⟨z15, ez15, h⟩ := ob h
    refine x_wk [true, true] (lo' := [some (.ref t0), some (.int 16)]) rfl ?_
    refine lp_X9_known_12 C Z t0 ?_ _ σ 16 ez15
    refine x_aload_n C (i := 0) dX9_known_40 rfl rfl ?_
    refine x_bipush C (v := 23) dX9_known_41 (by decide) ?_
    obtain ⟨σ16, eσ16, h⟩ := ob h
    refine x_put C pl_X9_132 dX9_known_43 (fun _ => ⟨rfl, rfl⟩) eσ16 ?_
    refine x_wk [true, false] (lo' := [some (.ref t0), none]) rfl ?_
    obtain rfl := Option.some.inj h
    exact hJ7
theorem dX9_move_0 : decode cX9_move 0 = .ok (.aload_n 0, 1) := by decide +kernel
theorem dX9_move_1 : decode cX9_move 1 = .ok (.iload_n 1, 1) := by decide +kernel
theorem dX9_move_2 : decode cX9_move 2 = .ok (.invokevirtual 163, 3) := by decide +kernel
theorem dX9_move_5 : decode cX9_move 5 = .ok (.ifCond .eq 16, 3) := by decide +kernel
theorem dX9_move_8 : decode cX9_move 8 = .ok (.aload_n 0, 1) := by decide +kernel
theorem dX9_move_9 : decode cX9_move 9 = .ok (.iload_n 2, 1) := by decide +kernel
theorem dX9_move_10 : decode cX9_move 10 = .ok (.invokevirtual 163, 3) := by decide +kernel
theorem dX9_move_13 : decode cX9_move 13 = .ok (.ifCond .eq 8, 3) := by decide +kernel
theorem dX9_move_16 : decode cX9_move 16 = .ok (.iload_n 1, 1) := by decide +kernel
theorem dX9_move_17 : decode cX9_move 17 = .ok (.iload_n 2, 1) := by decide +kernel
theorem dX9_move_18 : decode cX9_move 18 = .ok (.if_icmp .ne 6, 3) := by decide +kernel
theorem dX9_move_21 : decode cX9_move 21 = .ok (.ldc 66, 2) := by decide +kernel
theorem dX9_move_23 : decode cX9_move 23 = .ok (.ireturn, 1) := by decide +kernel
theorem dX9_move_24 : decode cX9_move 24 = .ok (.aload_n 0, 1) := by decide +kernel
theorem dX9_move_25 : decode cX9_move 25 = .ok (.invokevirtual 166, 3) := by decide +kernel
theorem dX9_move_28 : decode cX9_move 28 = .ok (.aload_n 0, 1) := by decide +kernel
theorem dX9_move_29 : decode cX9_move 29 = .ok (.aload_n 0, 1) := by decide +kernel
theorem dX9_move_30 : decode cX9_move 30 = .ok (.invokevirtual 169, 3) := by decide +kernel
theorem dX9_move_33 : decode cX9_move 33 = .ok (.iload_n 1, 1) := by decide +kernel
theorem dX9_move_34 : decode cX9_move 34 = .ok (.iload_n 2, 1) := by decide +kernel
theorem dX9_move_35 : decode cX9_move 35 = .ok (.invokevirtual 173, 3) := by decide +kernel
theorem dX9_move_38 : decode cX9_move 38 = .ok (.istore_n 3, 1) := by decide +kernel
theorem dX9_move_39 : decode cX9_move 39 = .ok (.iload_n 3, 1) := by decide +kernel
theorem dX9_move_40 : decode cX9_move 40 = .ok (.bipush 6, 2) := by decide +kernel
theorem dX9_move_42 : decode cX9_move 42 = .ok (.if_icmp .ne 6, 3) := by decide +kernel
theorem dX9_move_45 : decode cX9_move 45 = .ok (.ldc 176, 2) := by decide +kernel
theorem dX9_move_47 : decode cX9_move 47 = .ok (.ireturn, 1) := by decide +kernel
theorem dX9_move_48 : decode cX9_move 48 = .ok (.aload_n 0, 1) := by decide +kernel
theorem dX9_move_49 : decode cX9_move 49 = .ok (.getfield 23, 3) := by decide +kernel
theorem dX9_move_52 : decode cX9_move 52 = .ok (.iconst 3, 1) := by decide +kernel
theorem dX9_move_53 : decode cX9_move 53 = .ok (.iaload, 1) := by decide +kernel
theorem dX9_move_54 : decode cX9_move 54 = .ok (.sipush 9999, 3) := by decide +kernel
theorem dX9_move_57 : decode cX9_move 57 = .ok (.if_icmp .ne 6, 3) := by decide +kernel
theorem dX9_move_60 : decode cX9_move 60 = .ok (.ldc 87, 2) := by decide +kernel
theorem dX9_move_62 : decode cX9_move 62 = .ok (.ireturn, 1) := by decide +kernel
theorem dX9_move_63 : decode cX9_move 63 = .ok (.aload_n 0, 1) := by decide +kernel
theorem dX9_move_64 : decode cX9_move 64 = .ok (.invokevirtual 177, 3) := by decide +kernel
theorem dX9_move_67 : decode cX9_move 67 = .ok (.aload_n 0, 1) := by decide +kernel
theorem dX9_move_68 : decode cX9_move 68 = .ok (.getfield 23, 3) := by decide +kernel
theorem dX9_move_71 : decode cX9_move 71 = .ok (.bipush 10, 2) := by decide +kernel
theorem dX9_move_73 : decode cX9_move 73 = .ok (.iload_n 3, 1) := by decide +kernel
theorem dX9_move_74 : decode cX9_move 74 = .ok (.iadd, 1) := by decide +kernel
theorem dX9_move_75 : decode cX9_move 75 = .ok (.iload_n 2, 1) := by decide +kernel
theorem dX9_move_76 : decode cX9_move 76 = .ok (.iastore, 1) := by decide +kernel
theorem dX9_move_77 : decode cX9_move 77 = .ok (.aload_n 0, 1) := by decide +kernel
theorem dX9_move_78 : decode cX9_move 78 = .ok (.getfield 23, 3) := by decide +kernel
theorem dX9_move_81 : decode cX9_move 81 = .ok (.iconst 3, 1) := by decide +kernel
theorem dX9_move_82 : decode cX9_move 82 = .ok (.dup2, 1) := by decide +kernel
theorem dX9_move_83 : decode cX9_move 83 = .ok (.iaload, 1) := by decide +kernel
theorem dX9_move_84 : decode cX9_move 84 = .ok (.iconst 1, 1) := by decide +kernel
theorem dX9_move_85 : decode cX9_move 85 = .ok (.iadd, 1) := by decide +kernel
theorem dX9_move_86 : decode cX9_move 86 = .ok (.iastore, 1) := by decide +kernel
theorem dX9_move_87 : decode cX9_move 87 = .ok (.iload_n 3, 1) := by decide +kernel
theorem dX9_move_88 : decode cX9_move 88 = .ok (.ireturn, 1) := by decide +kernel
def m_X9_move (N : Nat) (σ : Hp) (t0 : Nat) (p1 : Int32) (p2 : Int32) : Option (Int32 × Hp) :=
  (rv N σ t0 9).bind fun _ =>
  (m_X9_isPeg N σ t0 p1).bind fun r1 =>
  if r1 = 0 then
   some ((-1000001), σ)
  else
   (m_X9_isPeg N σ t0 p2).bind fun r3 =>
  if r3 = 0 then
   some ((-1000001), σ)
  else
   if p1 = p2 then
   some ((-1000001), σ)
  else
   (m_X9_asTold N σ t0).bind fun r6 =>
  (m_X9_state N r6 t0).bind fun r7 =>
  (m_X9_mover N r6 t0 r7 p1 p2).bind fun r8 =>
  if r8 = 6 then
   some ((-1000002), r6)
  else
   (gR N r6 t0 9 10).bind fun x10 =>
  (aI 0 N r6 x10 3).bind fun x11 =>
  if x11 = 9999 then
   some ((-1000003), r6)
  else
   (m_X9_known N r6 t0).bind fun r13 =>
  (gR N r13 t0 9 10).bind fun x14 =>
  (sI 0 N r13 x14 ((10 : Int32) + r8) p2).bind fun σ15 =>
  (gR N σ15 t0 9 10).bind fun x16 =>
  (aI 0 N σ15 x16 3).bind fun x17 =>
  (sI 0 N σ15 x16 3 (x17 + 1)).bind fun σ18 =>
  some (r8, σ18)
set_option maxHeartbeats 4000000 in
set_option maxRecDepth 100000 in
theorem ct_X9_move {l : Launch} {D : va_G} {cy : Nat → Nat} {N : Nat} {σ : Hp} {t0 : Nat} {p1 : Int32} {p2 : Int32} {r : Int32 × Hp} (h : m_X9_move N σ t0 p1 p2 = some r) : Ct l D cy yX9_move cX9_move 4 (some .int) 3 [.ref t0, .int p1, .int p2] N σ (fun v s' => v = (some (.int r.1)) ∧ s' = r.2) := by
  refine Ct.intro [some (.ref t0), some (.int p1), some (.int p2), none] (by decide) rfl (Nat.le_of_ble_eq_true rfl) ?_
  intro κ ω e1 e2 e3 e4 C Z E
  subst e1; subst e2; subst e3; subst e4
  have C : Cx κ 4 3 cX9_move RX9 "move" := C
  have hE : ∀ x : Int32 × Hp, r = x → ((some (Value.int x.1)) = (some (Value.int r.1)) ∧ x.2 = r.2) := fun x hx => by subst hx; exact ⟨rfl, rfl⟩
  unfold m_X9_move at h
  obtain ⟨_, _, h⟩ := ob h
  refine x_aload_n C (i := 0) dX9_move_0 rfl rfl ?_
  refine x_iload_n C (i := 1) dX9_move_1 rfl rfl ?_
  obtain ⟨r1, er1, h⟩ := ob h
  refine x_callVr C Z mv_X9_isPeg lk_X9_163 (rv_h er1) (ct_X9_isPeg er1) (by decide) rfl rfl (Nat.le_of_ble_eq_true rfl) dX9_move_2 ?_
  refine x_if_eq C (tgt := 21) dX9_move_5 (by decide) (fun c2 => ?_) (fun c2 => ?_)
  · have h := ifP h c2
    refine x_ldc C kc_X9_66 dX9_move_21 ?_
    exact x_iret C E dX9_move_23 (hE ((-1000001), σ) (Option.some.inj h).symm)
  · have h := ifN h c2
    refine x_aload_n C (i := 0) dX9_move_8 rfl rfl ?_
    refine x_iload_n C (i := 2) dX9_move_9 rfl rfl ?_
    obtain ⟨r3, er3, h⟩ := ob h
    refine x_callVr C Z mv_X9_isPeg lk_X9_163 (rv_h er3) (ct_X9_isPeg er3) (by decide) rfl rfl (Nat.le_of_ble_eq_true rfl) dX9_move_10 ?_
    refine x_if_eq C (tgt := 21) dX9_move_13 (by decide) (fun c4 => ?_) (fun c4 => ?_)
    · have h := ifP h c4
      refine x_ldc C kc_X9_66 dX9_move_21 ?_
      exact x_iret C E dX9_move_23 (hE ((-1000001), σ) (Option.some.inj h).symm)
    · have h := ifN h c4
      refine x_iload_n C (i := 1) dX9_move_16 rfl rfl ?_
      refine x_iload_n C (i := 2) dX9_move_17 rfl rfl ?_
      refine x_icmp_ne C (tgt := 24) dX9_move_18 (by decide) (fun c5 => ?_) (fun c5 => ?_)
      · have h := ifN h c5
        refine x_aload_n C (i := 0) dX9_move_24 rfl rfl ?_
        obtain ⟨r6, er6, h⟩ := ob h
        refine x_callVn C Z mv_X9_asTold lk_X9_166 (rv_h er6) (ct_X9_asTold er6) (by decide) rfl rfl (Nat.le_of_ble_eq_true rfl) dX9_move_25 ?_
        refine x_aload_n C (i := 0) dX9_move_28 rfl rfl ?_
        refine x_aload_n C (i := 0) dX9_move_29 rfl rfl ?_
        obtain ⟨r7, er7, h⟩ := ob h
        refine x_callVr C Z mv_X9_state lk_X9_169 (rv_h er7) (ct_X9_state er7) (by decide) rfl rfl (Nat.le_of_ble_eq_true rfl) dX9_move_30 ?_
        refine x_iload_n C (i := 1) dX9_move_33 rfl rfl ?_
        refine x_iload_n C (i := 2) dX9_move_34 rfl rfl ?_
        obtain ⟨r8, er8, h⟩ := ob h
        refine x_callVr C Z mv_X9_mover lk_X9_173 (rv_h er8) (ct_X9_mover er8) (by decide) rfl rfl (Nat.le_of_ble_eq_true rfl) dX9_move_35 ?_
        refine x_istore_n C (i := 3) (lo' := [some (.ref t0), some (.int p1), some (.int p2), some (.int r8)]) dX9_move_38 rfl (by decide) rfl rfl ?_
        refine x_iload_n C (i := 3) dX9_move_39 rfl rfl ?_
        refine x_bipush C (v := 6) dX9_move_40 (by decide) ?_
        refine x_icmp_ne C (tgt := 48) dX9_move_42 (by decide) (fun c9 => ?_) (fun c9 => ?_)
        · have h := ifN h c9
          refine x_aload_n C (i := 0) dX9_move_48 rfl rfl ?_
          obtain ⟨x10, ex10, h⟩ := ob h
          refine x_getR C fl_X9_23 dX9_move_49 ex10 ?_
          refine x_iconst C (v := 3) dX9_move_52 (by decide) ?_
          obtain ⟨x11, ex11, h⟩ := ob h
          refine x_iald C dX9_move_53 ex11 ?_
          refine x_sipush C (v := 9999) dX9_move_54 (by decide) ?_
          refine x_icmp_ne C (tgt := 63) dX9_move_57 (by decide) (fun c12 => ?_) (fun c12 => ?_)
          · have h := ifN h c12
            refine x_aload_n C (i := 0) dX9_move_63 rfl rfl ?_
            obtain ⟨r13, er13, h⟩ := ob h
            refine x_callVn C Z mv_X9_known lk_X9_177 (rv_h er13) (ct_X9_known er13) (by decide) rfl rfl (Nat.le_of_ble_eq_true rfl) dX9_move_64 ?_
            refine x_aload_n C (i := 0) dX9_move_67 rfl rfl ?_
            obtain ⟨x14, ex14, h⟩ := ob h
            refine x_getR C fl_X9_23 dX9_move_68 ex14 ?_
            refine x_bipush C (v := 10) dX9_move_71 (by decide) ?_
            refine x_iload_n C (i := 3) dX9_move_73 rfl rfl ?_
            refine x_iadd C dX9_move_74 ?_
            refine x_iload_n C (i := 2) dX9_move_75 rfl rfl ?_
            obtain ⟨σ15, eσ15, h⟩ := ob h
            refine x_iast C dX9_move_76 eσ15 ?_
            refine x_aload_n C (i := 0) dX9_move_77 rfl rfl ?_
            obtain ⟨x16, ex16, h⟩ := ob h
            refine x_getR C fl_X9_23 dX9_move_78 ex16 ?_
            refine x_iconst C (v := 3) dX9_move_81 (by decide) ?_
            refine x_dup2 C dX9_move_82 rfl rfl ?_
            obtain ⟨x17, ex17, h⟩ := ob h
            refine x_iald C dX9_move_83 ex17 ?_
            refine x_iconst C (v := 1) dX9_move_84 (by decide) ?_
            refine x_iadd C dX9_move_85 ?_
            obtain ⟨σ18, eσ18, h⟩ := ob h
            refine x_iast C dX9_move_86 eσ18 ?_
            refine x_iload_n C (i := 3) dX9_move_87 rfl rfl ?_
            exact x_iret C E dX9_move_88 (hE (r8, σ18) (Option.some.inj h).symm)
          · have h := ifP h c12
            refine x_ldc C kc_X9_87 dX9_move_60 ?_
            exact x_iret C E dX9_move_62 (hE ((-1000003), r6) (Option.some.inj h).symm)
        · have h := ifP h c9
          refine x_ldc C kc_X9_176 dX9_move_45 ?_
          exact x_iret C E dX9_move_47 (hE ((-1000002), r6) (Option.some.inj h).symm)
      · have h := ifP h c5
        refine x_ldc C kc_X9_66 dX9_move_21 ?_
        exact x_iret C E dX9_move_23 (hE ((-1000001), σ) (Option.some.inj h).symm)
theorem dX9_put_0 : decode cX9_put 0 = .ok (.aload_n 0, 1) := by decide +kernel
theorem dX9_put_1 : decode cX9_put 1 = .ok (.iload_n 1, 1) := by decide +kernel
theorem dX9_put_2 : decode cX9_put 2 = .ok (.invokevirtual 180, 3) := by decide +kernel
theorem dX9_put_5 : decode cX9_put 5 = .ok (.ifCond .eq 11, 3) := by decide +kernel
theorem dX9_put_8 : decode cX9_put 8 = .ok (.aload_n 0, 1) := by decide +kernel
theorem dX9_put_9 : decode cX9_put 9 = .ok (.iload_n 2, 1) := by decide +kernel
theorem dX9_put_10 : decode cX9_put 10 = .ok (.invokevirtual 163, 3) := by decide +kernel
theorem dX9_put_13 : decode cX9_put 13 = .ok (.ifCond .ne 6, 3) := by decide +kernel
theorem dX9_put_16 : decode cX9_put 16 = .ok (.ldc 66, 2) := by decide +kernel
theorem dX9_put_18 : decode cX9_put 18 = .ok (.ireturn, 1) := by decide +kernel
theorem dX9_put_19 : decode cX9_put 19 = .ok (.aload_n 0, 1) := by decide +kernel
theorem dX9_put_20 : decode cX9_put 20 = .ok (.getfield 23, 3) := by decide +kernel
theorem dX9_put_23 : decode cX9_put 23 = .ok (.bipush 10, 2) := by decide +kernel
theorem dX9_put_25 : decode cX9_put 25 = .ok (.iload_n 1, 1) := by decide +kernel
theorem dX9_put_26 : decode cX9_put 26 = .ok (.iadd, 1) := by decide +kernel
theorem dX9_put_27 : decode cX9_put 27 = .ok (.iaload, 1) := by decide +kernel
theorem dX9_put_28 : decode cX9_put 28 = .ok (.iload_n 2, 1) := by decide +kernel
theorem dX9_put_29 : decode cX9_put 29 = .ok (.if_icmp .ne 6, 3) := by decide +kernel
theorem dX9_put_32 : decode cX9_put 32 = .ok (.ldc 176, 2) := by decide +kernel
theorem dX9_put_34 : decode cX9_put 34 = .ok (.ireturn, 1) := by decide +kernel
theorem dX9_put_35 : decode cX9_put 35 = .ok (.aload_n 0, 1) := by decide +kernel
theorem dX9_put_36 : decode cX9_put 36 = .ok (.invokevirtual 177, 3) := by decide +kernel
theorem dX9_put_39 : decode cX9_put 39 = .ok (.aload_n 0, 1) := by decide +kernel
theorem dX9_put_40 : decode cX9_put 40 = .ok (.getfield 23, 3) := by decide +kernel
theorem dX9_put_43 : decode cX9_put 43 = .ok (.bipush 10, 2) := by decide +kernel
theorem dX9_put_45 : decode cX9_put 45 = .ok (.iload_n 1, 1) := by decide +kernel
theorem dX9_put_46 : decode cX9_put 46 = .ok (.iadd, 1) := by decide +kernel
theorem dX9_put_47 : decode cX9_put 47 = .ok (.iaload, 1) := by decide +kernel
theorem dX9_put_48 : decode cX9_put 48 = .ok (.istore_n 3, 1) := by decide +kernel
theorem dX9_put_49 : decode cX9_put 49 = .ok (.aload_n 0, 1) := by decide +kernel
theorem dX9_put_50 : decode cX9_put 50 = .ok (.getfield 23, 3) := by decide +kernel
theorem dX9_put_53 : decode cX9_put 53 = .ok (.bipush 10, 2) := by decide +kernel
theorem dX9_put_55 : decode cX9_put 55 = .ok (.iload_n 1, 1) := by decide +kernel
theorem dX9_put_56 : decode cX9_put 56 = .ok (.iadd, 1) := by decide +kernel
theorem dX9_put_57 : decode cX9_put 57 = .ok (.iload_n 2, 1) := by decide +kernel
theorem dX9_put_58 : decode cX9_put 58 = .ok (.iastore, 1) := by decide +kernel
theorem dX9_put_59 : decode cX9_put 59 = .ok (.iload_n 3, 1) := by decide +kernel
theorem dX9_put_60 : decode cX9_put 60 = .ok (.ireturn, 1) := by decide +kernel
def m_X9_put (N : Nat) (σ : Hp) (t0 : Nat) (p1 : Int32) (p2 : Int32) : Option (Int32 × Hp) :=
  (rv N σ t0 9).bind fun _ =>
  (m_X9_isDisc N σ t0 p1).bind fun r1 =>
  if r1 = 0 then
   some ((-1000001), σ)
  else
   (m_X9_isPeg N σ t0 p2).bind fun r3 =>
  if r3 = 0 then
   some ((-1000001), σ)
  else
   (gR N σ t0 9 10).bind fun x5 =>
  (aI 0 N σ x5 ((10 : Int32) + p1)).bind fun x6 =>
  if x6 = p2 then
   some ((-1000002), σ)
  else
   (m_X9_known N σ t0).bind fun r8 =>
  (gR N r8 t0 9 10).bind fun x9 =>
  (aI 0 N r8 x9 ((10 : Int32) + p1)).bind fun x10 =>
  (gR N r8 t0 9 10).bind fun x11 =>
  (sI 0 N r8 x11 ((10 : Int32) + p1) p2).bind fun σ12 =>
  some (x10, σ12)
set_option maxHeartbeats 4000000 in
set_option maxRecDepth 100000 in
theorem ct_X9_put {l : Launch} {D : va_G} {cy : Nat → Nat} {N : Nat} {σ : Hp} {t0 : Nat} {p1 : Int32} {p2 : Int32} {r : Int32 × Hp} (h : m_X9_put N σ t0 p1 p2 = some r) : Ct l D cy yX9_put cX9_put 4 (some .int) 2 [.ref t0, .int p1, .int p2] N σ (fun v s' => v = (some (.int r.1)) ∧ s' = r.2) := by
  refine Ct.intro [some (.ref t0), some (.int p1), some (.int p2), none] (by decide) rfl (Nat.le_of_ble_eq_true rfl) ?_
  intro κ ω e1 e2 e3 e4 C Z E
  subst e1; subst e2; subst e3; subst e4
  have C : Cx κ 4 2 cX9_put RX9 "put" := C
  have hE : ∀ x : Int32 × Hp, r = x → ((some (Value.int x.1)) = (some (Value.int r.1)) ∧ x.2 = r.2) := fun x hx => by subst hx; exact ⟨rfl, rfl⟩
  unfold m_X9_put at h
  obtain ⟨_, _, h⟩ := ob h
  refine x_aload_n C (i := 0) dX9_put_0 rfl rfl ?_
  refine x_iload_n C (i := 1) dX9_put_1 rfl rfl ?_
  obtain ⟨r1, er1, h⟩ := ob h
  refine x_callVr C Z mv_X9_isDisc lk_X9_180 (rv_h er1) (ct_X9_isDisc er1) (by decide) rfl rfl (Nat.le_of_ble_eq_true rfl) dX9_put_2 ?_
  refine x_if_eq C (tgt := 16) dX9_put_5 (by decide) (fun c2 => ?_) (fun c2 => ?_)
  · have h := ifP h c2
    refine x_ldc C kc_X9_66 dX9_put_16 ?_
    exact x_iret C E dX9_put_18 (hE ((-1000001), σ) (Option.some.inj h).symm)
  · have h := ifN h c2
    refine x_aload_n C (i := 0) dX9_put_8 rfl rfl ?_
    refine x_iload_n C (i := 2) dX9_put_9 rfl rfl ?_
    obtain ⟨r3, er3, h⟩ := ob h
    refine x_callVr C Z mv_X9_isPeg lk_X9_163 (rv_h er3) (ct_X9_isPeg er3) (by decide) rfl rfl (Nat.le_of_ble_eq_true rfl) dX9_put_10 ?_
    refine x_if_ne C (tgt := 19) dX9_put_13 (by decide) (fun c4 => ?_) (fun c4 => ?_)
    · have h := ifN h c4
      refine x_aload_n C (i := 0) dX9_put_19 rfl rfl ?_
      obtain ⟨x5, ex5, h⟩ := ob h
      refine x_getR C fl_X9_23 dX9_put_20 ex5 ?_
      refine x_bipush C (v := 10) dX9_put_23 (by decide) ?_
      refine x_iload_n C (i := 1) dX9_put_25 rfl rfl ?_
      refine x_iadd C dX9_put_26 ?_
      obtain ⟨x6, ex6, h⟩ := ob h
      refine x_iald C dX9_put_27 ex6 ?_
      refine x_iload_n C (i := 2) dX9_put_28 rfl rfl ?_
      refine x_icmp_ne C (tgt := 35) dX9_put_29 (by decide) (fun c7 => ?_) (fun c7 => ?_)
      · have h := ifN h c7
        refine x_aload_n C (i := 0) dX9_put_35 rfl rfl ?_
        obtain ⟨r8, er8, h⟩ := ob h
        refine x_callVn C Z mv_X9_known lk_X9_177 (rv_h er8) (ct_X9_known er8) (by decide) rfl rfl (Nat.le_of_ble_eq_true rfl) dX9_put_36 ?_
        refine x_aload_n C (i := 0) dX9_put_39 rfl rfl ?_
        obtain ⟨x9, ex9, h⟩ := ob h
        refine x_getR C fl_X9_23 dX9_put_40 ex9 ?_
        refine x_bipush C (v := 10) dX9_put_43 (by decide) ?_
        refine x_iload_n C (i := 1) dX9_put_45 rfl rfl ?_
        refine x_iadd C dX9_put_46 ?_
        obtain ⟨x10, ex10, h⟩ := ob h
        refine x_iald C dX9_put_47 ex10 ?_
        refine x_istore_n C (i := 3) (lo' := [some (.ref t0), some (.int p1), some (.int p2), some (.int x10)]) dX9_put_48 rfl (by decide) rfl rfl ?_
        refine x_aload_n C (i := 0) dX9_put_49 rfl rfl ?_
        obtain ⟨x11, ex11, h⟩ := ob h
        refine x_getR C fl_X9_23 dX9_put_50 ex11 ?_
        refine x_bipush C (v := 10) dX9_put_53 (by decide) ?_
        refine x_iload_n C (i := 1) dX9_put_55 rfl rfl ?_
        refine x_iadd C dX9_put_56 ?_
        refine x_iload_n C (i := 2) dX9_put_57 rfl rfl ?_
        obtain ⟨σ12, eσ12, h⟩ := ob h
        refine x_iast C dX9_put_58 eσ12 ?_
        refine x_iload_n C (i := 3) dX9_put_59 rfl rfl ?_
        exact x_iret C E dX9_put_60 (hE (x10, σ12) (Option.some.inj h).symm)
      · have h := ifP h c7
        refine x_ldc C kc_X9_176 dX9_put_32 ?_
        exact x_iret C E dX9_put_34 (hE ((-1000002), σ) (Option.some.inj h).symm)
    · have h := ifP h c4
      refine x_ldc C kc_X9_66 dX9_put_16 ?_
      exact x_iret C E dX9_put_18 (hE ((-1000001), σ) (Option.some.inj h).symm)
theorem dX9_high_0 : decode cX9_high 0 = .ok (.aload_n 0, 1) := by decide +kernel
theorem dX9_high_1 : decode cX9_high 1 = .ok (.invokevirtual 183, 3) := by decide +kernel
theorem dX9_high_4 : decode cX9_high 4 = .ok (.ifCond .ne 6, 3) := by decide +kernel
theorem dX9_high_7 : decode cX9_high 7 = .ok (.ldc 176, 2) := by decide +kernel
theorem dX9_high_9 : decode cX9_high 9 = .ok (.ireturn, 1) := by decide +kernel
theorem dX9_high_10 : decode cX9_high 10 = .ok (.iload_n 1, 1) := by decide +kernel
theorem dX9_high_11 : decode cX9_high 11 = .ok (.i2l, 1) := by decide +kernel
theorem dX9_high_12 : decode cX9_high 12 = .ok (.lconst 1, 1) := by decide +kernel
theorem dX9_high_13 : decode cX9_high 13 = .ok (.ldc2_w 187, 3) := by decide +kernel
theorem dX9_high_16 : decode cX9_high 16 = .ok (.invokestatic 56, 3) := by decide +kernel
theorem dX9_high_19 : decode cX9_high 19 = .ok (.ifCond .ne 6, 3) := by decide +kernel
theorem dX9_high_22 : decode cX9_high 22 = .ok (.ldc 66, 2) := by decide +kernel
theorem dX9_high_24 : decode cX9_high 24 = .ok (.ireturn, 1) := by decide +kernel
theorem dX9_high_25 : decode cX9_high 25 = .ok (.aload_n 0, 1) := by decide +kernel
theorem dX9_high_26 : decode cX9_high 26 = .ok (.invokevirtual 177, 3) := by decide +kernel
theorem dX9_high_29 : decode cX9_high 29 = .ok (.aload_n 0, 1) := by decide +kernel
theorem dX9_high_30 : decode cX9_high 30 = .ok (.getfield 23, 3) := by decide +kernel
theorem dX9_high_33 : decode cX9_high 33 = .ok (.iconst 1, 1) := by decide +kernel
theorem dX9_high_34 : decode cX9_high 34 = .ok (.iaload, 1) := by decide +kernel
theorem dX9_high_35 : decode cX9_high 35 = .ok (.istore_n 2, 1) := by decide +kernel
theorem dX9_high_36 : decode cX9_high 36 = .ok (.aload_n 0, 1) := by decide +kernel
theorem dX9_high_37 : decode cX9_high 37 = .ok (.getfield 23, 3) := by decide +kernel
theorem dX9_high_40 : decode cX9_high 40 = .ok (.iconst 1, 1) := by decide +kernel
theorem dX9_high_41 : decode cX9_high 41 = .ok (.iload_n 1, 1) := by decide +kernel
theorem dX9_high_42 : decode cX9_high 42 = .ok (.iastore, 1) := by decide +kernel
theorem dX9_high_43 : decode cX9_high 43 = .ok (.iload_n 2, 1) := by decide +kernel
theorem dX9_high_44 : decode cX9_high 44 = .ok (.ireturn, 1) := by decide +kernel
def m_X9_high (N : Nat) (σ : Hp) (t0 : Nat) (p1 : Int32) : Option (Int32 × Hp) :=
  (rv N σ t0 9).bind fun _ =>
  (m_X9_isBoard N σ t0).bind fun r1 =>
  if r1 = 0 then
   some ((-1000002), σ)
  else
   (m_X9_in p1.toInt64 1 6).bind fun r3 =>
  if r3 = 0 then
   some ((-1000001), σ)
  else
   (m_X9_known N σ t0).bind fun r5 =>
  (gR N r5 t0 9 10).bind fun x6 =>
  (aI 0 N r5 x6 1).bind fun x7 =>
  (gR N r5 t0 9 10).bind fun x8 =>
  (sI 0 N r5 x8 1 p1).bind fun σ9 =>
  some (x7, σ9)
set_option maxHeartbeats 4000000 in
set_option maxRecDepth 100000 in
theorem ct_X9_high {l : Launch} {D : va_G} {cy : Nat → Nat} {N : Nat} {σ : Hp} {t0 : Nat} {p1 : Int32} {r : Int32 × Hp} (h : m_X9_high N σ t0 p1 = some r) : Ct l D cy yX9_high cX9_high 3 (some .int) 2 [.ref t0, .int p1] N σ (fun v s' => v = (some (.int r.1)) ∧ s' = r.2) := by
  refine Ct.intro [some (.ref t0), some (.int p1), none] (by decide) rfl (Nat.le_of_ble_eq_true rfl) ?_
  intro κ ω e1 e2 e3 e4 C Z E
  subst e1; subst e2; subst e3; subst e4
  have C : Cx κ 3 2 cX9_high RX9 "high" := C
  have hE : ∀ x : Int32 × Hp, r = x → ((some (Value.int x.1)) = (some (Value.int r.1)) ∧ x.2 = r.2) := fun x hx => by subst hx; exact ⟨rfl, rfl⟩
  unfold m_X9_high at h
  obtain ⟨_, _, h⟩ := ob h
  refine x_aload_n C (i := 0) dX9_high_0 rfl rfl ?_
  obtain ⟨r1, er1, h⟩ := ob h
  refine x_callVr C Z mv_X9_isBoard lk_X9_183 (rv_h er1) (ct_X9_isBoard er1) (by decide) rfl rfl (Nat.le_of_ble_eq_true rfl) dX9_high_1 ?_
  refine x_if_ne C (tgt := 10) dX9_high_4 (by decide) (fun c2 => ?_) (fun c2 => ?_)
  · have h := ifN h c2
    refine x_iload_n C (i := 1) dX9_high_10 rfl rfl ?_
    refine x_i2l C dX9_high_11 ?_
    refine x_lconst C (v := 1) dX9_high_12 (by decide) ?_
    refine x_ldc2 C kj_X9_187 dX9_high_13 ?_
    obtain ⟨r3, er3, h⟩ := ob h
    refine x_callSr C Z ms_X9_in lk_X9_56 (ct_X9_in (N := ω.1) (σ := σ) er3) (by decide) rfl rfl (Nat.le_of_ble_eq_true rfl) dX9_high_16 ?_
    refine x_if_ne C (tgt := 25) dX9_high_19 (by decide) (fun c4 => ?_) (fun c4 => ?_)
    · have h := ifN h c4
      refine x_aload_n C (i := 0) dX9_high_25 rfl rfl ?_
      obtain ⟨r5, er5, h⟩ := ob h
      refine x_callVn C Z mv_X9_known lk_X9_177 (rv_h er5) (ct_X9_known er5) (by decide) rfl rfl (Nat.le_of_ble_eq_true rfl) dX9_high_26 ?_
      refine x_aload_n C (i := 0) dX9_high_29 rfl rfl ?_
      obtain ⟨x6, ex6, h⟩ := ob h
      refine x_getR C fl_X9_23 dX9_high_30 ex6 ?_
      refine x_iconst C (v := 1) dX9_high_33 (by decide) ?_
      obtain ⟨x7, ex7, h⟩ := ob h
      refine x_iald C dX9_high_34 ex7 ?_
      refine x_istore_n C (i := 2) (lo' := [some (.ref t0), some (.int p1), some (.int x7)]) dX9_high_35 rfl (by decide) rfl rfl ?_
      refine x_aload_n C (i := 0) dX9_high_36 rfl rfl ?_
      obtain ⟨x8, ex8, h⟩ := ob h
      refine x_getR C fl_X9_23 dX9_high_37 ex8 ?_
      refine x_iconst C (v := 1) dX9_high_40 (by decide) ?_
      refine x_iload_n C (i := 1) dX9_high_41 rfl rfl ?_
      obtain ⟨σ9, eσ9, h⟩ := ob h
      refine x_iast C dX9_high_42 eσ9 ?_
      refine x_iload_n C (i := 2) dX9_high_43 rfl rfl ?_
      exact x_iret C E dX9_high_44 (hE (x7, σ9) (Option.some.inj h).symm)
    · have h := ifP h c4
      refine x_ldc C kc_X9_66 dX9_high_22 ?_
      exact x_iret C E dX9_high_24 (hE ((-1000001), σ) (Option.some.inj h).symm)
  · have h := ifP h c2
    refine x_ldc C kc_X9_176 dX9_high_7 ?_
    exact x_iret C E dX9_high_9 (hE ((-1000002), σ) (Option.some.inj h).symm)
theorem dX9_undo_0 : decode cX9_undo 0 = .ok (.aload_n 0, 1) := by decide +kernel
theorem dX9_undo_1 : decode cX9_undo 1 = .ok (.getfield 132, 3) := by decide +kernel
theorem dX9_undo_4 : decode cX9_undo 4 = .ok (.ifCond .ne 6, 3) := by decide +kernel
theorem dX9_undo_7 : decode cX9_undo 7 = .ok (.ldc 176, 2) := by decide +kernel
theorem dX9_undo_9 : decode cX9_undo 9 = .ok (.ireturn, 1) := by decide +kernel
theorem dX9_undo_10 : decode cX9_undo 10 = .ok (.aload_n 0, 1) := by decide +kernel
theorem dX9_undo_11 : decode cX9_undo 11 = .ok (.aload_n 0, 1) := by decide +kernel
theorem dX9_undo_12 : decode cX9_undo 12 = .ok (.getfield 132, 3) := by decide +kernel
theorem dX9_undo_15 : decode cX9_undo 15 = .ok (.bipush 16, 2) := by decide +kernel
theorem dX9_undo_17 : decode cX9_undo 17 = .ok (.imul, 1) := by decide +kernel
theorem dX9_undo_18 : decode cX9_undo 18 = .ok (.iconst 0, 1) := by decide +kernel
theorem dX9_undo_19 : decode cX9_undo 19 = .ok (.invokevirtual 129, 3) := by decide +kernel
theorem dX9_undo_22 : decode cX9_undo 22 = .ok (.aload_n 0, 1) := by decide +kernel
theorem dX9_undo_23 : decode cX9_undo 23 = .ok (.dup, 1) := by decide +kernel
theorem dX9_undo_24 : decode cX9_undo 24 = .ok (.getfield 132, 3) := by decide +kernel
theorem dX9_undo_27 : decode cX9_undo 27 = .ok (.iconst 1, 1) := by decide +kernel
theorem dX9_undo_28 : decode cX9_undo 28 = .ok (.isub, 1) := by decide +kernel
theorem dX9_undo_29 : decode cX9_undo 29 = .ok (.putfield 132, 3) := by decide +kernel
theorem dX9_undo_32 : decode cX9_undo 32 = .ok (.aload_n 0, 1) := by decide +kernel
theorem dX9_undo_33 : decode cX9_undo 33 = .ok (.getfield 132, 3) := by decide +kernel
theorem dX9_undo_36 : decode cX9_undo 36 = .ok (.ireturn, 1) := by decide +kernel
def m_X9_undo (N : Nat) (σ : Hp) (t0 : Nat) : Option (Int32 × Hp) :=
  (rv N σ t0 9).bind fun _ =>
  (gI N σ t0 9 11).bind fun x1 =>
  if x1 = 0 then
   some ((-1000002), σ)
  else
   (gI N σ t0 9 11).bind fun x3 =>
  (m_X9_copies N σ t0 (x3 * 16) 0).bind fun r4 =>
  (gI N r4 t0 9 11).bind fun x5 =>
  (pV N r4 t0 9 11 (.int (x5 - 1))).bind fun σ6 =>
  (gI N σ6 t0 9 11).bind fun x7 =>
  some (x7, σ6)
set_option maxHeartbeats 4000000 in
set_option maxRecDepth 100000 in
theorem ct_X9_undo {l : Launch} {D : va_G} {cy : Nat → Nat} {N : Nat} {σ : Hp} {t0 : Nat} {r : Int32 × Hp} (h : m_X9_undo N σ t0 = some r) : Ct l D cy yX9_undo cX9_undo 1 (some .int) 1 [.ref t0] N σ (fun v s' => v = (some (.int r.1)) ∧ s' = r.2) := by
  refine Ct.intro [some (.ref t0)] (by decide) rfl (Nat.le_of_ble_eq_true rfl) ?_
  intro κ ω e1 e2 e3 e4 C Z E
  subst e1; subst e2; subst e3; subst e4
  have C : Cx κ 1 1 cX9_undo RX9 "undo" := C
  have hE : ∀ x : Int32 × Hp, r = x → ((some (Value.int x.1)) = (some (Value.int r.1)) ∧ x.2 = r.2) := fun x hx => by subst hx; exact ⟨rfl, rfl⟩
  unfold m_X9_undo at h
  obtain ⟨_, _, h⟩ := ob h
  refine x_aload_n C (i := 0) dX9_undo_0 rfl rfl ?_
  obtain ⟨x1, ex1, h⟩ := ob h
  refine x_getI C fl_X9_132 dX9_undo_1 ex1 ?_
  refine x_if_ne C (tgt := 10) dX9_undo_4 (by decide) (fun c2 => ?_) (fun c2 => ?_)
  · have h := ifN h c2
    refine x_aload_n C (i := 0) dX9_undo_10 rfl rfl ?_
    refine x_aload_n C (i := 0) dX9_undo_11 rfl rfl ?_
    obtain ⟨x3, ex3, h⟩ := ob h
    refine x_getI C fl_X9_132 dX9_undo_12 ex3 ?_
    refine x_bipush C (v := 16) dX9_undo_15 (by decide) ?_
    refine x_imul C dX9_undo_17 ?_
    refine x_iconst C (v := 0) dX9_undo_18 (by decide) ?_
    obtain ⟨r4, er4, h⟩ := ob h
    refine x_callVn C Z mv_X9_copies lk_X9_129 (rv_h er4) (ct_X9_copies er4) (by decide) rfl rfl (Nat.le_of_ble_eq_true rfl) dX9_undo_19 ?_
    refine x_aload_n C (i := 0) dX9_undo_22 rfl rfl ?_
    refine x_dup C dX9_undo_23 rfl ?_
    obtain ⟨x5, ex5, h⟩ := ob h
    refine x_getI C fl_X9_132 dX9_undo_24 ex5 ?_
    refine x_iconst C (v := 1) dX9_undo_27 (by decide) ?_
    refine x_isub C dX9_undo_28 ?_
    obtain ⟨σ6, eσ6, h⟩ := ob h
    refine x_put C pl_X9_132 dX9_undo_29 (fun _ => ⟨rfl, rfl⟩) eσ6 ?_
    refine x_aload_n C (i := 0) dX9_undo_32 rfl rfl ?_
    obtain ⟨x7, ex7, h⟩ := ob h
    refine x_getI C fl_X9_132 dX9_undo_33 ex7 ?_
    exact x_iret C E dX9_undo_36 (hE (x7, σ6) (Option.some.inj h).symm)
  · have h := ifP h c2
    refine x_ldc C kc_X9_176 dX9_undo_7 ?_
    exact x_iret C E dX9_undo_9 (hE ((-1000002), σ) (Option.some.inj h).symm)
theorem dX9_disc_0 : decode cX9_disc 0 = .ok (.aload_n 0, 1) := by decide +kernel
theorem dX9_disc_1 : decode cX9_disc 1 = .ok (.iload_n 1, 1) := by decide +kernel
theorem dX9_disc_2 : decode cX9_disc 2 = .ok (.invokevirtual 180, 3) := by decide +kernel
theorem dX9_disc_5 : decode cX9_disc 5 = .ok (.ifCond .eq 15, 3) := by decide +kernel
theorem dX9_disc_8 : decode cX9_disc 8 = .ok (.iload_n 2, 1) := by decide +kernel
theorem dX9_disc_9 : decode cX9_disc 9 = .ok (.i2l, 1) := by decide +kernel
theorem dX9_disc_10 : decode cX9_disc 10 = .ok (.lconst 0, 1) := by decide +kernel
theorem dX9_disc_11 : decode cX9_disc 11 = .ok (.ldc2_w 64, 3) := by decide +kernel
theorem dX9_disc_14 : decode cX9_disc 14 = .ok (.invokestatic 56, 3) := by decide +kernel
theorem dX9_disc_17 : decode cX9_disc 17 = .ok (.ifCond .ne 6, 3) := by decide +kernel
theorem dX9_disc_20 : decode cX9_disc 20 = .ok (.ldc 66, 2) := by decide +kernel
theorem dX9_disc_22 : decode cX9_disc 22 = .ok (.ireturn, 1) := by decide +kernel
theorem dX9_disc_23 : decode cX9_disc 23 = .ok (.aload_n 0, 1) := by decide +kernel
theorem dX9_disc_24 : decode cX9_disc 24 = .ok (.invokevirtual 166, 3) := by decide +kernel
theorem dX9_disc_27 : decode cX9_disc 27 = .ok (.aload_n 0, 1) := by decide +kernel
theorem dX9_disc_28 : decode cX9_disc 28 = .ok (.invokevirtual 169, 3) := by decide +kernel
theorem dX9_disc_31 : decode cX9_disc 31 = .ok (.istore_n 3, 1) := by decide +kernel
theorem dX9_disc_32 : decode cX9_disc 32 = .ok (.aload_n 0, 1) := by decide +kernel
theorem dX9_disc_33 : decode cX9_disc 33 = .ok (.iload_n 3, 1) := by decide +kernel
theorem dX9_disc_34 : decode cX9_disc 34 = .ok (.aload_n 0, 1) := by decide +kernel
theorem dX9_disc_35 : decode cX9_disc 35 = .ok (.getfield 23, 3) := by decide +kernel
theorem dX9_disc_38 : decode cX9_disc 38 = .ok (.bipush 10, 2) := by decide +kernel
theorem dX9_disc_40 : decode cX9_disc 40 = .ok (.iload_n 1, 1) := by decide +kernel
theorem dX9_disc_41 : decode cX9_disc 41 = .ok (.iadd, 1) := by decide +kernel
theorem dX9_disc_42 : decode cX9_disc 42 = .ok (.iaload, 1) := by decide +kernel
theorem dX9_disc_43 : decode cX9_disc 43 = .ok (.invokevirtual 148, 3) := by decide +kernel
theorem dX9_disc_46 : decode cX9_disc 46 = .ok (.invokestatic 151, 3) := by decide +kernel
theorem dX9_disc_49 : decode cX9_disc 49 = .ok (.iload_n 1, 1) := by decide +kernel
theorem dX9_disc_50 : decode cX9_disc 50 = .ok (.if_icmp .ne 7, 3) := by decide +kernel
theorem dX9_disc_53 : decode cX9_disc 53 = .ok (.iconst 1, 1) := by decide +kernel
theorem dX9_disc_54 : decode cX9_disc 54 = .ok (.goto 4, 3) := by decide +kernel
theorem dX9_disc_57 : decode cX9_disc 57 = .ok (.iconst 0, 1) := by decide +kernel
theorem dX9_disc_58 : decode cX9_disc 58 = .ok (.istore 4, 2) := by decide +kernel
theorem dX9_disc_60 : decode cX9_disc 60 = .ok (.iconst 0, 1) := by decide +kernel
theorem dX9_disc_61 : decode cX9_disc 61 = .ok (.istore 5, 2) := by decide +kernel
theorem dX9_disc_63 : decode cX9_disc 63 = .ok (.iconst 0, 1) := by decide +kernel
theorem dX9_disc_64 : decode cX9_disc 64 = .ok (.istore 6, 2) := by decide +kernel
theorem dX9_disc_66 : decode cX9_disc 66 = .ok (.iload 6, 2) := by decide +kernel
theorem dX9_disc_68 : decode cX9_disc 68 = .ok (.aload_n 0, 1) := by decide +kernel
theorem dX9_disc_69 : decode cX9_disc 69 = .ok (.getfield 23, 3) := by decide +kernel
theorem dX9_disc_72 : decode cX9_disc 72 = .ok (.iconst 0, 1) := by decide +kernel
theorem dX9_disc_73 : decode cX9_disc 73 = .ok (.iaload, 1) := by decide +kernel
theorem dX9_disc_74 : decode cX9_disc 74 = .ok (.if_icmp .ge 47, 3) := by decide +kernel
theorem dX9_disc_77 : decode cX9_disc 77 = .ok (.iload 5, 2) := by decide +kernel
theorem dX9_disc_79 : decode cX9_disc 79 = .ok (.iload 4, 2) := by decide +kernel
theorem dX9_disc_81 : decode cX9_disc 81 = .ok (.ifCond .eq 30, 3) := by decide +kernel
theorem dX9_disc_84 : decode cX9_disc 84 = .ok (.aload_n 0, 1) := by decide +kernel
theorem dX9_disc_85 : decode cX9_disc 85 = .ok (.iload_n 3, 1) := by decide +kernel
theorem dX9_disc_86 : decode cX9_disc 86 = .ok (.aload_n 0, 1) := by decide +kernel
theorem dX9_disc_87 : decode cX9_disc 87 = .ok (.getfield 23, 3) := by decide +kernel
theorem dX9_disc_90 : decode cX9_disc 90 = .ok (.bipush 10, 2) := by decide +kernel
theorem dX9_disc_92 : decode cX9_disc 92 = .ok (.iload_n 1, 1) := by decide +kernel
theorem dX9_disc_93 : decode cX9_disc 93 = .ok (.iadd, 1) := by decide +kernel
theorem dX9_disc_94 : decode cX9_disc 94 = .ok (.iaload, 1) := by decide +kernel
theorem dX9_disc_95 : decode cX9_disc 95 = .ok (.iload 6, 2) := by decide +kernel
theorem dX9_disc_97 : decode cX9_disc 97 = .ok (.invokevirtual 173, 3) := by decide +kernel
theorem dX9_disc_100 : decode cX9_disc 100 = .ok (.iload_n 1, 1) := by decide +kernel
theorem dX9_disc_101 : decode cX9_disc 101 = .ok (.if_icmp .ne 10, 3) := by decide +kernel
theorem dX9_disc_104 : decode cX9_disc 104 = .ok (.iconst 1, 1) := by decide +kernel
theorem dX9_disc_105 : decode cX9_disc 105 = .ok (.iload 6, 2) := by decide +kernel
theorem dX9_disc_107 : decode cX9_disc 107 = .ok (.ishl, 1) := by decide +kernel
theorem dX9_disc_108 : decode cX9_disc 108 = .ok (.goto 4, 3) := by decide +kernel
theorem dX9_disc_111 : decode cX9_disc 111 = .ok (.iconst 0, 1) := by decide +kernel
theorem dX9_disc_112 : decode cX9_disc 112 = .ok (.ior, 1) := by decide +kernel
theorem dX9_disc_113 : decode cX9_disc 113 = .ok (.istore 5, 2) := by decide +kernel
theorem dX9_disc_115 : decode cX9_disc 115 = .ok (.iinc 6 1, 3) := by decide +kernel
theorem dX9_disc_118 : decode cX9_disc 118 = .ok (.goto (-52), 3) := by decide +kernel
theorem dX9_disc_121 : decode cX9_disc 121 = .ok (.iload_n 2, 1) := by decide +kernel
theorem dX9_disc_122 : decode cX9_disc 122 = .ok (.ifCond .ne 15, 3) := by decide +kernel
theorem dX9_disc_125 : decode cX9_disc 125 = .ok (.aload_n 0, 1) := by decide +kernel
theorem dX9_disc_126 : decode cX9_disc 126 = .ok (.getfield 23, 3) := by decide +kernel
theorem dX9_disc_129 : decode cX9_disc 129 = .ok (.bipush 10, 2) := by decide +kernel
theorem dX9_disc_131 : decode cX9_disc 131 = .ok (.iload_n 1, 1) := by decide +kernel
theorem dX9_disc_132 : decode cX9_disc 132 = .ok (.iadd, 1) := by decide +kernel
theorem dX9_disc_133 : decode cX9_disc 133 = .ok (.iaload, 1) := by decide +kernel
theorem dX9_disc_134 : decode cX9_disc 134 = .ok (.goto 23, 3) := by decide +kernel
theorem dX9_disc_137 : decode cX9_disc 137 = .ok (.iload_n 2, 1) := by decide +kernel
theorem dX9_disc_138 : decode cX9_disc 138 = .ok (.iconst 1, 1) := by decide +kernel
theorem dX9_disc_139 : decode cX9_disc 139 = .ok (.if_icmp .ne 16, 3) := by decide +kernel
theorem dX9_disc_142 : decode cX9_disc 142 = .ok (.iload 4, 2) := by decide +kernel
theorem dX9_disc_144 : decode cX9_disc 144 = .ok (.ifCond .eq 7, 3) := by decide +kernel
theorem dX9_disc_147 : decode cX9_disc 147 = .ok (.iconst 1, 1) := by decide +kernel
theorem dX9_disc_148 : decode cX9_disc 148 = .ok (.goto 9, 3) := by decide +kernel
theorem dX9_disc_151 : decode cX9_disc 151 = .ok (.iconst 0, 1) := by decide +kernel
theorem dX9_disc_152 : decode cX9_disc 152 = .ok (.goto 5, 3) := by decide +kernel
theorem dX9_disc_155 : decode cX9_disc 155 = .ok (.iload 5, 2) := by decide +kernel
theorem dX9_disc_157 : decode cX9_disc 157 = .ok (.ireturn, 1) := by decide +kernel
def L_X9_disc_66 (N : Nat) (σ : Hp) (v0 : Nat) (v1 : Int32) (v2 : Int32) (v3 : Int32) (v4 : Int32) : Nat → Int32 → Int32 → Option (Int32)
  | 0, _, _ => none
  | n + 1, v5, v6 =>
  (gR N σ v0 9 10).bind fun x12 =>
  (aI 0 N σ x12 0).bind fun x13 =>
  if x13 ≤ v6 then
   some v5
  else
   if v4 = 0 then
   L_X9_disc_66 N σ v0 v1 v2 v3 v4 n (v5 ||| 0) (v6 + 1)
  else
   (gR N σ v0 9 10).bind fun x16 =>
  (aI 0 N σ x16 ((10 : Int32) + v1)).bind fun x17 =>
  (m_X9_mover N σ v0 v3 x17 v6).bind fun r18 =>
  if r18 = v1 then
   lt (v5 ||| ((1 : Int32) <<< (v6 &&& 31))) fun y20 =>
  L_X9_disc_66 N σ v0 v1 v2 v3 v4 n y20 (v6 + 1)
  else
   L_X9_disc_66 N σ v0 v1 v2 v3 v4 n (v5 ||| 0) (v6 + 1)
def m_X9_disc (N : Nat) (σ : Hp) (t0 : Nat) (p1 : Int32) (p2 : Int32) : Option (Int32 × Hp) :=
  (rv N σ t0 9).bind fun _ =>
  (m_X9_isDisc N σ t0 p1).bind fun r1 =>
  if r1 = 0 then
   some ((-1000001), σ)
  else
   (m_X9_in p2.toInt64 0 2).bind fun r3 =>
  if r3 = 0 then
   some ((-1000001), σ)
  else
   (m_X9_asTold N σ t0).bind fun r5 =>
  (m_X9_state N r5 t0).bind fun r6 =>
  (gR N r5 t0 9 10).bind fun x7 =>
  (aI 0 N r5 x7 ((10 : Int32) + p1)).bind fun x8 =>
  (m_X9_lying N r5 t0 r6 x8).bind fun r9 =>
  (m_X9_lowest r9).bind fun r10 =>
  ((if r10 = p1 then
   some 1
  else
   some 0) : Option (Int32)).bind fun z11 =>
  (L_X9_disc_66 N r5 t0 p1 p2 r6 z11 fu 0 0).bind fun z21 =>
  if p2 = 0 then
   (gR N r5 t0 9 10).bind fun x25 =>
  (aI 0 N r5 x25 ((10 : Int32) + p1)).bind fun x26 =>
  some (x26, r5)
  else
   if p2 = 1 then
   if z11 = 0 then
   some (0, r5)
  else
   some (1, r5)
  else
   some (z21, r5)
set_option maxHeartbeats 4000000 in
set_option maxRecDepth 100000 in
theorem lp_X9_disc_66 {κ : Kx} {ω : Om} (C : Cx κ 7 3 cX9_disc RX9 "disc") (Z : Zx κ ω) (σ : Hp) (v0 : Nat) (v1 : Int32) (v2 : Int32) (v3 : Int32) (v4 : Int32) {r : Int32} (hk : X κ 7 ω 121 [some (.ref v0), some (.int v1), some (.int v2), none, some (.int v4), some (.int r), none] [] σ) : ∀ (n : Nat) (v5 : Int32) (v6 : Int32), L_X9_disc_66 ω.1 σ v0 v1 v2 v3 v4 n v5 v6 = some r → X κ 7 ω 66 [some (.ref v0), some (.int v1), some (.int v2), some (.int v3), some (.int v4), some (.int v5), some (.int v6)] [] σ := by
  intro n
  induction n with
  | zero => intro v5 v6 h; cases h
  | succ n ih =>
    intro v5 v6 h
    rw [L_X9_disc_66.eq_2] at h
    refine x_iload C (i := 6) dX9_disc_66 rfl ?_
    refine x_aload_n C (i := 0) dX9_disc_68 rfl rfl ?_
    obtain ⟨x12, ex12, h⟩ := ob h
    refine x_getR C fl_X9_23 dX9_disc_69 ex12 ?_
    refine x_iconst C (v := 0) dX9_disc_72 (by decide) ?_
    obtain ⟨x13, ex13, h⟩ := ob h
    refine x_iald C dX9_disc_73 ex13 ?_
    refine x_icmp_ge C (tgt := 121) dX9_disc_74 (by decide) (fun c14 => ?_) (fun c14 => ?_)
    · have h := ifP h c14
      refine x_wk [true, true, true, false, true, true, false] (lo' := [some (.ref v0), some (.int v1), some (.int v2), none, some (.int v4), some (.int v5), none]) rfl ?_
      obtain rfl := Option.some.inj h
      exact hk
    · have h := ifN h c14
      refine x_iload C (i := 5) dX9_disc_77 rfl ?_
      refine x_iload C (i := 4) dX9_disc_79 rfl ?_
      refine x_if_eq C (tgt := 111) dX9_disc_81 (by decide) (fun c15 => ?_) (fun c15 => ?_)
      · have h := ifP h c15
        refine x_iconst C (v := 0) dX9_disc_111 (by decide) ?_
        refine x_ior C dX9_disc_112 ?_
        refine x_istore C (i := 5) (lo' := [some (.ref v0), some (.int v1), some (.int v2), some (.int v3), some (.int v4), some (.int (v5 ||| 0)), some (.int v6)]) dX9_disc_113 (by decide) rfl rfl ?_
        refine x_iinc C (i := 6) (y := v6 + 1) (lo' := [some (.ref v0), some (.int v1), some (.int v2), some (.int v3), some (.int v4), some (.int (v5 ||| 0)), some (.int (v6 + 1))]) dX9_disc_115 rfl rfl (by decide) rfl rfl ?_
        refine x_goto C (tgt := 66) dX9_disc_118 (by decide) ?_
        refine x_wk [true, true, true, true, true, true, true] (lo' := [some (.ref v0), some (.int v1), some (.int v2), some (.int v3), some (.int v4), some (.int (v5 ||| 0)), some (.int (v6 + 1))]) rfl ?_
        exact ih (v5 ||| 0) (v6 + 1) h
      · have h := ifN h c15
        refine x_aload_n C (i := 0) dX9_disc_84 rfl rfl ?_
        refine x_iload_n C (i := 3) dX9_disc_85 rfl rfl ?_
        refine x_aload_n C (i := 0) dX9_disc_86 rfl rfl ?_
        obtain ⟨x16, ex16, h⟩ := ob h
        refine x_getR C fl_X9_23 dX9_disc_87 ex16 ?_
        refine x_bipush C (v := 10) dX9_disc_90 (by decide) ?_
        refine x_iload_n C (i := 1) dX9_disc_92 rfl rfl ?_
        refine x_iadd C dX9_disc_93 ?_
        obtain ⟨x17, ex17, h⟩ := ob h
        refine x_iald C dX9_disc_94 ex17 ?_
        refine x_iload C (i := 6) dX9_disc_95 rfl ?_
        obtain ⟨r18, er18, h⟩ := ob h
        refine x_callVr C Z mv_X9_mover lk_X9_173 (rv_h er18) (ct_X9_mover er18) (by decide) rfl rfl (Nat.le_of_ble_eq_true rfl) dX9_disc_97 ?_
        refine x_iload_n C (i := 1) dX9_disc_100 rfl rfl ?_
        refine x_icmp_ne C (tgt := 111) dX9_disc_101 (by decide) (fun c19 => ?_) (fun c19 => ?_)
        · have h := ifN h c19
          refine x_iconst C (v := 0) dX9_disc_111 (by decide) ?_
          refine x_ior C dX9_disc_112 ?_
          refine x_istore C (i := 5) (lo' := [some (.ref v0), some (.int v1), some (.int v2), some (.int v3), some (.int v4), some (.int (v5 ||| 0)), some (.int v6)]) dX9_disc_113 (by decide) rfl rfl ?_
          refine x_iinc C (i := 6) (y := v6 + 1) (lo' := [some (.ref v0), some (.int v1), some (.int v2), some (.int v3), some (.int v4), some (.int (v5 ||| 0)), some (.int (v6 + 1))]) dX9_disc_115 rfl rfl (by decide) rfl rfl ?_
          refine x_goto C (tgt := 66) dX9_disc_118 (by decide) ?_
          refine x_wk [true, true, true, true, true, true, true] (lo' := [some (.ref v0), some (.int v1), some (.int v2), some (.int v3), some (.int v4), some (.int (v5 ||| 0)), some (.int (v6 + 1))]) rfl ?_
          exact ih (v5 ||| 0) (v6 + 1) h
        · have h := ifP h c19
          refine x_iconst C (v := 1) dX9_disc_104 (by decide) ?_
          refine x_iload C (i := 6) dX9_disc_105 rfl ?_
          refine x_ishl C dX9_disc_107 ?_
          refine x_goto C (tgt := 112) dX9_disc_108 (by decide) ?_
          refine x_ior C dX9_disc_112 ?_
          refine x_topi (fun y20 ey20 => ?_)
          have h := lt_e h ey20
          refine x_istore C (i := 5) (lo' := [some (.ref v0), some (.int v1), some (.int v2), some (.int v3), some (.int v4), some (.int y20), some (.int v6)]) dX9_disc_113 (by decide) rfl rfl ?_
          refine x_iinc C (i := 6) (y := v6 + 1) (lo' := [some (.ref v0), some (.int v1), some (.int v2), some (.int v3), some (.int v4), some (.int y20), some (.int (v6 + 1))]) dX9_disc_115 rfl rfl (by decide) rfl rfl ?_
          refine x_goto C (tgt := 66) dX9_disc_118 (by decide) ?_
          refine x_wk [true, true, true, true, true, true, true] (lo' := [some (.ref v0), some (.int v1), some (.int v2), some (.int v3), some (.int v4), some (.int y20), some (.int (v6 + 1))]) rfl ?_
          exact ih y20 (v6 + 1) h
set_option maxHeartbeats 4000000 in
set_option maxRecDepth 100000 in
theorem ct_X9_disc {l : Launch} {D : va_G} {cy : Nat → Nat} {N : Nat} {σ : Hp} {t0 : Nat} {p1 : Int32} {p2 : Int32} {r : Int32 × Hp} (h : m_X9_disc N σ t0 p1 p2 = some r) : Ct l D cy yX9_disc cX9_disc 7 (some .int) 3 [.ref t0, .int p1, .int p2] N σ (fun v s' => v = (some (.int r.1)) ∧ s' = r.2) := by
  refine Ct.intro [some (.ref t0), some (.int p1), some (.int p2), none, none, none, none] (by decide) rfl (Nat.le_of_ble_eq_true rfl) ?_
  intro κ ω e1 e2 e3 e4 C Z E
  subst e1; subst e2; subst e3; subst e4
  have C : Cx κ 7 3 cX9_disc RX9 "disc" := C
  have hE : ∀ x : Int32 × Hp, r = x → ((some (Value.int x.1)) = (some (Value.int r.1)) ∧ x.2 = r.2) := fun x hx => by subst hx; exact ⟨rfl, rfl⟩
  unfold m_X9_disc at h
  obtain ⟨_, _, h⟩ := ob h
  refine x_aload_n C (i := 0) dX9_disc_0 rfl rfl ?_
  refine x_iload_n C (i := 1) dX9_disc_1 rfl rfl ?_
  obtain ⟨r1, er1, h⟩ := ob h
  refine x_callVr C Z mv_X9_isDisc lk_X9_180 (rv_h er1) (ct_X9_isDisc er1) (by decide) rfl rfl (Nat.le_of_ble_eq_true rfl) dX9_disc_2 ?_
  refine x_if_eq C (tgt := 20) dX9_disc_5 (by decide) (fun c2 => ?_) (fun c2 => ?_)
  · have h := ifP h c2
    refine x_ldc C kc_X9_66 dX9_disc_20 ?_
    exact x_iret C E dX9_disc_22 (hE ((-1000001), σ) (Option.some.inj h).symm)
  · have h := ifN h c2
    refine x_iload_n C (i := 2) dX9_disc_8 rfl rfl ?_
    refine x_i2l C dX9_disc_9 ?_
    refine x_lconst C (v := 0) dX9_disc_10 (by decide) ?_
    refine x_ldc2 C kj_X9_64 dX9_disc_11 ?_
    obtain ⟨r3, er3, h⟩ := ob h
    refine x_callSr C Z ms_X9_in lk_X9_56 (ct_X9_in (N := ω.1) (σ := σ) er3) (by decide) rfl rfl (Nat.le_of_ble_eq_true rfl) dX9_disc_14 ?_
    refine x_if_ne C (tgt := 23) dX9_disc_17 (by decide) (fun c4 => ?_) (fun c4 => ?_)
    · have h := ifN h c4
      refine x_aload_n C (i := 0) dX9_disc_23 rfl rfl ?_
      obtain ⟨r5, er5, h⟩ := ob h
      refine x_callVn C Z mv_X9_asTold lk_X9_166 (rv_h er5) (ct_X9_asTold er5) (by decide) rfl rfl (Nat.le_of_ble_eq_true rfl) dX9_disc_24 ?_
      refine x_aload_n C (i := 0) dX9_disc_27 rfl rfl ?_
      obtain ⟨r6, er6, h⟩ := ob h
      refine x_callVr C Z mv_X9_state lk_X9_169 (rv_h er6) (ct_X9_state er6) (by decide) rfl rfl (Nat.le_of_ble_eq_true rfl) dX9_disc_28 ?_
      refine x_istore_n C (i := 3) (lo' := [some (.ref t0), some (.int p1), some (.int p2), some (.int r6), none, none, none]) dX9_disc_31 rfl (by decide) rfl rfl ?_
      refine x_aload_n C (i := 0) dX9_disc_32 rfl rfl ?_
      refine x_iload_n C (i := 3) dX9_disc_33 rfl rfl ?_
      refine x_aload_n C (i := 0) dX9_disc_34 rfl rfl ?_
      obtain ⟨x7, ex7, h⟩ := ob h
      refine x_getR C fl_X9_23 dX9_disc_35 ex7 ?_
      refine x_bipush C (v := 10) dX9_disc_38 (by decide) ?_
      refine x_iload_n C (i := 1) dX9_disc_40 rfl rfl ?_
      refine x_iadd C dX9_disc_41 ?_
      obtain ⟨x8, ex8, h⟩ := ob h
      refine x_iald C dX9_disc_42 ex8 ?_
      obtain ⟨r9, er9, h⟩ := ob h
      refine x_callVr C Z mv_X9_lying lk_X9_148 (rv_h er9) (ct_X9_lying er9) (by decide) rfl rfl (Nat.le_of_ble_eq_true rfl) dX9_disc_43 ?_
      obtain ⟨r10, er10, h⟩ := ob h
      refine x_callSr C Z ms_X9_lowest lk_X9_151 (ct_X9_lowest (N := ω.1) (σ := r5) er10) (by decide) rfl rfl (Nat.le_of_ble_eq_true rfl) dX9_disc_46 ?_
      refine x_iload_n C (i := 1) dX9_disc_49 rfl rfl ?_
      obtain ⟨z11, hz11, h⟩ := ob h
      have hJ27 : X κ 7 ω 58 [some (.ref t0), some (.int p1), some (.int p2), some (.int r6), none, none, none] [.int z11] r5 := by
        refine x_istore C (i := 4) (lo' := [some (.ref t0), some (.int p1), some (.int p2), some (.int r6), some (.int z11), none, none]) dX9_disc_58 (by decide) rfl rfl ?_
        refine x_iconst C (v := 0) dX9_disc_60 (by decide) ?_
        refine x_istore C (i := 5) (lo' := [some (.ref t0), some (.int p1), some (.int p2), some (.int r6), some (.int z11), some (.int 0), none]) dX9_disc_61 (by decide) rfl rfl ?_
        refine x_iconst C (v := 0) dX9_disc_63 (by decide) ?_
        refine x_istore C (i := 6) (lo' := [some (.ref t0), some (.int p1), some (.int p2), some (.int r6), some (.int z11), some (.int 0), some (.int 0)]) dX9_disc_64 (by decide) rfl rfl ?_
        obtain ⟨z21, ez21, h⟩ := ob h
        refine x_wk [true, true, true, true, true, true, true] (lo' := [some (.ref t0), some (.int p1), some (.int p2), some (.int r6), some (.int z11), some (.int 0), some (.int 0)]) rfl ?_
        refine lp_X9_disc_66 C Z r5 t0 p1 p2 r6 z11 ?_ _ 0 0 ez21
        refine x_iload_n C (i := 2) dX9_disc_121 rfl rfl ?_
        refine x_if_ne C (tgt := 137) dX9_disc_122 (by decide) (fun c22 => ?_) (fun c22 => ?_)
        · have h := ifN h c22
          refine x_iload_n C (i := 2) dX9_disc_137 rfl rfl ?_
          refine x_iconst C (v := 1) dX9_disc_138 (by decide) ?_
          refine x_icmp_ne C (tgt := 155) dX9_disc_139 (by decide) (fun c23 => ?_) (fun c23 => ?_)
          · have h := ifN h c23
            refine x_iload C (i := 5) dX9_disc_155 rfl ?_
            exact x_iret C E dX9_disc_157 (hE (z21, r5) (Option.some.inj h).symm)
          · have h := ifP h c23
            refine x_iload C (i := 4) dX9_disc_142 rfl ?_
            refine x_if_eq C (tgt := 151) dX9_disc_144 (by decide) (fun c24 => ?_) (fun c24 => ?_)
            · have h := ifP h c24
              refine x_iconst C (v := 0) dX9_disc_151 (by decide) ?_
              refine x_goto C (tgt := 157) dX9_disc_152 (by decide) ?_
              exact x_iret C E dX9_disc_157 (hE (0, r5) (Option.some.inj h).symm)
            · have h := ifN h c24
              refine x_iconst C (v := 1) dX9_disc_147 (by decide) ?_
              refine x_goto C (tgt := 157) dX9_disc_148 (by decide) ?_
              exact x_iret C E dX9_disc_157 (hE (1, r5) (Option.some.inj h).symm)
        · have h := ifP h c22
          refine x_aload_n C (i := 0) dX9_disc_125 rfl rfl ?_
          obtain ⟨x25, ex25, h⟩ := ob h
          refine x_getR C fl_X9_23 dX9_disc_126 ex25 ?_
          refine x_bipush C (v := 10) dX9_disc_129 (by decide) ?_
          refine x_iload_n C (i := 1) dX9_disc_131 rfl rfl ?_
          refine x_iadd C dX9_disc_132 ?_
          obtain ⟨x26, ex26, h⟩ := ob h
          refine x_iald C dX9_disc_133 ex26 ?_
          refine x_goto C (tgt := 157) dX9_disc_134 (by decide) ?_
          exact x_iret C E dX9_disc_157 (hE (x26, r5) (Option.some.inj h).symm)
      clear h
      have h := hz11
      refine x_icmp_ne C (tgt := 57) dX9_disc_50 (by decide) (fun c29 => ?_) (fun c29 => ?_)
      · have h := ifN h c29
        refine x_iconst C (v := 0) dX9_disc_57 (by decide) ?_
        refine x_wk [true, true, true, true, false, false, false] (lo' := [some (.ref t0), some (.int p1), some (.int p2), some (.int r6), none, none, none]) rfl ?_
        obtain rfl := Option.some.inj h
        exact hJ27
      · have h := ifP h c29
        refine x_iconst C (v := 1) dX9_disc_53 (by decide) ?_
        refine x_goto C (tgt := 58) dX9_disc_54 (by decide) ?_
        refine x_wk [true, true, true, true, false, false, false] (lo' := [some (.ref t0), some (.int p1), some (.int p2), some (.int r6), none, none, none]) rfl ?_
        obtain rfl := Option.some.inj h
        exact hJ27
    · have h := ifP h c4
      refine x_ldc C kc_X9_66 dX9_disc_20 ?_
      exact x_iret C E dX9_disc_22 (hE ((-1000001), σ) (Option.some.inj h).symm)
theorem dX9_many_0 : decode cX9_many 0 = .ok (.aload_n 0, 1) := by decide +kernel
theorem dX9_many_1 : decode cX9_many 1 = .ok (.aload_n 0, 1) := by decide +kernel
theorem dX9_many_2 : decode cX9_many 2 = .ok (.invokevirtual 169, 3) := by decide +kernel
theorem dX9_many_5 : decode cX9_many 5 = .ok (.iload_n 1, 1) := by decide +kernel
theorem dX9_many_6 : decode cX9_many 6 = .ok (.invokevirtual 148, 3) := by decide +kernel
theorem dX9_many_9 : decode cX9_many 9 = .ok (.invokestatic 157, 3) := by decide +kernel
theorem dX9_many_12 : decode cX9_many 12 = .ok (.ireturn, 1) := by decide +kernel
def m_X9_many (N : Nat) (σ : Hp) (t0 : Nat) (p1 : Int32) : Option (Int32) :=
  (rv N σ t0 9).bind fun _ =>
  (m_X9_state N σ t0).bind fun r1 =>
  (m_X9_lying N σ t0 r1 p1).bind fun r2 =>
  (m_X9_bits r2).bind fun r3 =>
  some r3
set_option maxHeartbeats 4000000 in
set_option maxRecDepth 100000 in
theorem ct_X9_many {l : Launch} {D : va_G} {cy : Nat → Nat} {N : Nat} {σ : Hp} {t0 : Nat} {p1 : Int32} {r : Int32} (h : m_X9_many N σ t0 p1 = some r) : Ct l D cy yX9_many cX9_many 2 (some .int) 2 [.ref t0, .int p1] N σ (fun v s' => v = (some (.int r)) ∧ s' = σ) := by
  refine Ct.intro [some (.ref t0), some (.int p1)] (by decide) rfl (Nat.le_of_ble_eq_true rfl) ?_
  intro κ ω e1 e2 e3 e4 C Z E
  subst e1; subst e2; subst e3; subst e4
  have C : Cx κ 2 2 cX9_many RX9 "many" := C
  have hE : ∀ x : Int32, r = x → ((some (Value.int x)) = (some (Value.int r)) ∧ σ = σ) := fun x hx => by subst hx; exact ⟨rfl, rfl⟩
  unfold m_X9_many at h
  obtain ⟨_, _, h⟩ := ob h
  refine x_aload_n C (i := 0) dX9_many_0 rfl rfl ?_
  refine x_aload_n C (i := 0) dX9_many_1 rfl rfl ?_
  obtain ⟨r1, er1, h⟩ := ob h
  refine x_callVr C Z mv_X9_state lk_X9_169 (rv_h er1) (ct_X9_state er1) (by decide) rfl rfl (Nat.le_of_ble_eq_true rfl) dX9_many_2 ?_
  refine x_iload_n C (i := 1) dX9_many_5 rfl rfl ?_
  obtain ⟨r2, er2, h⟩ := ob h
  refine x_callVr C Z mv_X9_lying lk_X9_148 (rv_h er2) (ct_X9_lying er2) (by decide) rfl rfl (Nat.le_of_ble_eq_true rfl) dX9_many_6 ?_
  obtain ⟨r3, er3, h⟩ := ob h
  refine x_callSr C Z ms_X9_bits lk_X9_157 (ct_X9_bits (N := ω.1) (σ := σ) er3) (by decide) rfl rfl (Nat.le_of_ble_eq_true rfl) dX9_many_9 ?_
  exact x_iret C E dX9_many_12 (hE r3 (Option.some.inj h).symm)
theorem dX9_peg_0 : decode cX9_peg 0 = .ok (.aload_n 0, 1) := by decide +kernel
theorem dX9_peg_1 : decode cX9_peg 1 = .ok (.iload_n 1, 1) := by decide +kernel
theorem dX9_peg_2 : decode cX9_peg 2 = .ok (.invokevirtual 163, 3) := by decide +kernel
theorem dX9_peg_5 : decode cX9_peg 5 = .ok (.ifCond .eq 15, 3) := by decide +kernel
theorem dX9_peg_8 : decode cX9_peg 8 = .ok (.iload_n 2, 1) := by decide +kernel
theorem dX9_peg_9 : decode cX9_peg 9 = .ok (.i2l, 1) := by decide +kernel
theorem dX9_peg_10 : decode cX9_peg 10 = .ok (.lconst 0, 1) := by decide +kernel
theorem dX9_peg_11 : decode cX9_peg 11 = .ok (.ldc2_w 64, 3) := by decide +kernel
theorem dX9_peg_14 : decode cX9_peg 14 = .ok (.invokestatic 56, 3) := by decide +kernel
theorem dX9_peg_17 : decode cX9_peg 17 = .ok (.ifCond .ne 6, 3) := by decide +kernel
theorem dX9_peg_20 : decode cX9_peg 20 = .ok (.ldc 66, 2) := by decide +kernel
theorem dX9_peg_22 : decode cX9_peg 22 = .ok (.ireturn, 1) := by decide +kernel
theorem dX9_peg_23 : decode cX9_peg 23 = .ok (.aload_n 0, 1) := by decide +kernel
theorem dX9_peg_24 : decode cX9_peg 24 = .ok (.aload_n 0, 1) := by decide +kernel
theorem dX9_peg_25 : decode cX9_peg 25 = .ok (.invokevirtual 169, 3) := by decide +kernel
theorem dX9_peg_28 : decode cX9_peg 28 = .ok (.iload_n 1, 1) := by decide +kernel
theorem dX9_peg_29 : decode cX9_peg 29 = .ok (.invokevirtual 148, 3) := by decide +kernel
theorem dX9_peg_32 : decode cX9_peg 32 = .ok (.istore_n 3, 1) := by decide +kernel
theorem dX9_peg_33 : decode cX9_peg 33 = .ok (.iload_n 2, 1) := by decide +kernel
theorem dX9_peg_34 : decode cX9_peg 34 = .ok (.ifCond .ne 10, 3) := by decide +kernel
theorem dX9_peg_37 : decode cX9_peg 37 = .ok (.iload_n 3, 1) := by decide +kernel
theorem dX9_peg_38 : decode cX9_peg 38 = .ok (.invokestatic 157, 3) := by decide +kernel
theorem dX9_peg_41 : decode cX9_peg 41 = .ok (.goto 25, 3) := by decide +kernel
theorem dX9_peg_44 : decode cX9_peg 44 = .ok (.iload_n 2, 1) := by decide +kernel
theorem dX9_peg_45 : decode cX9_peg 45 = .ok (.iconst 1, 1) := by decide +kernel
theorem dX9_peg_46 : decode cX9_peg 46 = .ok (.if_icmp .ne 7, 3) := by decide +kernel
theorem dX9_peg_49 : decode cX9_peg 49 = .ok (.iload_n 3, 1) := by decide +kernel
theorem dX9_peg_50 : decode cX9_peg 50 = .ok (.goto 16, 3) := by decide +kernel
theorem dX9_peg_53 : decode cX9_peg 53 = .ok (.iload_n 3, 1) := by decide +kernel
theorem dX9_peg_54 : decode cX9_peg 54 = .ok (.ifCond .ne 8, 3) := by decide +kernel
theorem dX9_peg_57 : decode cX9_peg 57 = .ok (.ldc 189, 2) := by decide +kernel
theorem dX9_peg_59 : decode cX9_peg 59 = .ok (.goto 7, 3) := by decide +kernel
theorem dX9_peg_62 : decode cX9_peg 62 = .ok (.iload_n 3, 1) := by decide +kernel
theorem dX9_peg_63 : decode cX9_peg 63 = .ok (.invokestatic 151, 3) := by decide +kernel
theorem dX9_peg_66 : decode cX9_peg 66 = .ok (.ireturn, 1) := by decide +kernel
def m_X9_peg (N : Nat) (σ : Hp) (t0 : Nat) (p1 : Int32) (p2 : Int32) : Option (Int32) :=
  (rv N σ t0 9).bind fun _ =>
  (m_X9_isPeg N σ t0 p1).bind fun r1 =>
  if r1 = 0 then
   some (-1000001)
  else
   (m_X9_in p2.toInt64 0 2).bind fun r3 =>
  if r3 = 0 then
   some (-1000001)
  else
   (m_X9_state N σ t0).bind fun r5 =>
  (m_X9_lying N σ t0 r5 p1).bind fun r6 =>
  if p2 = 0 then
   (m_X9_bits r6).bind fun r11 =>
  some r11
  else
   if p2 = 1 then
   some r6
  else
   if r6 = 0 then
   some (-1000000)
  else
   (m_X9_lowest r6).bind fun r10 =>
  some r10
set_option maxHeartbeats 4000000 in
set_option maxRecDepth 100000 in
theorem ct_X9_peg {l : Launch} {D : va_G} {cy : Nat → Nat} {N : Nat} {σ : Hp} {t0 : Nat} {p1 : Int32} {p2 : Int32} {r : Int32} (h : m_X9_peg N σ t0 p1 p2 = some r) : Ct l D cy yX9_peg cX9_peg 4 (some .int) 2 [.ref t0, .int p1, .int p2] N σ (fun v s' => v = (some (.int r)) ∧ s' = σ) := by
  refine Ct.intro [some (.ref t0), some (.int p1), some (.int p2), none] (by decide) rfl (Nat.le_of_ble_eq_true rfl) ?_
  intro κ ω e1 e2 e3 e4 C Z E
  subst e1; subst e2; subst e3; subst e4
  have C : Cx κ 4 2 cX9_peg RX9 "peg" := C
  have hE : ∀ x : Int32, r = x → ((some (Value.int x)) = (some (Value.int r)) ∧ σ = σ) := fun x hx => by subst hx; exact ⟨rfl, rfl⟩
  unfold m_X9_peg at h
  obtain ⟨_, _, h⟩ := ob h
  refine x_aload_n C (i := 0) dX9_peg_0 rfl rfl ?_
  refine x_iload_n C (i := 1) dX9_peg_1 rfl rfl ?_
  obtain ⟨r1, er1, h⟩ := ob h
  refine x_callVr C Z mv_X9_isPeg lk_X9_163 (rv_h er1) (ct_X9_isPeg er1) (by decide) rfl rfl (Nat.le_of_ble_eq_true rfl) dX9_peg_2 ?_
  refine x_if_eq C (tgt := 20) dX9_peg_5 (by decide) (fun c2 => ?_) (fun c2 => ?_)
  · have h := ifP h c2
    refine x_ldc C kc_X9_66 dX9_peg_20 ?_
    exact x_iret C E dX9_peg_22 (hE (-1000001) (Option.some.inj h).symm)
  · have h := ifN h c2
    refine x_iload_n C (i := 2) dX9_peg_8 rfl rfl ?_
    refine x_i2l C dX9_peg_9 ?_
    refine x_lconst C (v := 0) dX9_peg_10 (by decide) ?_
    refine x_ldc2 C kj_X9_64 dX9_peg_11 ?_
    obtain ⟨r3, er3, h⟩ := ob h
    refine x_callSr C Z ms_X9_in lk_X9_56 (ct_X9_in (N := ω.1) (σ := σ) er3) (by decide) rfl rfl (Nat.le_of_ble_eq_true rfl) dX9_peg_14 ?_
    refine x_if_ne C (tgt := 23) dX9_peg_17 (by decide) (fun c4 => ?_) (fun c4 => ?_)
    · have h := ifN h c4
      refine x_aload_n C (i := 0) dX9_peg_23 rfl rfl ?_
      refine x_aload_n C (i := 0) dX9_peg_24 rfl rfl ?_
      obtain ⟨r5, er5, h⟩ := ob h
      refine x_callVr C Z mv_X9_state lk_X9_169 (rv_h er5) (ct_X9_state er5) (by decide) rfl rfl (Nat.le_of_ble_eq_true rfl) dX9_peg_25 ?_
      refine x_iload_n C (i := 1) dX9_peg_28 rfl rfl ?_
      obtain ⟨r6, er6, h⟩ := ob h
      refine x_callVr C Z mv_X9_lying lk_X9_148 (rv_h er6) (ct_X9_lying er6) (by decide) rfl rfl (Nat.le_of_ble_eq_true rfl) dX9_peg_29 ?_
      refine x_istore_n C (i := 3) (lo' := [some (.ref t0), some (.int p1), some (.int p2), some (.int r6)]) dX9_peg_32 rfl (by decide) rfl rfl ?_
      refine x_iload_n C (i := 2) dX9_peg_33 rfl rfl ?_
      refine x_if_ne C (tgt := 44) dX9_peg_34 (by decide) (fun c7 => ?_) (fun c7 => ?_)
      · have h := ifN h c7
        refine x_iload_n C (i := 2) dX9_peg_44 rfl rfl ?_
        refine x_iconst C (v := 1) dX9_peg_45 (by decide) ?_
        refine x_icmp_ne C (tgt := 53) dX9_peg_46 (by decide) (fun c8 => ?_) (fun c8 => ?_)
        · have h := ifN h c8
          refine x_iload_n C (i := 3) dX9_peg_53 rfl rfl ?_
          refine x_if_ne C (tgt := 62) dX9_peg_54 (by decide) (fun c9 => ?_) (fun c9 => ?_)
          · have h := ifN h c9
            refine x_iload_n C (i := 3) dX9_peg_62 rfl rfl ?_
            obtain ⟨r10, er10, h⟩ := ob h
            refine x_callSr C Z ms_X9_lowest lk_X9_151 (ct_X9_lowest (N := ω.1) (σ := σ) er10) (by decide) rfl rfl (Nat.le_of_ble_eq_true rfl) dX9_peg_63 ?_
            exact x_iret C E dX9_peg_66 (hE r10 (Option.some.inj h).symm)
          · have h := ifP h c9
            refine x_ldc C kc_X9_189 dX9_peg_57 ?_
            refine x_goto C (tgt := 66) dX9_peg_59 (by decide) ?_
            exact x_iret C E dX9_peg_66 (hE (-1000000) (Option.some.inj h).symm)
        · have h := ifP h c8
          refine x_iload_n C (i := 3) dX9_peg_49 rfl rfl ?_
          refine x_goto C (tgt := 66) dX9_peg_50 (by decide) ?_
          exact x_iret C E dX9_peg_66 (hE r6 (Option.some.inj h).symm)
      · have h := ifP h c7
        refine x_iload_n C (i := 3) dX9_peg_37 rfl rfl ?_
        obtain ⟨r11, er11, h⟩ := ob h
        refine x_callSr C Z ms_X9_bits lk_X9_157 (ct_X9_bits (N := ω.1) (σ := σ) er11) (by decide) rfl rfl (Nat.le_of_ble_eq_true rfl) dX9_peg_38 ?_
        refine x_goto C (tgt := 66) dX9_peg_41 (by decide) ?_
        exact x_iret C E dX9_peg_66 (hE r11 (Option.some.inj h).symm)
    · have h := ifP h c4
      refine x_ldc C kc_X9_66 dX9_peg_20 ?_
      exact x_iret C E dX9_peg_22 (hE (-1000001) (Option.some.inj h).symm)
theorem dX9_movesOf_0 : decode cX9_movesOf 0 = .ok (.iconst 0, 1) := by decide +kernel
theorem dX9_movesOf_1 : decode cX9_movesOf 1 = .ok (.istore_n 2, 1) := by decide +kernel
theorem dX9_movesOf_2 : decode cX9_movesOf 2 = .ok (.iconst 0, 1) := by decide +kernel
theorem dX9_movesOf_3 : decode cX9_movesOf 3 = .ok (.istore_n 3, 1) := by decide +kernel
theorem dX9_movesOf_4 : decode cX9_movesOf 4 = .ok (.iload_n 3, 1) := by decide +kernel
theorem dX9_movesOf_5 : decode cX9_movesOf 5 = .ok (.bipush 16, 2) := by decide +kernel
theorem dX9_movesOf_7 : decode cX9_movesOf 7 = .ok (.if_icmp .ge 59, 3) := by decide +kernel
theorem dX9_movesOf_10 : decode cX9_movesOf 10 = .ok (.iload_n 2, 1) := by decide +kernel
theorem dX9_movesOf_11 : decode cX9_movesOf 11 = .ok (.iload_n 3, 1) := by decide +kernel
theorem dX9_movesOf_12 : decode cX9_movesOf 12 = .ok (.iconst 4, 1) := by decide +kernel
theorem dX9_movesOf_13 : decode cX9_movesOf 13 = .ok (.idiv, 1) := by decide +kernel
theorem dX9_movesOf_14 : decode cX9_movesOf 14 = .ok (.aload_n 0, 1) := by decide +kernel
theorem dX9_movesOf_15 : decode cX9_movesOf 15 = .ok (.getfield 23, 3) := by decide +kernel
theorem dX9_movesOf_18 : decode cX9_movesOf 18 = .ok (.iconst 0, 1) := by decide +kernel
theorem dX9_movesOf_19 : decode cX9_movesOf 19 = .ok (.iaload, 1) := by decide +kernel
theorem dX9_movesOf_20 : decode cX9_movesOf 20 = .ok (.if_icmp .ge 37, 3) := by decide +kernel
theorem dX9_movesOf_23 : decode cX9_movesOf 23 = .ok (.iload_n 3, 1) := by decide +kernel
theorem dX9_movesOf_24 : decode cX9_movesOf 24 = .ok (.iconst 4, 1) := by decide +kernel
theorem dX9_movesOf_25 : decode cX9_movesOf 25 = .ok (.irem, 1) := by decide +kernel
theorem dX9_movesOf_26 : decode cX9_movesOf 26 = .ok (.aload_n 0, 1) := by decide +kernel
theorem dX9_movesOf_27 : decode cX9_movesOf 27 = .ok (.getfield 23, 3) := by decide +kernel
theorem dX9_movesOf_30 : decode cX9_movesOf 30 = .ok (.iconst 0, 1) := by decide +kernel
theorem dX9_movesOf_31 : decode cX9_movesOf 31 = .ok (.iaload, 1) := by decide +kernel
theorem dX9_movesOf_32 : decode cX9_movesOf 32 = .ok (.if_icmp .ge 25, 3) := by decide +kernel
theorem dX9_movesOf_35 : decode cX9_movesOf 35 = .ok (.aload_n 0, 1) := by decide +kernel
theorem dX9_movesOf_36 : decode cX9_movesOf 36 = .ok (.iload_n 1, 1) := by decide +kernel
theorem dX9_movesOf_37 : decode cX9_movesOf 37 = .ok (.iload_n 3, 1) := by decide +kernel
theorem dX9_movesOf_38 : decode cX9_movesOf 38 = .ok (.iconst 4, 1) := by decide +kernel
theorem dX9_movesOf_39 : decode cX9_movesOf 39 = .ok (.idiv, 1) := by decide +kernel
theorem dX9_movesOf_40 : decode cX9_movesOf 40 = .ok (.iload_n 3, 1) := by decide +kernel
theorem dX9_movesOf_41 : decode cX9_movesOf 41 = .ok (.iconst 4, 1) := by decide +kernel
theorem dX9_movesOf_42 : decode cX9_movesOf 42 = .ok (.irem, 1) := by decide +kernel
theorem dX9_movesOf_43 : decode cX9_movesOf 43 = .ok (.invokevirtual 173, 3) := by decide +kernel
theorem dX9_movesOf_46 : decode cX9_movesOf 46 = .ok (.bipush 6, 2) := by decide +kernel
theorem dX9_movesOf_48 : decode cX9_movesOf 48 = .ok (.if_icmp .ge 9, 3) := by decide +kernel
theorem dX9_movesOf_51 : decode cX9_movesOf 51 = .ok (.iconst 1, 1) := by decide +kernel
theorem dX9_movesOf_52 : decode cX9_movesOf 52 = .ok (.iload_n 3, 1) := by decide +kernel
theorem dX9_movesOf_53 : decode cX9_movesOf 53 = .ok (.ishl, 1) := by decide +kernel
theorem dX9_movesOf_54 : decode cX9_movesOf 54 = .ok (.goto 4, 3) := by decide +kernel
theorem dX9_movesOf_57 : decode cX9_movesOf 57 = .ok (.iconst 0, 1) := by decide +kernel
theorem dX9_movesOf_58 : decode cX9_movesOf 58 = .ok (.ior, 1) := by decide +kernel
theorem dX9_movesOf_59 : decode cX9_movesOf 59 = .ok (.istore_n 2, 1) := by decide +kernel
theorem dX9_movesOf_60 : decode cX9_movesOf 60 = .ok (.iinc 3 1, 3) := by decide +kernel
theorem dX9_movesOf_63 : decode cX9_movesOf 63 = .ok (.goto (-59), 3) := by decide +kernel
theorem dX9_movesOf_66 : decode cX9_movesOf 66 = .ok (.iload_n 2, 1) := by decide +kernel
theorem dX9_movesOf_67 : decode cX9_movesOf 67 = .ok (.ireturn, 1) := by decide +kernel
def L_X9_movesOf_4 (N : Nat) (σ : Hp) (v0 : Nat) (v1 : Int32) : Nat → Int32 → Int32 → Option (Int32)
  | 0, _, _ => none
  | n + 1, v2, v3 =>
  if 16 ≤ v3 then
   some v2
  else
   (gR N σ v0 9 10).bind fun x2 =>
  (aI 0 N σ x2 0).bind fun x3 =>
  if x3 ≤ (v3 / 4) then
   L_X9_movesOf_4 N σ v0 v1 n (v2 ||| 0) (v3 + 1)
  else
   (gR N σ v0 9 10).bind fun x5 =>
  (aI 0 N σ x5 0).bind fun x6 =>
  if x6 ≤ (v3 - v3 / 4 * 4) then
   L_X9_movesOf_4 N σ v0 v1 n (v2 ||| 0) (v3 + 1)
  else
   (m_X9_mover N σ v0 v1 (v3 / 4) (v3 - v3 / 4 * 4)).bind fun r8 =>
  if 6 ≤ r8 then
   L_X9_movesOf_4 N σ v0 v1 n (v2 ||| 0) (v3 + 1)
  else
   lt (v2 ||| ((1 : Int32) <<< (v3 &&& 31))) fun y10 =>
  L_X9_movesOf_4 N σ v0 v1 n y10 (v3 + 1)
def m_X9_movesOf (N : Nat) (σ : Hp) (t0 : Nat) (p1 : Int32) : Option (Int32) :=
  (rv N σ t0 9).bind fun _ =>
  (L_X9_movesOf_4 N σ t0 p1 fu 0 0).bind fun z11 =>
  some z11
set_option maxHeartbeats 4000000 in
set_option maxRecDepth 100000 in
theorem lp_X9_movesOf_4 {κ : Kx} {ω : Om} (C : Cx κ 4 3 cX9_movesOf RX9 "movesOf") (Z : Zx κ ω) (σ : Hp) (v0 : Nat) (v1 : Int32) {r : Int32} (hk : X κ 4 ω 66 [none, none, some (.int r), none] [] σ) : ∀ (n : Nat) (v2 : Int32) (v3 : Int32), L_X9_movesOf_4 ω.1 σ v0 v1 n v2 v3 = some r → X κ 4 ω 4 [some (.ref v0), some (.int v1), some (.int v2), some (.int v3)] [] σ := by
  intro n
  induction n with
  | zero => intro v2 v3 h; cases h
  | succ n ih =>
    intro v2 v3 h
    rw [L_X9_movesOf_4.eq_2] at h
    refine x_iload_n C (i := 3) dX9_movesOf_4 rfl rfl ?_
    refine x_bipush C (v := 16) dX9_movesOf_5 (by decide) ?_
    refine x_icmp_ge C (tgt := 66) dX9_movesOf_7 (by decide) (fun c1 => ?_) (fun c1 => ?_)
    · have h := ifP h c1
      refine x_wk [false, false, true, false] (lo' := [none, none, some (.int v2), none]) rfl ?_
      obtain rfl := Option.some.inj h
      exact hk
    · have h := ifN h c1
      refine x_iload_n C (i := 2) dX9_movesOf_10 rfl rfl ?_
      refine x_iload_n C (i := 3) dX9_movesOf_11 rfl rfl ?_
      refine x_iconst C (v := 4) dX9_movesOf_12 (by decide) ?_
      refine x_idiv C dX9_movesOf_13 (by decide) ?_
      refine x_aload_n C (i := 0) dX9_movesOf_14 rfl rfl ?_
      obtain ⟨x2, ex2, h⟩ := ob h
      refine x_getR C fl_X9_23 dX9_movesOf_15 ex2 ?_
      refine x_iconst C (v := 0) dX9_movesOf_18 (by decide) ?_
      obtain ⟨x3, ex3, h⟩ := ob h
      refine x_iald C dX9_movesOf_19 ex3 ?_
      refine x_icmp_ge C (tgt := 57) dX9_movesOf_20 (by decide) (fun c4 => ?_) (fun c4 => ?_)
      · have h := ifP h c4
        refine x_iconst C (v := 0) dX9_movesOf_57 (by decide) ?_
        refine x_ior C dX9_movesOf_58 ?_
        refine x_istore_n C (i := 2) (lo' := [some (.ref v0), some (.int v1), some (.int (v2 ||| 0)), some (.int v3)]) dX9_movesOf_59 rfl (by decide) rfl rfl ?_
        refine x_iinc C (i := 3) (y := v3 + 1) (lo' := [some (.ref v0), some (.int v1), some (.int (v2 ||| 0)), some (.int (v3 + 1))]) dX9_movesOf_60 rfl rfl (by decide) rfl rfl ?_
        refine x_goto C (tgt := 4) dX9_movesOf_63 (by decide) ?_
        refine x_wk [true, true, true, true] (lo' := [some (.ref v0), some (.int v1), some (.int (v2 ||| 0)), some (.int (v3 + 1))]) rfl ?_
        exact ih (v2 ||| 0) (v3 + 1) h
      · have h := ifN h c4
        refine x_iload_n C (i := 3) dX9_movesOf_23 rfl rfl ?_
        refine x_iconst C (v := 4) dX9_movesOf_24 (by decide) ?_
        refine x_irem C dX9_movesOf_25 (by decide) ?_
        refine x_aload_n C (i := 0) dX9_movesOf_26 rfl rfl ?_
        obtain ⟨x5, ex5, h⟩ := ob h
        refine x_getR C fl_X9_23 dX9_movesOf_27 ex5 ?_
        refine x_iconst C (v := 0) dX9_movesOf_30 (by decide) ?_
        obtain ⟨x6, ex6, h⟩ := ob h
        refine x_iald C dX9_movesOf_31 ex6 ?_
        refine x_icmp_ge C (tgt := 57) dX9_movesOf_32 (by decide) (fun c7 => ?_) (fun c7 => ?_)
        · have h := ifP h c7
          refine x_iconst C (v := 0) dX9_movesOf_57 (by decide) ?_
          refine x_ior C dX9_movesOf_58 ?_
          refine x_istore_n C (i := 2) (lo' := [some (.ref v0), some (.int v1), some (.int (v2 ||| 0)), some (.int v3)]) dX9_movesOf_59 rfl (by decide) rfl rfl ?_
          refine x_iinc C (i := 3) (y := v3 + 1) (lo' := [some (.ref v0), some (.int v1), some (.int (v2 ||| 0)), some (.int (v3 + 1))]) dX9_movesOf_60 rfl rfl (by decide) rfl rfl ?_
          refine x_goto C (tgt := 4) dX9_movesOf_63 (by decide) ?_
          refine x_wk [true, true, true, true] (lo' := [some (.ref v0), some (.int v1), some (.int (v2 ||| 0)), some (.int (v3 + 1))]) rfl ?_
          exact ih (v2 ||| 0) (v3 + 1) h
        · have h := ifN h c7
          refine x_aload_n C (i := 0) dX9_movesOf_35 rfl rfl ?_
          refine x_iload_n C (i := 1) dX9_movesOf_36 rfl rfl ?_
          refine x_iload_n C (i := 3) dX9_movesOf_37 rfl rfl ?_
          refine x_iconst C (v := 4) dX9_movesOf_38 (by decide) ?_
          refine x_idiv C dX9_movesOf_39 (by decide) ?_
          refine x_iload_n C (i := 3) dX9_movesOf_40 rfl rfl ?_
          refine x_iconst C (v := 4) dX9_movesOf_41 (by decide) ?_
          refine x_irem C dX9_movesOf_42 (by decide) ?_
          obtain ⟨r8, er8, h⟩ := ob h
          refine x_callVr C Z mv_X9_mover lk_X9_173 (rv_h er8) (ct_X9_mover er8) (by decide) rfl rfl (Nat.le_of_ble_eq_true rfl) dX9_movesOf_43 ?_
          refine x_bipush C (v := 6) dX9_movesOf_46 (by decide) ?_
          refine x_icmp_ge C (tgt := 57) dX9_movesOf_48 (by decide) (fun c9 => ?_) (fun c9 => ?_)
          · have h := ifP h c9
            refine x_iconst C (v := 0) dX9_movesOf_57 (by decide) ?_
            refine x_ior C dX9_movesOf_58 ?_
            refine x_istore_n C (i := 2) (lo' := [some (.ref v0), some (.int v1), some (.int (v2 ||| 0)), some (.int v3)]) dX9_movesOf_59 rfl (by decide) rfl rfl ?_
            refine x_iinc C (i := 3) (y := v3 + 1) (lo' := [some (.ref v0), some (.int v1), some (.int (v2 ||| 0)), some (.int (v3 + 1))]) dX9_movesOf_60 rfl rfl (by decide) rfl rfl ?_
            refine x_goto C (tgt := 4) dX9_movesOf_63 (by decide) ?_
            refine x_wk [true, true, true, true] (lo' := [some (.ref v0), some (.int v1), some (.int (v2 ||| 0)), some (.int (v3 + 1))]) rfl ?_
            exact ih (v2 ||| 0) (v3 + 1) h
          · have h := ifN h c9
            refine x_iconst C (v := 1) dX9_movesOf_51 (by decide) ?_
            refine x_iload_n C (i := 3) dX9_movesOf_52 rfl rfl ?_
            refine x_ishl C dX9_movesOf_53 ?_
            refine x_goto C (tgt := 58) dX9_movesOf_54 (by decide) ?_
            refine x_ior C dX9_movesOf_58 ?_
            refine x_topi (fun y10 ey10 => ?_)
            have h := lt_e h ey10
            refine x_istore_n C (i := 2) (lo' := [some (.ref v0), some (.int v1), some (.int y10), some (.int v3)]) dX9_movesOf_59 rfl (by decide) rfl rfl ?_
            refine x_iinc C (i := 3) (y := v3 + 1) (lo' := [some (.ref v0), some (.int v1), some (.int y10), some (.int (v3 + 1))]) dX9_movesOf_60 rfl rfl (by decide) rfl rfl ?_
            refine x_goto C (tgt := 4) dX9_movesOf_63 (by decide) ?_
            refine x_wk [true, true, true, true] (lo' := [some (.ref v0), some (.int v1), some (.int y10), some (.int (v3 + 1))]) rfl ?_
            exact ih y10 (v3 + 1) h
set_option maxHeartbeats 4000000 in
set_option maxRecDepth 100000 in
theorem ct_X9_movesOf {l : Launch} {D : va_G} {cy : Nat → Nat} {N : Nat} {σ : Hp} {t0 : Nat} {p1 : Int32} {r : Int32} (h : m_X9_movesOf N σ t0 p1 = some r) : Ct l D cy yX9_movesOf cX9_movesOf 4 (some .int) 3 [.ref t0, .int p1] N σ (fun v s' => v = (some (.int r)) ∧ s' = σ) := by
  refine Ct.intro [some (.ref t0), some (.int p1), none, none] (by decide) rfl (Nat.le_of_ble_eq_true rfl) ?_
  intro κ ω e1 e2 e3 e4 C Z E
  subst e1; subst e2; subst e3; subst e4
  have C : Cx κ 4 3 cX9_movesOf RX9 "movesOf" := C
  have hE : ∀ x : Int32, r = x → ((some (Value.int x)) = (some (Value.int r)) ∧ σ = σ) := fun x hx => by subst hx; exact ⟨rfl, rfl⟩
  unfold m_X9_movesOf at h
  obtain ⟨_, _, h⟩ := ob h
  refine x_iconst C (v := 0) dX9_movesOf_0 (by decide) ?_
  refine x_istore_n C (i := 2) (lo' := [some (.ref t0), some (.int p1), some (.int 0), none]) dX9_movesOf_1 rfl (by decide) rfl rfl ?_
  refine x_iconst C (v := 0) dX9_movesOf_2 (by decide) ?_
  refine x_istore_n C (i := 3) (lo' := [some (.ref t0), some (.int p1), some (.int 0), some (.int 0)]) dX9_movesOf_3 rfl (by decide) rfl rfl ?_
  obtain ⟨z11, ez11, h⟩ := ob h
  refine x_wk [true, true, true, true] (lo' := [some (.ref t0), some (.int p1), some (.int 0), some (.int 0)]) rfl ?_
  refine lp_X9_movesOf_4 C Z σ t0 p1 ?_ _ 0 0 ez11
  refine x_iload_n C (i := 2) dX9_movesOf_66 rfl rfl ?_
  exact x_iret C E dX9_movesOf_67 (hE z11 (Option.some.inj h).symm)
theorem dX9_can_0 : decode cX9_can 0 = .ok (.aload_n 0, 1) := by decide +kernel
theorem dX9_can_1 : decode cX9_can 1 = .ok (.invokevirtual 183, 3) := by decide +kernel
theorem dX9_can_4 : decode cX9_can 4 = .ok (.ifCond .ne 6, 3) := by decide +kernel
theorem dX9_can_7 : decode cX9_can 7 = .ok (.ldc 176, 2) := by decide +kernel
theorem dX9_can_9 : decode cX9_can 9 = .ok (.ireturn, 1) := by decide +kernel
theorem dX9_can_10 : decode cX9_can 10 = .ok (.aload_n 0, 1) := by decide +kernel
theorem dX9_can_11 : decode cX9_can 11 = .ok (.invokevirtual 166, 3) := by decide +kernel
theorem dX9_can_14 : decode cX9_can 14 = .ok (.aload_n 0, 1) := by decide +kernel
theorem dX9_can_15 : decode cX9_can 15 = .ok (.aload_n 0, 1) := by decide +kernel
theorem dX9_can_16 : decode cX9_can 16 = .ok (.invokevirtual 169, 3) := by decide +kernel
theorem dX9_can_19 : decode cX9_can 19 = .ok (.invokevirtual 190, 3) := by decide +kernel
theorem dX9_can_22 : decode cX9_can 22 = .ok (.ireturn, 1) := by decide +kernel
def m_X9_can (N : Nat) (σ : Hp) (t0 : Nat) : Option (Int32 × Hp) :=
  (rv N σ t0 9).bind fun _ =>
  (m_X9_isBoard N σ t0).bind fun r1 =>
  if r1 = 0 then
   some ((-1000002), σ)
  else
   (m_X9_asTold N σ t0).bind fun r3 =>
  (m_X9_state N r3 t0).bind fun r4 =>
  (m_X9_movesOf N r3 t0 r4).bind fun r5 =>
  some (r5, r3)
set_option maxHeartbeats 4000000 in
set_option maxRecDepth 100000 in
theorem ct_X9_can {l : Launch} {D : va_G} {cy : Nat → Nat} {N : Nat} {σ : Hp} {t0 : Nat} {r : Int32 × Hp} (h : m_X9_can N σ t0 = some r) : Ct l D cy yX9_can cX9_can 1 (some .int) 4 [.ref t0] N σ (fun v s' => v = (some (.int r.1)) ∧ s' = r.2) := by
  refine Ct.intro [some (.ref t0)] (by decide) rfl (Nat.le_of_ble_eq_true rfl) ?_
  intro κ ω e1 e2 e3 e4 C Z E
  subst e1; subst e2; subst e3; subst e4
  have C : Cx κ 1 4 cX9_can RX9 "can" := C
  have hE : ∀ x : Int32 × Hp, r = x → ((some (Value.int x.1)) = (some (Value.int r.1)) ∧ x.2 = r.2) := fun x hx => by subst hx; exact ⟨rfl, rfl⟩
  unfold m_X9_can at h
  obtain ⟨_, _, h⟩ := ob h
  refine x_aload_n C (i := 0) dX9_can_0 rfl rfl ?_
  obtain ⟨r1, er1, h⟩ := ob h
  refine x_callVr C Z mv_X9_isBoard lk_X9_183 (rv_h er1) (ct_X9_isBoard er1) (by decide) rfl rfl (Nat.le_of_ble_eq_true rfl) dX9_can_1 ?_
  refine x_if_ne C (tgt := 10) dX9_can_4 (by decide) (fun c2 => ?_) (fun c2 => ?_)
  · have h := ifN h c2
    refine x_aload_n C (i := 0) dX9_can_10 rfl rfl ?_
    obtain ⟨r3, er3, h⟩ := ob h
    refine x_callVn C Z mv_X9_asTold lk_X9_166 (rv_h er3) (ct_X9_asTold er3) (by decide) rfl rfl (Nat.le_of_ble_eq_true rfl) dX9_can_11 ?_
    refine x_aload_n C (i := 0) dX9_can_14 rfl rfl ?_
    refine x_aload_n C (i := 0) dX9_can_15 rfl rfl ?_
    obtain ⟨r4, er4, h⟩ := ob h
    refine x_callVr C Z mv_X9_state lk_X9_169 (rv_h er4) (ct_X9_state er4) (by decide) rfl rfl (Nat.le_of_ble_eq_true rfl) dX9_can_16 ?_
    obtain ⟨r5, er5, h⟩ := ob h
    refine x_callVr C Z mv_X9_movesOf lk_X9_190 (rv_h er5) (ct_X9_movesOf er5) (by decide) rfl rfl (Nat.le_of_ble_eq_true rfl) dX9_can_19 ?_
    exact x_iret C E dX9_can_22 (hE (r5, r3) (Option.some.inj h).symm)
  · have h := ifP h c2
    refine x_ldc C kc_X9_176 dX9_can_7 ?_
    exact x_iret C E dX9_can_9 (hE ((-1000002), σ) (Option.some.inj h).symm)
theorem dX9_behind_0 : decode cX9_behind 0 = .ok (.iload_n 1, 1) := by decide +kernel
theorem dX9_behind_1 : decode cX9_behind 1 = .ok (.aload_n 0, 1) := by decide +kernel
theorem dX9_behind_2 : decode cX9_behind 2 = .ok (.iload_n 1, 1) := by decide +kernel
theorem dX9_behind_3 : decode cX9_behind 3 = .ok (.iload_n 2, 1) := by decide +kernel
theorem dX9_behind_4 : decode cX9_behind 4 = .ok (.iconst 4, 1) := by decide +kernel
theorem dX9_behind_5 : decode cX9_behind 5 = .ok (.idiv, 1) := by decide +kernel
theorem dX9_behind_6 : decode cX9_behind 6 = .ok (.iload_n 2, 1) := by decide +kernel
theorem dX9_behind_7 : decode cX9_behind 7 = .ok (.iconst 4, 1) := by decide +kernel
theorem dX9_behind_8 : decode cX9_behind 8 = .ok (.irem, 1) := by decide +kernel
theorem dX9_behind_9 : decode cX9_behind 9 = .ok (.invokevirtual 173, 3) := by decide +kernel
theorem dX9_behind_12 : decode cX9_behind 12 = .ok (.iload_n 2, 1) := by decide +kernel
theorem dX9_behind_13 : decode cX9_behind 13 = .ok (.iconst 4, 1) := by decide +kernel
theorem dX9_behind_14 : decode cX9_behind 14 = .ok (.irem, 1) := by decide +kernel
theorem dX9_behind_15 : decode cX9_behind 15 = .ok (.invokestatic 193, 3) := by decide +kernel
theorem dX9_behind_18 : decode cX9_behind 18 = .ok (.ireturn, 1) := by decide +kernel
def m_X9_behind (N : Nat) (σ : Hp) (t0 : Nat) (p1 : Int32) (p2 : Int32) : Option (Int32) :=
  (rv N σ t0 9).bind fun _ =>
  (m_X9_mover N σ t0 p1 (p2 / 4) (p2 - p2 / 4 * 4)).bind fun r1 =>
  (m_X9_moved p1 r1 (p2 - p2 / 4 * 4)).bind fun r2 =>
  some r2
set_option maxHeartbeats 4000000 in
set_option maxRecDepth 100000 in
theorem ct_X9_behind {l : Launch} {D : va_G} {cy : Nat → Nat} {N : Nat} {σ : Hp} {t0 : Nat} {p1 : Int32} {p2 : Int32} {r : Int32} (h : m_X9_behind N σ t0 p1 p2 = some r) : Ct l D cy yX9_behind cX9_behind 3 (some .int) 3 [.ref t0, .int p1, .int p2] N σ (fun v s' => v = (some (.int r)) ∧ s' = σ) := by
  refine Ct.intro [some (.ref t0), some (.int p1), some (.int p2)] (by decide) rfl (Nat.le_of_ble_eq_true rfl) ?_
  intro κ ω e1 e2 e3 e4 C Z E
  subst e1; subst e2; subst e3; subst e4
  have C : Cx κ 3 3 cX9_behind RX9 "behind" := C
  have hE : ∀ x : Int32, r = x → ((some (Value.int x)) = (some (Value.int r)) ∧ σ = σ) := fun x hx => by subst hx; exact ⟨rfl, rfl⟩
  unfold m_X9_behind at h
  obtain ⟨_, _, h⟩ := ob h
  refine x_iload_n C (i := 1) dX9_behind_0 rfl rfl ?_
  refine x_aload_n C (i := 0) dX9_behind_1 rfl rfl ?_
  refine x_iload_n C (i := 1) dX9_behind_2 rfl rfl ?_
  refine x_iload_n C (i := 2) dX9_behind_3 rfl rfl ?_
  refine x_iconst C (v := 4) dX9_behind_4 (by decide) ?_
  refine x_idiv C dX9_behind_5 (by decide) ?_
  refine x_iload_n C (i := 2) dX9_behind_6 rfl rfl ?_
  refine x_iconst C (v := 4) dX9_behind_7 (by decide) ?_
  refine x_irem C dX9_behind_8 (by decide) ?_
  obtain ⟨r1, er1, h⟩ := ob h
  refine x_callVr C Z mv_X9_mover lk_X9_173 (rv_h er1) (ct_X9_mover er1) (by decide) rfl rfl (Nat.le_of_ble_eq_true rfl) dX9_behind_9 ?_
  refine x_iload_n C (i := 2) dX9_behind_12 rfl rfl ?_
  refine x_iconst C (v := 4) dX9_behind_13 (by decide) ?_
  refine x_irem C dX9_behind_14 (by decide) ?_
  obtain ⟨r2, er2, h⟩ := ob h
  refine x_callSr C Z ms_X9_moved lk_X9_193 (ct_X9_moved (N := ω.1) (σ := σ) er2) (by decide) rfl rfl (Nat.le_of_ble_eq_true rfl) dX9_behind_15 ?_
  exact x_iret C E dX9_behind_18 (hE r2 (Option.some.inj h).symm)
theorem dX9_spreads_0 : decode cX9_spreads 0 = .ok (.aload_n 0, 1) := by decide +kernel
theorem dX9_spreads_1 : decode cX9_spreads 1 = .ok (.invokevirtual 166, 3) := by decide +kernel
theorem dX9_spreads_4 : decode cX9_spreads 4 = .ok (.iconst 0, 1) := by decide +kernel
theorem dX9_spreads_5 : decode cX9_spreads 5 = .ok (.istore_n 1, 1) := by decide +kernel
theorem dX9_spreads_6 : decode cX9_spreads 6 = .ok (.iload_n 1, 1) := by decide +kernel
theorem dX9_spreads_7 : decode cX9_spreads 7 = .ok (.sipush 8192, 3) := by decide +kernel
theorem dX9_spreads_10 : decode cX9_spreads 10 = .ok (.if_icmp .ge 16, 3) := by decide +kernel
theorem dX9_spreads_13 : decode cX9_spreads 13 = .ok (.aload_n 0, 1) := by decide +kernel
theorem dX9_spreads_14 : decode cX9_spreads 14 = .ok (.getfield 30, 3) := by decide +kernel
theorem dX9_spreads_17 : decode cX9_spreads 17 = .ok (.iload_n 1, 1) := by decide +kernel
theorem dX9_spreads_18 : decode cX9_spreads 18 = .ok (.iconst (-1), 1) := by decide +kernel
theorem dX9_spreads_19 : decode cX9_spreads 19 = .ok (.iastore, 1) := by decide +kernel
theorem dX9_spreads_20 : decode cX9_spreads 20 = .ok (.iinc 1 1, 3) := by decide +kernel
theorem dX9_spreads_23 : decode cX9_spreads 23 = .ok (.goto (-17), 3) := by decide +kernel
theorem dX9_spreads_26 : decode cX9_spreads 26 = .ok (.aload_n 0, 1) := by decide +kernel
theorem dX9_spreads_27 : decode cX9_spreads 27 = .ok (.getfield 33, 3) := by decide +kernel
theorem dX9_spreads_30 : decode cX9_spreads 30 = .ok (.iconst 0, 1) := by decide +kernel
theorem dX9_spreads_31 : decode cX9_spreads 31 = .ok (.aload_n 0, 1) := by decide +kernel
theorem dX9_spreads_32 : decode cX9_spreads 32 = .ok (.invokevirtual 169, 3) := by decide +kernel
theorem dX9_spreads_35 : decode cX9_spreads 35 = .ok (.iastore, 1) := by decide +kernel
theorem dX9_spreads_36 : decode cX9_spreads 36 = .ok (.aload_n 0, 1) := by decide +kernel
theorem dX9_spreads_37 : decode cX9_spreads 37 = .ok (.getfield 30, 3) := by decide +kernel
theorem dX9_spreads_40 : decode cX9_spreads 40 = .ok (.aload_n 0, 1) := by decide +kernel
theorem dX9_spreads_41 : decode cX9_spreads 41 = .ok (.getfield 33, 3) := by decide +kernel
theorem dX9_spreads_44 : decode cX9_spreads 44 = .ok (.iconst 0, 1) := by decide +kernel
theorem dX9_spreads_45 : decode cX9_spreads 45 = .ok (.iaload, 1) := by decide +kernel
theorem dX9_spreads_46 : decode cX9_spreads 46 = .ok (.iconst 0, 1) := by decide +kernel
theorem dX9_spreads_47 : decode cX9_spreads 47 = .ok (.iastore, 1) := by decide +kernel
theorem dX9_spreads_48 : decode cX9_spreads 48 = .ok (.aload_n 0, 1) := by decide +kernel
theorem dX9_spreads_49 : decode cX9_spreads 49 = .ok (.iconst 1, 1) := by decide +kernel
theorem dX9_spreads_50 : decode cX9_spreads 50 = .ok (.putfield 196, 3) := by decide +kernel
theorem dX9_spreads_53 : decode cX9_spreads 53 = .ok (.iconst 0, 1) := by decide +kernel
theorem dX9_spreads_54 : decode cX9_spreads 54 = .ok (.istore_n 1, 1) := by decide +kernel
theorem dX9_spreads_55 : decode cX9_spreads 55 = .ok (.iload_n 1, 1) := by decide +kernel
theorem dX9_spreads_56 : decode cX9_spreads 56 = .ok (.aload_n 0, 1) := by decide +kernel
theorem dX9_spreads_57 : decode cX9_spreads 57 = .ok (.getfield 196, 3) := by decide +kernel
theorem dX9_spreads_60 : decode cX9_spreads 60 = .ok (.if_icmp .ge 108, 3) := by decide +kernel
theorem dX9_spreads_63 : decode cX9_spreads 63 = .ok (.aload_n 0, 1) := by decide +kernel
theorem dX9_spreads_64 : decode cX9_spreads 64 = .ok (.getfield 33, 3) := by decide +kernel
theorem dX9_spreads_67 : decode cX9_spreads 67 = .ok (.iload_n 1, 1) := by decide +kernel
theorem dX9_spreads_68 : decode cX9_spreads 68 = .ok (.iaload, 1) := by decide +kernel
theorem dX9_spreads_69 : decode cX9_spreads 69 = .ok (.istore_n 2, 1) := by decide +kernel
theorem dX9_spreads_70 : decode cX9_spreads 70 = .ok (.aload_n 0, 1) := by decide +kernel
theorem dX9_spreads_71 : decode cX9_spreads 71 = .ok (.iload_n 2, 1) := by decide +kernel
theorem dX9_spreads_72 : decode cX9_spreads 72 = .ok (.invokevirtual 190, 3) := by decide +kernel
theorem dX9_spreads_75 : decode cX9_spreads 75 = .ok (.istore_n 3, 1) := by decide +kernel
theorem dX9_spreads_76 : decode cX9_spreads 76 = .ok (.iconst 0, 1) := by decide +kernel
theorem dX9_spreads_77 : decode cX9_spreads 77 = .ok (.istore 4, 2) := by decide +kernel
theorem dX9_spreads_79 : decode cX9_spreads 79 = .ok (.iload 4, 2) := by decide +kernel
theorem dX9_spreads_81 : decode cX9_spreads 81 = .ok (.bipush 16, 2) := by decide +kernel
theorem dX9_spreads_83 : decode cX9_spreads 83 = .ok (.if_icmp .ge 79, 3) := by decide +kernel
theorem dX9_spreads_86 : decode cX9_spreads 86 = .ok (.iload_n 3, 1) := by decide +kernel
theorem dX9_spreads_87 : decode cX9_spreads 87 = .ok (.iload 4, 2) := by decide +kernel
theorem dX9_spreads_89 : decode cX9_spreads 89 = .ok (.invokestatic 138, 3) := by decide +kernel
theorem dX9_spreads_92 : decode cX9_spreads 92 = .ok (.ifCond .eq 64, 3) := by decide +kernel
theorem dX9_spreads_95 : decode cX9_spreads 95 = .ok (.aload_n 0, 1) := by decide +kernel
theorem dX9_spreads_96 : decode cX9_spreads 96 = .ok (.getfield 30, 3) := by decide +kernel
theorem dX9_spreads_99 : decode cX9_spreads 99 = .ok (.aload_n 0, 1) := by decide +kernel
theorem dX9_spreads_100 : decode cX9_spreads 100 = .ok (.iload_n 2, 1) := by decide +kernel
theorem dX9_spreads_101 : decode cX9_spreads 101 = .ok (.iload 4, 2) := by decide +kernel
theorem dX9_spreads_103 : decode cX9_spreads 103 = .ok (.invokevirtual 199, 3) := by decide +kernel
theorem dX9_spreads_106 : decode cX9_spreads 106 = .ok (.iaload, 1) := by decide +kernel
theorem dX9_spreads_107 : decode cX9_spreads 107 = .ok (.ifCond .ge 49, 3) := by decide +kernel
theorem dX9_spreads_110 : decode cX9_spreads 110 = .ok (.aload_n 0, 1) := by decide +kernel
theorem dX9_spreads_111 : decode cX9_spreads 111 = .ok (.getfield 30, 3) := by decide +kernel
theorem dX9_spreads_114 : decode cX9_spreads 114 = .ok (.aload_n 0, 1) := by decide +kernel
theorem dX9_spreads_115 : decode cX9_spreads 115 = .ok (.iload_n 2, 1) := by decide +kernel
theorem dX9_spreads_116 : decode cX9_spreads 116 = .ok (.iload 4, 2) := by decide +kernel
theorem dX9_spreads_118 : decode cX9_spreads 118 = .ok (.invokevirtual 199, 3) := by decide +kernel
theorem dX9_spreads_121 : decode cX9_spreads 121 = .ok (.aload_n 0, 1) := by decide +kernel
theorem dX9_spreads_122 : decode cX9_spreads 122 = .ok (.getfield 30, 3) := by decide +kernel
theorem dX9_spreads_125 : decode cX9_spreads 125 = .ok (.iload_n 2, 1) := by decide +kernel
theorem dX9_spreads_126 : decode cX9_spreads 126 = .ok (.iaload, 1) := by decide +kernel
theorem dX9_spreads_127 : decode cX9_spreads 127 = .ok (.iconst 1, 1) := by decide +kernel
theorem dX9_spreads_128 : decode cX9_spreads 128 = .ok (.iadd, 1) := by decide +kernel
theorem dX9_spreads_129 : decode cX9_spreads 129 = .ok (.iastore, 1) := by decide +kernel
theorem dX9_spreads_130 : decode cX9_spreads 130 = .ok (.aload_n 0, 1) := by decide +kernel
theorem dX9_spreads_131 : decode cX9_spreads 131 = .ok (.getfield 33, 3) := by decide +kernel
theorem dX9_spreads_134 : decode cX9_spreads 134 = .ok (.aload_n 0, 1) := by decide +kernel
theorem dX9_spreads_135 : decode cX9_spreads 135 = .ok (.getfield 196, 3) := by decide +kernel
theorem dX9_spreads_138 : decode cX9_spreads 138 = .ok (.aload_n 0, 1) := by decide +kernel
theorem dX9_spreads_139 : decode cX9_spreads 139 = .ok (.iload_n 2, 1) := by decide +kernel
theorem dX9_spreads_140 : decode cX9_spreads 140 = .ok (.iload 4, 2) := by decide +kernel
theorem dX9_spreads_142 : decode cX9_spreads 142 = .ok (.invokevirtual 199, 3) := by decide +kernel
theorem dX9_spreads_145 : decode cX9_spreads 145 = .ok (.iastore, 1) := by decide +kernel
theorem dX9_spreads_146 : decode cX9_spreads 146 = .ok (.aload_n 0, 1) := by decide +kernel
theorem dX9_spreads_147 : decode cX9_spreads 147 = .ok (.dup, 1) := by decide +kernel
theorem dX9_spreads_148 : decode cX9_spreads 148 = .ok (.getfield 196, 3) := by decide +kernel
theorem dX9_spreads_151 : decode cX9_spreads 151 = .ok (.iconst 1, 1) := by decide +kernel
theorem dX9_spreads_152 : decode cX9_spreads 152 = .ok (.iadd, 1) := by decide +kernel
theorem dX9_spreads_153 : decode cX9_spreads 153 = .ok (.putfield 196, 3) := by decide +kernel
theorem dX9_spreads_156 : decode cX9_spreads 156 = .ok (.iinc 4 1, 3) := by decide +kernel
theorem dX9_spreads_159 : decode cX9_spreads 159 = .ok (.goto (-80), 3) := by decide +kernel
theorem dX9_spreads_162 : decode cX9_spreads 162 = .ok (.iinc 1 1, 3) := by decide +kernel
theorem dX9_spreads_165 : decode cX9_spreads 165 = .ok (.goto (-110), 3) := by decide +kernel
theorem dX9_spreads_168 : decode cX9_spreads 168 = .ok (.return_, 1) := by decide +kernel
def L_X9_spreads_6 (N : Nat) (v0 : Nat) : Nat → Hp → Int32 → Option (Hp)
  | 0, _, _ => none
  | n + 1, σ, v1 =>
  if 8192 ≤ v1 then
   some σ
  else
   (gR N σ v0 9 13).bind fun x3 =>
  (sI 0 N σ x3 v1 (-1)).bind fun σ4 =>
  L_X9_spreads_6 N v0 n σ4 (v1 + 1)
def L_X9_spreads_79 (N : Nat) (v0 : Nat) (v1 : Int32) (v2 : Int32) (v3 : Int32) : Nat → Hp → Int32 → Option (Hp)
  | 0, _, _ => none
  | n + 1, σ, v4 =>
  if 16 ≤ v4 then
   some σ
  else
   (m_X9_has v3 v4).bind fun r20 =>
  if r20 = 0 then
   L_X9_spreads_79 N v0 v1 v2 v3 n σ (v4 + 1)
  else
   (gR N σ v0 9 13).bind fun x22 =>
  (m_X9_behind N σ v0 v2 v4).bind fun r23 =>
  (aI 0 N σ x22 r23).bind fun x24 =>
  if 0 ≤ x24 then
   L_X9_spreads_79 N v0 v1 v2 v3 n σ (v4 + 1)
  else
   (gR N σ v0 9 13).bind fun x26 =>
  (m_X9_behind N σ v0 v2 v4).bind fun r27 =>
  (gR N σ v0 9 13).bind fun x28 =>
  (aI 0 N σ x28 v2).bind fun x29 =>
  (sI 0 N σ x26 r27 (x29 + 1)).bind fun σ30 =>
  (gR N σ30 v0 9 14).bind fun x31 =>
  (gI N σ30 v0 9 16).bind fun x32 =>
  (m_X9_behind N σ30 v0 v2 v4).bind fun r33 =>
  (sI 0 N σ30 x31 x32 r33).bind fun σ34 =>
  (gI N σ34 v0 9 16).bind fun x35 =>
  (pV N σ34 v0 9 16 (.int (x35 + 1))).bind fun σ36 =>
  L_X9_spreads_79 N v0 v1 v2 v3 n σ36 (v4 + 1)
def L_X9_spreads_55 (N : Nat) (v0 : Nat) : Nat → Hp → Int32 → Option (Hp)
  | 0, _, _ => none
  | n + 1, σ, v1 =>
  (gI N σ v0 9 16).bind fun x14 =>
  if x14 ≤ v1 then
   some σ
  else
   (gR N σ v0 9 14).bind fun x16 =>
  (aI 0 N σ x16 v1).bind fun x17 =>
  (m_X9_movesOf N σ v0 x17).bind fun r18 =>
  (L_X9_spreads_79 N v0 v1 x17 r18 fu σ 0).bind fun z37 =>
  L_X9_spreads_55 N v0 n z37 (v1 + 1)
def m_X9_spreads (N : Nat) (σ : Hp) (t0 : Nat) : Option (Hp) :=
  (rv N σ t0 9).bind fun _ =>
  (m_X9_asTold N σ t0).bind fun r1 =>
  (L_X9_spreads_6 N t0 fu r1 0).bind fun z5 =>
  (gR N z5 t0 9 14).bind fun x6 =>
  (m_X9_state N z5 t0).bind fun r7 =>
  (sI 0 N z5 x6 0 r7).bind fun σ8 =>
  (gR N σ8 t0 9 13).bind fun x9 =>
  (gR N σ8 t0 9 14).bind fun x10 =>
  (aI 0 N σ8 x10 0).bind fun x11 =>
  (sI 0 N σ8 x9 x11 0).bind fun σ12 =>
  (pV N σ12 t0 9 16 (.int 1)).bind fun σ13 =>
  (L_X9_spreads_55 N t0 fu σ13 0).bind fun z38 =>
  some z38
set_option maxHeartbeats 4000000 in
set_option maxRecDepth 100000 in
theorem lp_X9_spreads_6 {κ : Kx} {ω : Om} (C : Cx κ 5 4 cX9_spreads RX9 "spreads") (Z : Zx κ ω) (v0 : Nat) {r : Hp} (hk : X κ 5 ω 26 [some (.ref v0), none, none, none, none] [] r) : ∀ (n : Nat) (σ : Hp) (v1 : Int32), L_X9_spreads_6 ω.1 v0 n σ v1 = some r → X κ 5 ω 6 [some (.ref v0), some (.int v1), none, none, none] [] σ := by
  intro n
  induction n with
  | zero => intro σ v1 h; cases h
  | succ n ih =>
    intro σ v1 h
    rw [L_X9_spreads_6.eq_2] at h
    refine x_iload_n C (i := 1) dX9_spreads_6 rfl rfl ?_
    refine x_sipush C (v := 8192) dX9_spreads_7 (by decide) ?_
    refine x_icmp_ge C (tgt := 26) dX9_spreads_10 (by decide) (fun c2 => ?_) (fun c2 => ?_)
    · have h := ifP h c2
      refine x_wk [true, false, false, false, false] (lo' := [some (.ref v0), none, none, none, none]) rfl ?_
      obtain rfl := Option.some.inj h
      exact hk
    · have h := ifN h c2
      refine x_aload_n C (i := 0) dX9_spreads_13 rfl rfl ?_
      obtain ⟨x3, ex3, h⟩ := ob h
      refine x_getR C fl_X9_30 dX9_spreads_14 ex3 ?_
      refine x_iload_n C (i := 1) dX9_spreads_17 rfl rfl ?_
      refine x_iconst C (v := (-1)) dX9_spreads_18 (by decide) ?_
      obtain ⟨σ4, eσ4, h⟩ := ob h
      refine x_iast C dX9_spreads_19 eσ4 ?_
      refine x_iinc C (i := 1) (y := v1 + 1) (lo' := [some (.ref v0), some (.int (v1 + 1)), none, none, none]) dX9_spreads_20 rfl rfl (by decide) rfl rfl ?_
      refine x_goto C (tgt := 6) dX9_spreads_23 (by decide) ?_
      refine x_wk [true, true, false, false, false] (lo' := [some (.ref v0), some (.int (v1 + 1)), none, none, none]) rfl ?_
      exact ih σ4 (v1 + 1) h
set_option maxHeartbeats 4000000 in
set_option maxRecDepth 100000 in
theorem lp_X9_spreads_79 {κ : Kx} {ω : Om} (C : Cx κ 5 4 cX9_spreads RX9 "spreads") (Z : Zx κ ω) (v0 : Nat) (v1 : Int32) (v2 : Int32) (v3 : Int32) {r : Hp} (hk : X κ 5 ω 162 [some (.ref v0), some (.int v1), none, none, none] [] r) : ∀ (n : Nat) (σ : Hp) (v4 : Int32), L_X9_spreads_79 ω.1 v0 v1 v2 v3 n σ v4 = some r → X κ 5 ω 79 [some (.ref v0), some (.int v1), some (.int v2), some (.int v3), some (.int v4)] [] σ := by
  intro n
  induction n with
  | zero => intro σ v4 h; cases h
  | succ n ih =>
    intro σ v4 h
    rw [L_X9_spreads_79.eq_2] at h
    refine x_iload C (i := 4) dX9_spreads_79 rfl ?_
    refine x_bipush C (v := 16) dX9_spreads_81 (by decide) ?_
    refine x_icmp_ge C (tgt := 162) dX9_spreads_83 (by decide) (fun c19 => ?_) (fun c19 => ?_)
    · have h := ifP h c19
      refine x_wk [true, true, false, false, false] (lo' := [some (.ref v0), some (.int v1), none, none, none]) rfl ?_
      obtain rfl := Option.some.inj h
      exact hk
    · have h := ifN h c19
      refine x_iload_n C (i := 3) dX9_spreads_86 rfl rfl ?_
      refine x_iload C (i := 4) dX9_spreads_87 rfl ?_
      obtain ⟨r20, er20, h⟩ := ob h
      refine x_callSr C Z ms_X9_has lk_X9_138 (ct_X9_has (N := ω.1) (σ := σ) er20) (by decide) rfl rfl (Nat.le_of_ble_eq_true rfl) dX9_spreads_89 ?_
      refine x_if_eq C (tgt := 156) dX9_spreads_92 (by decide) (fun c21 => ?_) (fun c21 => ?_)
      · have h := ifP h c21
        refine x_iinc C (i := 4) (y := v4 + 1) (lo' := [some (.ref v0), some (.int v1), some (.int v2), some (.int v3), some (.int (v4 + 1))]) dX9_spreads_156 rfl rfl (by decide) rfl rfl ?_
        refine x_goto C (tgt := 79) dX9_spreads_159 (by decide) ?_
        refine x_wk [true, true, true, true, true] (lo' := [some (.ref v0), some (.int v1), some (.int v2), some (.int v3), some (.int (v4 + 1))]) rfl ?_
        exact ih σ (v4 + 1) h
      · have h := ifN h c21
        refine x_aload_n C (i := 0) dX9_spreads_95 rfl rfl ?_
        obtain ⟨x22, ex22, h⟩ := ob h
        refine x_getR C fl_X9_30 dX9_spreads_96 ex22 ?_
        refine x_aload_n C (i := 0) dX9_spreads_99 rfl rfl ?_
        refine x_iload_n C (i := 2) dX9_spreads_100 rfl rfl ?_
        refine x_iload C (i := 4) dX9_spreads_101 rfl ?_
        obtain ⟨r23, er23, h⟩ := ob h
        refine x_callVr C Z mv_X9_behind lk_X9_199 (rv_h er23) (ct_X9_behind er23) (by decide) rfl rfl (Nat.le_of_ble_eq_true rfl) dX9_spreads_103 ?_
        obtain ⟨x24, ex24, h⟩ := ob h
        refine x_iald C dX9_spreads_106 ex24 ?_
        refine x_if_ge C (tgt := 156) dX9_spreads_107 (by decide) (fun c25 => ?_) (fun c25 => ?_)
        · have h := ifP h c25
          refine x_iinc C (i := 4) (y := v4 + 1) (lo' := [some (.ref v0), some (.int v1), some (.int v2), some (.int v3), some (.int (v4 + 1))]) dX9_spreads_156 rfl rfl (by decide) rfl rfl ?_
          refine x_goto C (tgt := 79) dX9_spreads_159 (by decide) ?_
          refine x_wk [true, true, true, true, true] (lo' := [some (.ref v0), some (.int v1), some (.int v2), some (.int v3), some (.int (v4 + 1))]) rfl ?_
          exact ih σ (v4 + 1) h
        · have h := ifN h c25
          refine x_aload_n C (i := 0) dX9_spreads_110 rfl rfl ?_
          obtain ⟨x26, ex26, h⟩ := ob h
          refine x_getR C fl_X9_30 dX9_spreads_111 ex26 ?_
          refine x_aload_n C (i := 0) dX9_spreads_114 rfl rfl ?_
          refine x_iload_n C (i := 2) dX9_spreads_115 rfl rfl ?_
          refine x_iload C (i := 4) dX9_spreads_116 rfl ?_
          obtain ⟨r27, er27, h⟩ := ob h
          refine x_callVr C Z mv_X9_behind lk_X9_199 (rv_h er27) (ct_X9_behind er27) (by decide) rfl rfl (Nat.le_of_ble_eq_true rfl) dX9_spreads_118 ?_
          refine x_aload_n C (i := 0) dX9_spreads_121 rfl rfl ?_
          obtain ⟨x28, ex28, h⟩ := ob h
          refine x_getR C fl_X9_30 dX9_spreads_122 ex28 ?_
          refine x_iload_n C (i := 2) dX9_spreads_125 rfl rfl ?_
          obtain ⟨x29, ex29, h⟩ := ob h
          refine x_iald C dX9_spreads_126 ex29 ?_
          refine x_iconst C (v := 1) dX9_spreads_127 (by decide) ?_
          refine x_iadd C dX9_spreads_128 ?_
          obtain ⟨σ30, eσ30, h⟩ := ob h
          refine x_iast C dX9_spreads_129 eσ30 ?_
          refine x_aload_n C (i := 0) dX9_spreads_130 rfl rfl ?_
          obtain ⟨x31, ex31, h⟩ := ob h
          refine x_getR C fl_X9_33 dX9_spreads_131 ex31 ?_
          refine x_aload_n C (i := 0) dX9_spreads_134 rfl rfl ?_
          obtain ⟨x32, ex32, h⟩ := ob h
          refine x_getI C fl_X9_196 dX9_spreads_135 ex32 ?_
          refine x_aload_n C (i := 0) dX9_spreads_138 rfl rfl ?_
          refine x_iload_n C (i := 2) dX9_spreads_139 rfl rfl ?_
          refine x_iload C (i := 4) dX9_spreads_140 rfl ?_
          obtain ⟨r33, er33, h⟩ := ob h
          refine x_callVr C Z mv_X9_behind lk_X9_199 (rv_h er33) (ct_X9_behind er33) (by decide) rfl rfl (Nat.le_of_ble_eq_true rfl) dX9_spreads_142 ?_
          obtain ⟨σ34, eσ34, h⟩ := ob h
          refine x_iast C dX9_spreads_145 eσ34 ?_
          refine x_aload_n C (i := 0) dX9_spreads_146 rfl rfl ?_
          refine x_dup C dX9_spreads_147 rfl ?_
          obtain ⟨x35, ex35, h⟩ := ob h
          refine x_getI C fl_X9_196 dX9_spreads_148 ex35 ?_
          refine x_iconst C (v := 1) dX9_spreads_151 (by decide) ?_
          refine x_iadd C dX9_spreads_152 ?_
          obtain ⟨σ36, eσ36, h⟩ := ob h
          refine x_put C pl_X9_196 dX9_spreads_153 (fun _ => ⟨rfl, rfl⟩) eσ36 ?_
          refine x_iinc C (i := 4) (y := v4 + 1) (lo' := [some (.ref v0), some (.int v1), some (.int v2), some (.int v3), some (.int (v4 + 1))]) dX9_spreads_156 rfl rfl (by decide) rfl rfl ?_
          refine x_goto C (tgt := 79) dX9_spreads_159 (by decide) ?_
          refine x_wk [true, true, true, true, true] (lo' := [some (.ref v0), some (.int v1), some (.int v2), some (.int v3), some (.int (v4 + 1))]) rfl ?_
          exact ih σ36 (v4 + 1) h
set_option maxHeartbeats 4000000 in
set_option maxRecDepth 100000 in
theorem lp_X9_spreads_55 {κ : Kx} {ω : Om} (C : Cx κ 5 4 cX9_spreads RX9 "spreads") (Z : Zx κ ω) (v0 : Nat) {r : Hp} (hk : X κ 5 ω 168 [none, none, none, none, none] [] r) : ∀ (n : Nat) (σ : Hp) (v1 : Int32), L_X9_spreads_55 ω.1 v0 n σ v1 = some r → X κ 5 ω 55 [some (.ref v0), some (.int v1), none, none, none] [] σ := by
  intro n
  induction n with
  | zero => intro σ v1 h; cases h
  | succ n ih =>
    intro σ v1 h
    rw [L_X9_spreads_55.eq_2] at h
    refine x_iload_n C (i := 1) dX9_spreads_55 rfl rfl ?_
    refine x_aload_n C (i := 0) dX9_spreads_56 rfl rfl ?_
    obtain ⟨x14, ex14, h⟩ := ob h
    refine x_getI C fl_X9_196 dX9_spreads_57 ex14 ?_
    refine x_icmp_ge C (tgt := 168) dX9_spreads_60 (by decide) (fun c15 => ?_) (fun c15 => ?_)
    · have h := ifP h c15
      refine x_wk [false, false, false, false, false] (lo' := [none, none, none, none, none]) rfl ?_
      obtain rfl := Option.some.inj h
      exact hk
    · have h := ifN h c15
      refine x_aload_n C (i := 0) dX9_spreads_63 rfl rfl ?_
      obtain ⟨x16, ex16, h⟩ := ob h
      refine x_getR C fl_X9_33 dX9_spreads_64 ex16 ?_
      refine x_iload_n C (i := 1) dX9_spreads_67 rfl rfl ?_
      obtain ⟨x17, ex17, h⟩ := ob h
      refine x_iald C dX9_spreads_68 ex17 ?_
      refine x_istore_n C (i := 2) (lo' := [some (.ref v0), some (.int v1), some (.int x17), none, none]) dX9_spreads_69 rfl (by decide) rfl rfl ?_
      refine x_aload_n C (i := 0) dX9_spreads_70 rfl rfl ?_
      refine x_iload_n C (i := 2) dX9_spreads_71 rfl rfl ?_
      obtain ⟨r18, er18, h⟩ := ob h
      refine x_callVr C Z mv_X9_movesOf lk_X9_190 (rv_h er18) (ct_X9_movesOf er18) (by decide) rfl rfl (Nat.le_of_ble_eq_true rfl) dX9_spreads_72 ?_
      refine x_istore_n C (i := 3) (lo' := [some (.ref v0), some (.int v1), some (.int x17), some (.int r18), none]) dX9_spreads_75 rfl (by decide) rfl rfl ?_
      refine x_iconst C (v := 0) dX9_spreads_76 (by decide) ?_
      refine x_istore C (i := 4) (lo' := [some (.ref v0), some (.int v1), some (.int x17), some (.int r18), some (.int 0)]) dX9_spreads_77 (by decide) rfl rfl ?_
      obtain ⟨z37, ez37, h⟩ := ob h
      refine x_wk [true, true, true, true, true] (lo' := [some (.ref v0), some (.int v1), some (.int x17), some (.int r18), some (.int 0)]) rfl ?_
      refine lp_X9_spreads_79 C Z v0 v1 x17 r18 ?_ _ σ 0 ez37
      refine x_iinc C (i := 1) (y := v1 + 1) (lo' := [some (.ref v0), some (.int (v1 + 1)), none, none, none]) dX9_spreads_162 rfl rfl (by decide) rfl rfl ?_
      refine x_goto C (tgt := 55) dX9_spreads_165 (by decide) ?_
      refine x_wk [true, true, false, false, false] (lo' := [some (.ref v0), some (.int (v1 + 1)), none, none, none]) rfl ?_
      exact ih z37 (v1 + 1) h
set_option maxHeartbeats 4000000 in
set_option maxRecDepth 100000 in
theorem ct_X9_spreads {l : Launch} {D : va_G} {cy : Nat → Nat} {N : Nat} {σ : Hp} {t0 : Nat} {r : Hp} (h : m_X9_spreads N σ t0 = some r) : Ct l D cy yX9_spreads cX9_spreads 5 none 4 [.ref t0] N σ (fun v s' => v = none ∧ s' = r) := by
  refine Ct.intro [some (.ref t0), none, none, none, none] (by decide) rfl (Nat.le_of_ble_eq_true rfl) ?_
  intro κ ω e1 e2 e3 e4 C Z E
  subst e1; subst e2; subst e3; subst e4
  have C : Cx κ 5 4 cX9_spreads RX9 "spreads" := C
  have hE : ∀ x : Hp, r = x → ((none : Option Value) = none ∧ x = r) := fun x hx => by subst hx; exact ⟨rfl, rfl⟩
  unfold m_X9_spreads at h
  obtain ⟨_, _, h⟩ := ob h
  refine x_aload_n C (i := 0) dX9_spreads_0 rfl rfl ?_
  obtain ⟨r1, er1, h⟩ := ob h
  refine x_callVn C Z mv_X9_asTold lk_X9_166 (rv_h er1) (ct_X9_asTold er1) (by decide) rfl rfl (Nat.le_of_ble_eq_true rfl) dX9_spreads_1 ?_
  refine x_iconst C (v := 0) dX9_spreads_4 (by decide) ?_
  refine x_istore_n C (i := 1) (lo' := [some (.ref t0), some (.int 0), none, none, none]) dX9_spreads_5 rfl (by decide) rfl rfl ?_
  obtain ⟨z5, ez5, h⟩ := ob h
  refine x_wk [true, true, false, false, false] (lo' := [some (.ref t0), some (.int 0), none, none, none]) rfl ?_
  refine lp_X9_spreads_6 C Z t0 ?_ _ r1 0 ez5
  refine x_aload_n C (i := 0) dX9_spreads_26 rfl rfl ?_
  obtain ⟨x6, ex6, h⟩ := ob h
  refine x_getR C fl_X9_33 dX9_spreads_27 ex6 ?_
  refine x_iconst C (v := 0) dX9_spreads_30 (by decide) ?_
  refine x_aload_n C (i := 0) dX9_spreads_31 rfl rfl ?_
  obtain ⟨r7, er7, h⟩ := ob h
  refine x_callVr C Z mv_X9_state lk_X9_169 (rv_h er7) (ct_X9_state er7) (by decide) rfl rfl (Nat.le_of_ble_eq_true rfl) dX9_spreads_32 ?_
  obtain ⟨σ8, eσ8, h⟩ := ob h
  refine x_iast C dX9_spreads_35 eσ8 ?_
  refine x_aload_n C (i := 0) dX9_spreads_36 rfl rfl ?_
  obtain ⟨x9, ex9, h⟩ := ob h
  refine x_getR C fl_X9_30 dX9_spreads_37 ex9 ?_
  refine x_aload_n C (i := 0) dX9_spreads_40 rfl rfl ?_
  obtain ⟨x10, ex10, h⟩ := ob h
  refine x_getR C fl_X9_33 dX9_spreads_41 ex10 ?_
  refine x_iconst C (v := 0) dX9_spreads_44 (by decide) ?_
  obtain ⟨x11, ex11, h⟩ := ob h
  refine x_iald C dX9_spreads_45 ex11 ?_
  refine x_iconst C (v := 0) dX9_spreads_46 (by decide) ?_
  obtain ⟨σ12, eσ12, h⟩ := ob h
  refine x_iast C dX9_spreads_47 eσ12 ?_
  refine x_aload_n C (i := 0) dX9_spreads_48 rfl rfl ?_
  refine x_iconst C (v := 1) dX9_spreads_49 (by decide) ?_
  obtain ⟨σ13, eσ13, h⟩ := ob h
  refine x_put C pl_X9_196 dX9_spreads_50 (fun _ => ⟨rfl, rfl⟩) eσ13 ?_
  refine x_iconst C (v := 0) dX9_spreads_53 (by decide) ?_
  refine x_istore_n C (i := 1) (lo' := [some (.ref t0), some (.int 0), none, none, none]) dX9_spreads_54 rfl (by decide) rfl rfl ?_
  obtain ⟨z38, ez38, h⟩ := ob h
  refine x_wk [true, true, false, false, false] (lo' := [some (.ref t0), some (.int 0), none, none, none]) rfl ?_
  refine lp_X9_spreads_55 C Z t0 ?_ _ σ13 0 ez38
  exact x_vret C E dX9_spreads_168 (hE z38 (Option.some.inj h).symm)
theorem dX9_farTo_0 : decode cX9_farTo 0 = .ok (.aload_n 0, 1) := by decide +kernel
theorem dX9_farTo_1 : decode cX9_farTo 1 = .ok (.getfield 30, 3) := by decide +kernel
theorem dX9_farTo_4 : decode cX9_farTo 4 = .ok (.iload_n 1, 1) := by decide +kernel
theorem dX9_farTo_5 : decode cX9_farTo 5 = .ok (.sipush 4096, 3) := by decide +kernel
theorem dX9_farTo_8 : decode cX9_farTo 8 = .ok (.irem, 1) := by decide +kernel
theorem dX9_farTo_9 : decode cX9_farTo 9 = .ok (.iaload, 1) := by decide +kernel
theorem dX9_farTo_10 : decode cX9_farTo 10 = .ok (.istore_n 2, 1) := by decide +kernel
theorem dX9_farTo_11 : decode cX9_farTo 11 = .ok (.aload_n 0, 1) := by decide +kernel
theorem dX9_farTo_12 : decode cX9_farTo 12 = .ok (.getfield 30, 3) := by decide +kernel
theorem dX9_farTo_15 : decode cX9_farTo 15 = .ok (.iload_n 1, 1) := by decide +kernel
theorem dX9_farTo_16 : decode cX9_farTo 16 = .ok (.sipush 4096, 3) := by decide +kernel
theorem dX9_farTo_19 : decode cX9_farTo 19 = .ok (.irem, 1) := by decide +kernel
theorem dX9_farTo_20 : decode cX9_farTo 20 = .ok (.sipush 4096, 3) := by decide +kernel
theorem dX9_farTo_23 : decode cX9_farTo 23 = .ok (.iadd, 1) := by decide +kernel
theorem dX9_farTo_24 : decode cX9_farTo 24 = .ok (.iaload, 1) := by decide +kernel
theorem dX9_farTo_25 : decode cX9_farTo 25 = .ok (.istore_n 3, 1) := by decide +kernel
theorem dX9_farTo_26 : decode cX9_farTo 26 = .ok (.iload_n 2, 1) := by decide +kernel
theorem dX9_farTo_27 : decode cX9_farTo 27 = .ok (.ifCond .ge 7, 3) := by decide +kernel
theorem dX9_farTo_30 : decode cX9_farTo 30 = .ok (.iload_n 3, 1) := by decide +kernel
theorem dX9_farTo_31 : decode cX9_farTo 31 = .ok (.goto 16, 3) := by decide +kernel
theorem dX9_farTo_34 : decode cX9_farTo 34 = .ok (.iload_n 3, 1) := by decide +kernel
theorem dX9_farTo_35 : decode cX9_farTo 35 = .ok (.ifCond .ge 7, 3) := by decide +kernel
theorem dX9_farTo_38 : decode cX9_farTo 38 = .ok (.iload_n 2, 1) := by decide +kernel
theorem dX9_farTo_39 : decode cX9_farTo 39 = .ok (.goto 8, 3) := by decide +kernel
theorem dX9_farTo_42 : decode cX9_farTo 42 = .ok (.iload_n 2, 1) := by decide +kernel
theorem dX9_farTo_43 : decode cX9_farTo 43 = .ok (.iload_n 3, 1) := by decide +kernel
theorem dX9_farTo_44 : decode cX9_farTo 44 = .ok (.invokestatic 122, 3) := by decide +kernel
theorem dX9_farTo_47 : decode cX9_farTo 47 = .ok (.ireturn, 1) := by decide +kernel
def m_X9_farTo (N : Nat) (σ : Hp) (t0 : Nat) (p1 : Int32) : Option (Int32) :=
  (rv N σ t0 9).bind fun _ =>
  (gR N σ t0 9 13).bind fun x1 =>
  (aI 0 N σ x1 (p1 - p1 / 4096 * 4096)).bind fun x2 =>
  (gR N σ t0 9 13).bind fun x3 =>
  (aI 0 N σ x3 ((p1 - p1 / 4096 * 4096) + 4096)).bind fun x4 =>
  if 0 ≤ x2 then
   if 0 ≤ x4 then
   (m_X9_smaller x2 x4).bind fun r7 =>
  some r7
  else
   some x2
  else
   some x4
set_option maxHeartbeats 4000000 in
set_option maxRecDepth 100000 in
theorem ct_X9_farTo {l : Launch} {D : va_G} {cy : Nat → Nat} {N : Nat} {σ : Hp} {t0 : Nat} {p1 : Int32} {r : Int32} (h : m_X9_farTo N σ t0 p1 = some r) : Ct l D cy yX9_farTo cX9_farTo 4 (some .int) 1 [.ref t0, .int p1] N σ (fun v s' => v = (some (.int r)) ∧ s' = σ) := by
  refine Ct.intro [some (.ref t0), some (.int p1), none, none] (by decide) rfl (Nat.le_of_ble_eq_true rfl) ?_
  intro κ ω e1 e2 e3 e4 C Z E
  subst e1; subst e2; subst e3; subst e4
  have C : Cx κ 4 1 cX9_farTo RX9 "farTo" := C
  have hE : ∀ x : Int32, r = x → ((some (Value.int x)) = (some (Value.int r)) ∧ σ = σ) := fun x hx => by subst hx; exact ⟨rfl, rfl⟩
  unfold m_X9_farTo at h
  obtain ⟨_, _, h⟩ := ob h
  refine x_aload_n C (i := 0) dX9_farTo_0 rfl rfl ?_
  obtain ⟨x1, ex1, h⟩ := ob h
  refine x_getR C fl_X9_30 dX9_farTo_1 ex1 ?_
  refine x_iload_n C (i := 1) dX9_farTo_4 rfl rfl ?_
  refine x_sipush C (v := 4096) dX9_farTo_5 (by decide) ?_
  refine x_irem C dX9_farTo_8 (by decide) ?_
  obtain ⟨x2, ex2, h⟩ := ob h
  refine x_iald C dX9_farTo_9 ex2 ?_
  refine x_istore_n C (i := 2) (lo' := [some (.ref t0), some (.int p1), some (.int x2), none]) dX9_farTo_10 rfl (by decide) rfl rfl ?_
  refine x_aload_n C (i := 0) dX9_farTo_11 rfl rfl ?_
  obtain ⟨x3, ex3, h⟩ := ob h
  refine x_getR C fl_X9_30 dX9_farTo_12 ex3 ?_
  refine x_iload_n C (i := 1) dX9_farTo_15 rfl rfl ?_
  refine x_sipush C (v := 4096) dX9_farTo_16 (by decide) ?_
  refine x_irem C dX9_farTo_19 (by decide) ?_
  refine x_sipush C (v := 4096) dX9_farTo_20 (by decide) ?_
  refine x_iadd C dX9_farTo_23 ?_
  obtain ⟨x4, ex4, h⟩ := ob h
  refine x_iald C dX9_farTo_24 ex4 ?_
  refine x_istore_n C (i := 3) (lo' := [some (.ref t0), some (.int p1), some (.int x2), some (.int x4)]) dX9_farTo_25 rfl (by decide) rfl rfl ?_
  refine x_iload_n C (i := 2) dX9_farTo_26 rfl rfl ?_
  refine x_if_ge C (tgt := 34) dX9_farTo_27 (by decide) (fun c5 => ?_) (fun c5 => ?_)
  · have h := ifP h c5
    refine x_iload_n C (i := 3) dX9_farTo_34 rfl rfl ?_
    refine x_if_ge C (tgt := 42) dX9_farTo_35 (by decide) (fun c6 => ?_) (fun c6 => ?_)
    · have h := ifP h c6
      refine x_iload_n C (i := 2) dX9_farTo_42 rfl rfl ?_
      refine x_iload_n C (i := 3) dX9_farTo_43 rfl rfl ?_
      obtain ⟨r7, er7, h⟩ := ob h
      refine x_callSr C Z ms_X9_smaller lk_X9_122 (ct_X9_smaller (N := ω.1) (σ := σ) er7) (by decide) rfl rfl (Nat.le_of_ble_eq_true rfl) dX9_farTo_44 ?_
      exact x_iret C E dX9_farTo_47 (hE r7 (Option.some.inj h).symm)
    · have h := ifN h c6
      refine x_iload_n C (i := 2) dX9_farTo_38 rfl rfl ?_
      refine x_goto C (tgt := 47) dX9_farTo_39 (by decide) ?_
      exact x_iret C E dX9_farTo_47 (hE x2 (Option.some.inj h).symm)
  · have h := ifN h c5
    refine x_iload_n C (i := 3) dX9_farTo_30 rfl rfl ?_
    refine x_goto C (tgt := 47) dX9_farTo_31 (by decide) ?_
    exact x_iret C E dX9_farTo_47 (hE x4 (Option.some.inj h).symm)
