theorem dX8_high_0 : decode cX8_high 0 = .ok (.aload_n 0, 1) := by decide +kernel
theorem dX8_high_1 : decode cX8_high 1 = .ok (.getfield 25, 3) := by decide +kernel
theorem dX8_high_4 : decode cX8_high 4 = .ok (.invokevirtual 156, 3) := by decide +kernel
theorem dX8_high_7 : decode cX8_high 7 = .ok (.ifCond .eq 6, 3) := by decide +kernel
theorem dX8_high_10 : decode cX8_high 10 = .ok (.ldc 133, 2) := by decide +kernel
theorem dX8_high_12 : decode cX8_high 12 = .ok (.ireturn, 1) := by decide +kernel
theorem dX8_high_13 : decode cX8_high 13 = .ok (.iload_n 1, 1) := by decide +kernel
theorem dX8_high_14 : decode cX8_high 14 = .ok (.iconst 1, 1) := by decide +kernel
theorem dX8_high_15 : decode cX8_high 15 = .ok (.if_icmp .lt 9, 3) := by decide +kernel
theorem dX8_high_18 : decode cX8_high 18 = .ok (.iload_n 1, 1) := by decide +kernel
theorem dX8_high_19 : decode cX8_high 19 = .ok (.bipush 6, 2) := by decide +kernel
theorem dX8_high_21 : decode cX8_high 21 = .ok (.if_icmp .le 6, 3) := by decide +kernel
theorem dX8_high_24 : decode cX8_high 24 = .ok (.ldc 55, 2) := by decide +kernel
theorem dX8_high_26 : decode cX8_high 26 = .ok (.ireturn, 1) := by decide +kernel
theorem dX8_high_27 : decode cX8_high 27 = .ok (.aload_n 0, 1) := by decide +kernel
theorem dX8_high_28 : decode cX8_high 28 = .ok (.getfield 25, 3) := by decide +kernel
theorem dX8_high_31 : decode cX8_high 31 = .ok (.getfield 159, 3) := by decide +kernel
theorem dX8_high_34 : decode cX8_high 34 = .ok (.istore_n 2, 1) := by decide +kernel
theorem dX8_high_35 : decode cX8_high 35 = .ok (.aload_n 0, 1) := by decide +kernel
theorem dX8_high_36 : decode cX8_high 36 = .ok (.getfield 35, 3) := by decide +kernel
theorem dX8_high_39 : decode cX8_high 39 = .ok (.aload_n 0, 1) := by decide +kernel
theorem dX8_high_40 : decode cX8_high 40 = .ok (.getfield 25, 3) := by decide +kernel
theorem dX8_high_43 : decode cX8_high 43 = .ok (.invokevirtual 140, 3) := by decide +kernel
theorem dX8_high_46 : decode cX8_high 46 = .ok (.aload_n 0, 1) := by decide +kernel
theorem dX8_high_47 : decode cX8_high 47 = .ok (.getfield 25, 3) := by decide +kernel
theorem dX8_high_50 : decode cX8_high 50 = .ok (.iload_n 1, 1) := by decide +kernel
theorem dX8_high_51 : decode cX8_high 51 = .ok (.putfield 159, 3) := by decide +kernel
theorem dX8_high_54 : decode cX8_high 54 = .ok (.iload_n 2, 1) := by decide +kernel
theorem dX8_high_55 : decode cX8_high 55 = .ok (.ireturn, 1) := by decide +kernel
def m_X8_high (N : Nat) (σ : Hp) (t0 : Nat) (p1 : Int32) : Option (Int32 × Hp) :=
  (rv N σ t0 8).bind fun _ =>
  (gR N σ t0 8 2).bind fun x1 =>
  (m_X2_isNone N σ x1).bind fun r2 =>
  if r2 = 0 then
   if p1 < 1 then
   some ((-1000001), σ)
  else
   if p1 ≤ 6 then
   (gR N σ t0 8 2).bind fun x6 =>
  (gI N σ x6 2 2).bind fun x7 =>
  (gR N σ t0 8 4).bind fun x8 =>
  (gR N σ t0 8 2).bind fun x9 =>
  (m_X0_keep N σ x8 x9).bind fun r10 =>
  (gR N r10 t0 8 2).bind fun x11 =>
  (pV N r10 x11 2 2 (.int p1)).bind fun σ12 =>
  some (x7, σ12)
  else
   some ((-1000001), σ)
  else
   some ((-1000002), σ)
set_option maxHeartbeats 4000000 in
set_option maxRecDepth 100000 in
theorem ct_X8_high {l : Launch} {D : va_G} {cy : Nat → Nat} {N : Nat} {σ : Hp} {t0 : Nat} {p1 : Int32} {r : Int32 × Hp} (h : m_X8_high N σ t0 p1 = some r) : Ct l D cy yX8_high cX8_high 3 (some .int) 2 [.ref t0, .int p1] N σ (fun v s' => v = (some (.int r.1)) ∧ s' = r.2) := by
  refine Ct.intro [some (.ref t0), some (.int p1), none] (by decide) rfl (Nat.le_of_ble_eq_true rfl) ?_
  intro κ ω e1 e2 e3 e4 C Z E
  subst e1; subst e2; subst e3; subst e4
  have C : Cx κ 3 2 cX8_high RX8 "high" := C
  have hE : ∀ x : Int32 × Hp, r = x → ((some (Value.int x.1)) = (some (Value.int r.1)) ∧ x.2 = r.2) := fun x hx => by subst hx; exact ⟨rfl, rfl⟩
  unfold m_X8_high at h
  obtain ⟨_, _, h⟩ := ob h
  refine x_aload_n C (i := 0) dX8_high_0 rfl rfl ?_
  obtain ⟨x1, ex1, h⟩ := ob h
  refine x_getR C fl_X8_25 dX8_high_1 ex1 ?_
  obtain ⟨r2, er2, h⟩ := ob h
  refine x_callVr C Z mv_X2_isNone lk_X8_156 (rv_h er2) (ct_X2_isNone er2) (by decide) rfl rfl (Nat.le_of_ble_eq_true rfl) dX8_high_4 ?_
  refine x_if_eq C (tgt := 13) dX8_high_7 (by decide) (fun c3 => ?_) (fun c3 => ?_)
  · have h := ifP h c3
    refine x_iload_n C (i := 1) dX8_high_13 rfl rfl ?_
    refine x_iconst C (v := 1) dX8_high_14 (by decide) ?_
    refine x_icmp_lt C (tgt := 24) dX8_high_15 (by decide) (fun c4 => ?_) (fun c4 => ?_)
    · have h := ifP h c4
      refine x_ldc C kc_X8_55 dX8_high_24 ?_
      exact x_iret C E dX8_high_26 (hE ((-1000001), σ) (Option.some.inj h).symm)
    · have h := ifN h c4
      refine x_iload_n C (i := 1) dX8_high_18 rfl rfl ?_
      refine x_bipush C (v := 6) dX8_high_19 (by decide) ?_
      refine x_icmp_le C (tgt := 27) dX8_high_21 (by decide) (fun c5 => ?_) (fun c5 => ?_)
      · have h := ifP h c5
        refine x_aload_n C (i := 0) dX8_high_27 rfl rfl ?_
        obtain ⟨x6, ex6, h⟩ := ob h
        refine x_getR C fl_X8_25 dX8_high_28 ex6 ?_
        obtain ⟨x7, ex7, h⟩ := ob h
        refine x_getI C fl_X8_159 dX8_high_31 ex7 ?_
        refine x_istore_n C (i := 2) (lo' := [some (.ref t0), some (.int p1), some (.int x7)]) dX8_high_34 rfl (by decide) rfl rfl ?_
        refine x_aload_n C (i := 0) dX8_high_35 rfl rfl ?_
        obtain ⟨x8, ex8, h⟩ := ob h
        refine x_getR C fl_X8_35 dX8_high_36 ex8 ?_
        refine x_aload_n C (i := 0) dX8_high_39 rfl rfl ?_
        obtain ⟨x9, ex9, h⟩ := ob h
        refine x_getR C fl_X8_25 dX8_high_40 ex9 ?_
        obtain ⟨r10, er10, h⟩ := ob h
        refine x_callVn C Z mv_X0_keep lk_X8_140 (rv_h er10) (ct_X0_keep er10) (by decide) rfl rfl (Nat.le_of_ble_eq_true rfl) dX8_high_43 ?_
        refine x_aload_n C (i := 0) dX8_high_46 rfl rfl ?_
        obtain ⟨x11, ex11, h⟩ := ob h
        refine x_getR C fl_X8_25 dX8_high_47 ex11 ?_
        refine x_iload_n C (i := 1) dX8_high_50 rfl rfl ?_
        obtain ⟨σ12, eσ12, h⟩ := ob h
        refine x_put C pl_X8_159 dX8_high_51 (fun _ => ⟨rfl, rfl⟩) eσ12 ?_
        refine x_iload_n C (i := 2) dX8_high_54 rfl rfl ?_
        exact x_iret C E dX8_high_55 (hE (x7, σ12) (Option.some.inj h).symm)
      · have h := ifN h c5
        refine x_ldc C kc_X8_55 dX8_high_24 ?_
        exact x_iret C E dX8_high_26 (hE ((-1000001), σ) (Option.some.inj h).symm)
  · have h := ifN h c3
    refine x_ldc C kc_X8_133 dX8_high_10 ?_
    exact x_iret C E dX8_high_12 (hE ((-1000002), σ) (Option.some.inj h).symm)
theorem dX8_undo_0 : decode cX8_undo 0 = .ok (.aload_n 0, 1) := by decide +kernel
theorem dX8_undo_1 : decode cX8_undo 1 = .ok (.getfield 35, 3) := by decide +kernel
theorem dX8_undo_4 : decode cX8_undo 4 = .ok (.aload_n 0, 1) := by decide +kernel
theorem dX8_undo_5 : decode cX8_undo 5 = .ok (.getfield 25, 3) := by decide +kernel
theorem dX8_undo_8 : decode cX8_undo 8 = .ok (.invokevirtual 162, 3) := by decide +kernel
theorem dX8_undo_11 : decode cX8_undo 11 = .ok (.ifCond .eq 13, 3) := by decide +kernel
theorem dX8_undo_14 : decode cX8_undo 14 = .ok (.aload_n 0, 1) := by decide +kernel
theorem dX8_undo_15 : decode cX8_undo 15 = .ok (.getfield 35, 3) := by decide +kernel
theorem dX8_undo_18 : decode cX8_undo 18 = .ok (.getfield 165, 3) := by decide +kernel
theorem dX8_undo_21 : decode cX8_undo 21 = .ok (.goto 5, 3) := by decide +kernel
theorem dX8_undo_24 : decode cX8_undo 24 = .ok (.ldc 133, 2) := by decide +kernel
theorem dX8_undo_26 : decode cX8_undo 26 = .ok (.ireturn, 1) := by decide +kernel
def m_X8_undo (N : Nat) (σ : Hp) (t0 : Nat) : Option (Int32 × Hp) :=
  (rv N σ t0 8).bind fun _ =>
  (gR N σ t0 8 4).bind fun x1 =>
  (gR N σ t0 8 2).bind fun x2 =>
  (m_X0_takeBack N σ x1 x2).bind fun r3 =>
  if r3.1 = 0 then
   some ((-1000002), r3.2)
  else
   (gR N r3.2 t0 8 4).bind fun x5 =>
  (gI N r3.2 x5 0 2).bind fun x6 =>
  some (x6, r3.2)
set_option maxHeartbeats 4000000 in
set_option maxRecDepth 100000 in
theorem ct_X8_undo {l : Launch} {D : va_G} {cy : Nat → Nat} {N : Nat} {σ : Hp} {t0 : Nat} {r : Int32 × Hp} (h : m_X8_undo N σ t0 = some r) : Ct l D cy yX8_undo cX8_undo 1 (some .int) 2 [.ref t0] N σ (fun v s' => v = (some (.int r.1)) ∧ s' = r.2) := by
  refine Ct.intro [some (.ref t0)] (by decide) rfl (Nat.le_of_ble_eq_true rfl) ?_
  intro κ ω e1 e2 e3 e4 C Z E
  subst e1; subst e2; subst e3; subst e4
  have C : Cx κ 1 2 cX8_undo RX8 "undo" := C
  have hE : ∀ x : Int32 × Hp, r = x → ((some (Value.int x.1)) = (some (Value.int r.1)) ∧ x.2 = r.2) := fun x hx => by subst hx; exact ⟨rfl, rfl⟩
  unfold m_X8_undo at h
  obtain ⟨_, _, h⟩ := ob h
  refine x_aload_n C (i := 0) dX8_undo_0 rfl rfl ?_
  obtain ⟨x1, ex1, h⟩ := ob h
  refine x_getR C fl_X8_35 dX8_undo_1 ex1 ?_
  refine x_aload_n C (i := 0) dX8_undo_4 rfl rfl ?_
  obtain ⟨x2, ex2, h⟩ := ob h
  refine x_getR C fl_X8_25 dX8_undo_5 ex2 ?_
  obtain ⟨r3, er3, h⟩ := ob h
  refine x_callVr C Z mv_X0_takeBack lk_X8_162 (rv_h er3) (ct_X0_takeBack er3) (by decide) rfl rfl (Nat.le_of_ble_eq_true rfl) dX8_undo_8 ?_
  refine x_if_eq C (tgt := 24) dX8_undo_11 (by decide) (fun c4 => ?_) (fun c4 => ?_)
  · have h := ifP h c4
    refine x_ldc C kc_X8_133 dX8_undo_24 ?_
    exact x_iret C E dX8_undo_26 (hE ((-1000002), r3.2) (Option.some.inj h).symm)
  · have h := ifN h c4
    refine x_aload_n C (i := 0) dX8_undo_14 rfl rfl ?_
    obtain ⟨x5, ex5, h⟩ := ob h
    refine x_getR C fl_X8_35 dX8_undo_15 ex5 ?_
    obtain ⟨x6, ex6, h⟩ := ob h
    refine x_getI C fl_X8_165 dX8_undo_18 ex6 ?_
    refine x_goto C (tgt := 26) dX8_undo_21 (by decide) ?_
    exact x_iret C E dX8_undo_26 (hE (x6, r3.2) (Option.some.inj h).symm)
theorem dX8_disc_0 : decode cX8_disc 0 = .ok (.aload_n 0, 1) := by decide +kernel
theorem dX8_disc_1 : decode cX8_disc 1 = .ok (.getfield 25, 3) := by decide +kernel
theorem dX8_disc_4 : decode cX8_disc 4 = .ok (.iload_n 1, 1) := by decide +kernel
theorem dX8_disc_5 : decode cX8_disc 5 = .ok (.invokevirtual 147, 3) := by decide +kernel
theorem dX8_disc_8 : decode cX8_disc 8 = .ok (.ifCond .eq 12, 3) := by decide +kernel
theorem dX8_disc_11 : decode cX8_disc 11 = .ok (.iload_n 2, 1) := by decide +kernel
theorem dX8_disc_12 : decode cX8_disc 12 = .ok (.ifCond .lt 8, 3) := by decide +kernel
theorem dX8_disc_15 : decode cX8_disc 15 = .ok (.iload_n 2, 1) := by decide +kernel
theorem dX8_disc_16 : decode cX8_disc 16 = .ok (.iconst 2, 1) := by decide +kernel
theorem dX8_disc_17 : decode cX8_disc 17 = .ok (.if_icmp .le 6, 3) := by decide +kernel
theorem dX8_disc_20 : decode cX8_disc 20 = .ok (.ldc 55, 2) := by decide +kernel
theorem dX8_disc_22 : decode cX8_disc 22 = .ok (.ireturn, 1) := by decide +kernel
theorem dX8_disc_23 : decode cX8_disc 23 = .ok (.aload_n 0, 1) := by decide +kernel
theorem dX8_disc_24 : decode cX8_disc 24 = .ok (.getfield 25, 3) := by decide +kernel
theorem dX8_disc_27 : decode cX8_disc 27 = .ok (.iload_n 1, 1) := by decide +kernel
theorem dX8_disc_28 : decode cX8_disc 28 = .ok (.invokevirtual 150, 3) := by decide +kernel
theorem dX8_disc_31 : decode cX8_disc 31 = .ok (.istore_n 3, 1) := by decide +kernel
theorem dX8_disc_32 : decode cX8_disc 32 = .ok (.aload_n 0, 1) := by decide +kernel
theorem dX8_disc_33 : decode cX8_disc 33 = .ok (.getfield 25, 3) := by decide +kernel
theorem dX8_disc_36 : decode cX8_disc 36 = .ok (.iload_n 3, 1) := by decide +kernel
theorem dX8_disc_37 : decode cX8_disc 37 = .ok (.invokevirtual 137, 3) := by decide +kernel
theorem dX8_disc_40 : decode cX8_disc 40 = .ok (.iload_n 1, 1) := by decide +kernel
theorem dX8_disc_41 : decode cX8_disc 41 = .ok (.if_icmp .ne 7, 3) := by decide +kernel
theorem dX8_disc_44 : decode cX8_disc 44 = .ok (.iconst 1, 1) := by decide +kernel
theorem dX8_disc_45 : decode cX8_disc 45 = .ok (.goto 4, 3) := by decide +kernel
theorem dX8_disc_48 : decode cX8_disc 48 = .ok (.iconst 0, 1) := by decide +kernel
theorem dX8_disc_49 : decode cX8_disc 49 = .ok (.istore 4, 2) := by decide +kernel
theorem dX8_disc_51 : decode cX8_disc 51 = .ok (.iload_n 2, 1) := by decide +kernel
theorem dX8_disc_52 : decode cX8_disc 52 = .ok (.lookupswitch 41 #[(0, 28), (1, 30)], 28) := by decide +kernel
theorem dX8_disc_80 : decode cX8_disc 80 = .ok (.iload_n 3, 1) := by decide +kernel
theorem dX8_disc_81 : decode cX8_disc 81 = .ok (.ireturn, 1) := by decide +kernel
theorem dX8_disc_82 : decode cX8_disc 82 = .ok (.iload 4, 2) := by decide +kernel
theorem dX8_disc_84 : decode cX8_disc 84 = .ok (.ifCond .eq 7, 3) := by decide +kernel
theorem dX8_disc_87 : decode cX8_disc 87 = .ok (.iconst 1, 1) := by decide +kernel
theorem dX8_disc_88 : decode cX8_disc 88 = .ok (.goto 4, 3) := by decide +kernel
theorem dX8_disc_91 : decode cX8_disc 91 = .ok (.iconst 0, 1) := by decide +kernel
theorem dX8_disc_92 : decode cX8_disc 92 = .ok (.ireturn, 1) := by decide +kernel
theorem dX8_disc_93 : decode cX8_disc 93 = .ok (.iload 4, 2) := by decide +kernel
theorem dX8_disc_95 : decode cX8_disc 95 = .ok (.ifCond .eq 20, 3) := by decide +kernel
theorem dX8_disc_98 : decode cX8_disc 98 = .ok (.aload_n 0, 1) := by decide +kernel
theorem dX8_disc_99 : decode cX8_disc 99 = .ok (.getfield 25, 3) := by decide +kernel
theorem dX8_disc_102 : decode cX8_disc 102 = .ok (.invokevirtual 168, 3) := by decide +kernel
theorem dX8_disc_105 : decode cX8_disc 105 = .ok (.iconst 4, 1) := by decide +kernel
theorem dX8_disc_106 : decode cX8_disc 106 = .ok (.iload_n 3, 1) := by decide +kernel
theorem dX8_disc_107 : decode cX8_disc 107 = .ok (.imul, 1) := by decide +kernel
theorem dX8_disc_108 : decode cX8_disc 108 = .ok (.ishr, 1) := by decide +kernel
theorem dX8_disc_109 : decode cX8_disc 109 = .ok (.bipush 15, 2) := by decide +kernel
theorem dX8_disc_111 : decode cX8_disc 111 = .ok (.iand, 1) := by decide +kernel
theorem dX8_disc_112 : decode cX8_disc 112 = .ok (.goto 4, 3) := by decide +kernel
theorem dX8_disc_115 : decode cX8_disc 115 = .ok (.iconst 0, 1) := by decide +kernel
theorem dX8_disc_116 : decode cX8_disc 116 = .ok (.ireturn, 1) := by decide +kernel
def m_X8_disc (N : Nat) (σ : Hp) (t0 : Nat) (p1 : Int32) (p2 : Int32) : Option (Int32) :=
  (rv N σ t0 8).bind fun _ =>
  (gR N σ t0 8 2).bind fun x1 =>
  (m_X2_hasDisc N σ x1 p1).bind fun r2 =>
  if r2 = 0 then
   some (-1000001)
  else
   if p2 < 0 then
   some (-1000001)
  else
   if p2 ≤ 2 then
   (gR N σ t0 8 2).bind fun x6 =>
  (m_X2_pegOf N σ x6 p1).bind fun r7 =>
  (gR N σ t0 8 2).bind fun x8 =>
  (m_X2_topOf N σ x8 r7).bind fun r9 =>
  ((if r9 = p1 then
   some 1
  else
   some 0) : Option (Int32)).bind fun z10 =>
  if p2 = 0 then
   some r7
  else if p2 = 1 then
   if z10 = 0 then
   some 0
  else
   some 1
  else 
   if z10 = 0 then
   some 0
  else
   (gR N σ t0 8 2).bind fun x15 =>
  (m_X2_movesNow N σ x15).bind fun r16 =>
  some ((r16 >>> (((4 : Int32) * r7) &&& 31)) &&& 15)
  else
   some (-1000001)
set_option maxHeartbeats 4000000 in
set_option maxRecDepth 100000 in
theorem ct_X8_disc {l : Launch} {D : va_G} {cy : Nat → Nat} {N : Nat} {σ : Hp} {t0 : Nat} {p1 : Int32} {p2 : Int32} {r : Int32} (h : m_X8_disc N σ t0 p1 p2 = some r) : Ct l D cy yX8_disc cX8_disc 5 (some .int) 4 [.ref t0, .int p1, .int p2] N σ (fun v s' => v = (some (.int r)) ∧ s' = σ) := by
  refine Ct.intro [some (.ref t0), some (.int p1), some (.int p2), none, none] (by decide) rfl (Nat.le_of_ble_eq_true rfl) ?_
  intro κ ω e1 e2 e3 e4 C Z E
  subst e1; subst e2; subst e3; subst e4
  have C : Cx κ 5 4 cX8_disc RX8 "disc" := C
  have hE : ∀ x : Int32, r = x → ((some (Value.int x)) = (some (Value.int r)) ∧ σ = σ) := fun x hx => by subst hx; exact ⟨rfl, rfl⟩
  unfold m_X8_disc at h
  obtain ⟨_, _, h⟩ := ob h
  refine x_aload_n C (i := 0) dX8_disc_0 rfl rfl ?_
  obtain ⟨x1, ex1, h⟩ := ob h
  refine x_getR C fl_X8_25 dX8_disc_1 ex1 ?_
  refine x_iload_n C (i := 1) dX8_disc_4 rfl rfl ?_
  obtain ⟨r2, er2, h⟩ := ob h
  refine x_callVr C Z mv_X2_hasDisc lk_X8_147 (rv_h er2) (ct_X2_hasDisc er2) (by decide) rfl rfl (Nat.le_of_ble_eq_true rfl) dX8_disc_5 ?_
  refine x_if_eq C (tgt := 20) dX8_disc_8 (by decide) (fun c3 => ?_) (fun c3 => ?_)
  · have h := ifP h c3
    refine x_ldc C kc_X8_55 dX8_disc_20 ?_
    exact x_iret C E dX8_disc_22 (hE (-1000001) (Option.some.inj h).symm)
  · have h := ifN h c3
    refine x_iload_n C (i := 2) dX8_disc_11 rfl rfl ?_
    refine x_if_lt C (tgt := 20) dX8_disc_12 (by decide) (fun c4 => ?_) (fun c4 => ?_)
    · have h := ifP h c4
      refine x_ldc C kc_X8_55 dX8_disc_20 ?_
      exact x_iret C E dX8_disc_22 (hE (-1000001) (Option.some.inj h).symm)
    · have h := ifN h c4
      refine x_iload_n C (i := 2) dX8_disc_15 rfl rfl ?_
      refine x_iconst C (v := 2) dX8_disc_16 (by decide) ?_
      refine x_icmp_le C (tgt := 23) dX8_disc_17 (by decide) (fun c5 => ?_) (fun c5 => ?_)
      · have h := ifP h c5
        refine x_aload_n C (i := 0) dX8_disc_23 rfl rfl ?_
        obtain ⟨x6, ex6, h⟩ := ob h
        refine x_getR C fl_X8_25 dX8_disc_24 ex6 ?_
        refine x_iload_n C (i := 1) dX8_disc_27 rfl rfl ?_
        obtain ⟨r7, er7, h⟩ := ob h
        refine x_callVr C Z mv_X2_pegOf lk_X8_150 (rv_h er7) (ct_X2_pegOf er7) (by decide) rfl rfl (Nat.le_of_ble_eq_true rfl) dX8_disc_28 ?_
        refine x_istore_n C (i := 3) (lo' := [some (.ref t0), some (.int p1), some (.int p2), some (.int r7), none]) dX8_disc_31 rfl (by decide) rfl rfl ?_
        refine x_aload_n C (i := 0) dX8_disc_32 rfl rfl ?_
        obtain ⟨x8, ex8, h⟩ := ob h
        refine x_getR C fl_X8_25 dX8_disc_33 ex8 ?_
        refine x_iload_n C (i := 3) dX8_disc_36 rfl rfl ?_
        obtain ⟨r9, er9, h⟩ := ob h
        refine x_callVr C Z mv_X2_topOf lk_X8_137 (rv_h er9) (ct_X2_topOf er9) (by decide) rfl rfl (Nat.le_of_ble_eq_true rfl) dX8_disc_37 ?_
        refine x_iload_n C (i := 1) dX8_disc_40 rfl rfl ?_
        obtain ⟨z10, hz10, h⟩ := ob h
        have hJ17 : X κ 5 ω 49 [some (.ref t0), none, some (.int p2), some (.int r7), none] [.int z10] σ := by
          refine x_istore C (i := 4) (lo' := [some (.ref t0), none, some (.int p2), some (.int r7), some (.int z10)]) dX8_disc_49 (by decide) rfl rfl ?_
          refine x_iload_n C (i := 2) dX8_disc_51 rfl rfl ?_
          by_cases c11 : p2 = 0
          · have h := ifP h c11
            refine x_lookup C (off := 28) (tgt := 80) dX8_disc_52 (by decide) (by rw [c11]; rfl) (by decide) ?_
            refine x_iload_n C (i := 3) dX8_disc_80 rfl rfl ?_
            exact x_iret C E dX8_disc_81 (hE r7 (Option.some.inj h).symm)
          · have h := ifN h c11
            by_cases c12 : p2 = 1
            · have h := ifP h c12
              refine x_lookup C (off := 30) (tgt := 82) dX8_disc_52 (by decide) (by rw [c12]; rfl) (by decide) ?_
              refine x_iload C (i := 4) dX8_disc_82 rfl ?_
              refine x_if_eq C (tgt := 91) dX8_disc_84 (by decide) (fun c13 => ?_) (fun c13 => ?_)
              · have h := ifP h c13
                refine x_iconst C (v := 0) dX8_disc_91 (by decide) ?_
                exact x_iret C E dX8_disc_92 (hE 0 (Option.some.inj h).symm)
              · have h := ifN h c13
                refine x_iconst C (v := 1) dX8_disc_87 (by decide) ?_
                refine x_goto C (tgt := 92) dX8_disc_88 (by decide) ?_
                exact x_iret C E dX8_disc_92 (hE 1 (Option.some.inj h).symm)
            · have h := ifN h c12
              refine x_lookup C (off := 41) (tgt := 93) dX8_disc_52 (by decide) (by rw [show (#[(0, 28), (1, 30)] : Array (Int × Int)).toList = [(0, 28), (1, 30)] from rfl, lv_osw c11 (by decide), lv_osw c12 (by decide)]; rfl) (by decide) ?_
              refine x_iload C (i := 4) dX8_disc_93 rfl ?_
              refine x_if_eq C (tgt := 115) dX8_disc_95 (by decide) (fun c14 => ?_) (fun c14 => ?_)
              · have h := ifP h c14
                refine x_iconst C (v := 0) dX8_disc_115 (by decide) ?_
                exact x_iret C E dX8_disc_116 (hE 0 (Option.some.inj h).symm)
              · have h := ifN h c14
                refine x_aload_n C (i := 0) dX8_disc_98 rfl rfl ?_
                obtain ⟨x15, ex15, h⟩ := ob h
                refine x_getR C fl_X8_25 dX8_disc_99 ex15 ?_
                obtain ⟨r16, er16, h⟩ := ob h
                refine x_callVr C Z mv_X2_movesNow lk_X8_168 (rv_h er16) (ct_X2_movesNow er16) (by decide) rfl rfl (Nat.le_of_ble_eq_true rfl) dX8_disc_102 ?_
                refine x_iconst C (v := 4) dX8_disc_105 (by decide) ?_
                refine x_iload_n C (i := 3) dX8_disc_106 rfl rfl ?_
                refine x_imul C dX8_disc_107 ?_
                refine x_ishr C dX8_disc_108 ?_
                refine x_bipush C (v := 15) dX8_disc_109 (by decide) ?_
                refine x_iand C dX8_disc_111 ?_
                refine x_goto C (tgt := 116) dX8_disc_112 (by decide) ?_
                exact x_iret C E dX8_disc_116 (hE ((r16 >>> (((4 : Int32) * r7) &&& 31)) &&& 15) (Option.some.inj h).symm)
        clear h
        have h := hz10
        refine x_icmp_ne C (tgt := 48) dX8_disc_41 (by decide) (fun c19 => ?_) (fun c19 => ?_)
        · have h := ifN h c19
          refine x_iconst C (v := 0) dX8_disc_48 (by decide) ?_
          refine x_wk [true, false, true, true, false] (lo' := [some (.ref t0), none, some (.int p2), some (.int r7), none]) rfl ?_
          obtain rfl := Option.some.inj h
          exact hJ17
        · have h := ifP h c19
          refine x_iconst C (v := 1) dX8_disc_44 (by decide) ?_
          refine x_goto C (tgt := 49) dX8_disc_45 (by decide) ?_
          refine x_wk [true, false, true, true, false] (lo' := [some (.ref t0), none, some (.int p2), some (.int r7), none]) rfl ?_
          obtain rfl := Option.some.inj h
          exact hJ17
      · have h := ifN h c5
        refine x_ldc C kc_X8_55 dX8_disc_20 ?_
        exact x_iret C E dX8_disc_22 (hE (-1000001) (Option.some.inj h).symm)
theorem dX8_peg_0 : decode cX8_peg 0 = .ok (.aload_n 0, 1) := by decide +kernel
theorem dX8_peg_1 : decode cX8_peg 1 = .ok (.getfield 25, 3) := by decide +kernel
theorem dX8_peg_4 : decode cX8_peg 4 = .ok (.iload_n 1, 1) := by decide +kernel
theorem dX8_peg_5 : decode cX8_peg 5 = .ok (.invokevirtual 127, 3) := by decide +kernel
theorem dX8_peg_8 : decode cX8_peg 8 = .ok (.ifCond .eq 12, 3) := by decide +kernel
theorem dX8_peg_11 : decode cX8_peg 11 = .ok (.iload_n 2, 1) := by decide +kernel
theorem dX8_peg_12 : decode cX8_peg 12 = .ok (.ifCond .lt 8, 3) := by decide +kernel
theorem dX8_peg_15 : decode cX8_peg 15 = .ok (.iload_n 2, 1) := by decide +kernel
theorem dX8_peg_16 : decode cX8_peg 16 = .ok (.iconst 2, 1) := by decide +kernel
theorem dX8_peg_17 : decode cX8_peg 17 = .ok (.if_icmp .le 6, 3) := by decide +kernel
theorem dX8_peg_20 : decode cX8_peg 20 = .ok (.ldc 55, 2) := by decide +kernel
theorem dX8_peg_22 : decode cX8_peg 22 = .ok (.ireturn, 1) := by decide +kernel
theorem dX8_peg_23 : decode cX8_peg 23 = .ok (.aload_n 0, 1) := by decide +kernel
theorem dX8_peg_24 : decode cX8_peg 24 = .ok (.getfield 25, 3) := by decide +kernel
theorem dX8_peg_27 : decode cX8_peg 27 = .ok (.iload_n 1, 1) := by decide +kernel
theorem dX8_peg_28 : decode cX8_peg 28 = .ok (.invokevirtual 171, 3) := by decide +kernel
theorem dX8_peg_31 : decode cX8_peg 31 = .ok (.istore_n 3, 1) := by decide +kernel
theorem dX8_peg_32 : decode cX8_peg 32 = .ok (.iload_n 2, 1) := by decide +kernel
theorem dX8_peg_33 : decode cX8_peg 33 = .ok (.lookupswitch 34 #[(0, 27), (1, 32)], 27) := by decide +kernel
theorem dX8_peg_60 : decode cX8_peg 60 = .ok (.iload_n 3, 1) := by decide +kernel
theorem dX8_peg_61 : decode cX8_peg 61 = .ok (.invokestatic 174, 3) := by decide +kernel
theorem dX8_peg_64 : decode cX8_peg 64 = .ok (.ireturn, 1) := by decide +kernel
theorem dX8_peg_65 : decode cX8_peg 65 = .ok (.iload_n 3, 1) := by decide +kernel
theorem dX8_peg_66 : decode cX8_peg 66 = .ok (.ireturn, 1) := by decide +kernel
theorem dX8_peg_67 : decode cX8_peg 67 = .ok (.iload_n 3, 1) := by decide +kernel
theorem dX8_peg_68 : decode cX8_peg 68 = .ok (.ifCond .ne 8, 3) := by decide +kernel
theorem dX8_peg_71 : decode cX8_peg 71 = .ok (.ldc 179, 2) := by decide +kernel
theorem dX8_peg_73 : decode cX8_peg 73 = .ok (.goto 11, 3) := by decide +kernel
theorem dX8_peg_76 : decode cX8_peg 76 = .ok (.aload_n 0, 1) := by decide +kernel
theorem dX8_peg_77 : decode cX8_peg 77 = .ok (.getfield 25, 3) := by decide +kernel
theorem dX8_peg_80 : decode cX8_peg 80 = .ok (.iload_n 1, 1) := by decide +kernel
theorem dX8_peg_81 : decode cX8_peg 81 = .ok (.invokevirtual 137, 3) := by decide +kernel
theorem dX8_peg_84 : decode cX8_peg 84 = .ok (.ireturn, 1) := by decide +kernel
def m_X8_peg (N : Nat) (σ : Hp) (t0 : Nat) (p1 : Int32) (p2 : Int32) : Option (Int32) :=
  (rv N σ t0 8).bind fun _ =>
  (gR N σ t0 8 2).bind fun x1 =>
  (m_X2_hasPeg N σ x1 p1).bind fun r2 =>
  if r2 = 0 then
   some (-1000001)
  else
   if p2 < 0 then
   some (-1000001)
  else
   if p2 ≤ 2 then
   (gR N σ t0 8 2).bind fun x6 =>
  (m_X2_lyingOn N σ x6 p1).bind fun r7 =>
  if p2 = 0 then
   (m_J6_bitCount_0f7a4 r7).bind fun r9 =>
  some r9
  else if p2 = 1 then
   some r7
  else 
   if r7 = 0 then
   some (-1000000)
  else
   (gR N σ t0 8 2).bind fun x12 =>
  (m_X2_topOf N σ x12 p1).bind fun r13 =>
  some r13
  else
   some (-1000001)
set_option maxHeartbeats 4000000 in
set_option maxRecDepth 100000 in
theorem ct_X8_peg {l : Launch} {D : va_G} {cy : Nat → Nat} {N : Nat} {σ : Hp} {t0 : Nat} {p1 : Int32} {p2 : Int32} {r : Int32} (h : m_X8_peg N σ t0 p1 p2 = some r) : Ct l D cy yX8_peg cX8_peg 4 (some .int) 3 [.ref t0, .int p1, .int p2] N σ (fun v s' => v = (some (.int r)) ∧ s' = σ) := by
  refine Ct.intro [some (.ref t0), some (.int p1), some (.int p2), none] (by decide) rfl (Nat.le_of_ble_eq_true rfl) ?_
  intro κ ω e1 e2 e3 e4 C Z E
  subst e1; subst e2; subst e3; subst e4
  have C : Cx κ 4 3 cX8_peg RX8 "peg" := C
  have hE : ∀ x : Int32, r = x → ((some (Value.int x)) = (some (Value.int r)) ∧ σ = σ) := fun x hx => by subst hx; exact ⟨rfl, rfl⟩
  unfold m_X8_peg at h
  obtain ⟨_, _, h⟩ := ob h
  refine x_aload_n C (i := 0) dX8_peg_0 rfl rfl ?_
  obtain ⟨x1, ex1, h⟩ := ob h
  refine x_getR C fl_X8_25 dX8_peg_1 ex1 ?_
  refine x_iload_n C (i := 1) dX8_peg_4 rfl rfl ?_
  obtain ⟨r2, er2, h⟩ := ob h
  refine x_callVr C Z mv_X2_hasPeg lk_X8_127 (rv_h er2) (ct_X2_hasPeg er2) (by decide) rfl rfl (Nat.le_of_ble_eq_true rfl) dX8_peg_5 ?_
  refine x_if_eq C (tgt := 20) dX8_peg_8 (by decide) (fun c3 => ?_) (fun c3 => ?_)
  · have h := ifP h c3
    refine x_ldc C kc_X8_55 dX8_peg_20 ?_
    exact x_iret C E dX8_peg_22 (hE (-1000001) (Option.some.inj h).symm)
  · have h := ifN h c3
    refine x_iload_n C (i := 2) dX8_peg_11 rfl rfl ?_
    refine x_if_lt C (tgt := 20) dX8_peg_12 (by decide) (fun c4 => ?_) (fun c4 => ?_)
    · have h := ifP h c4
      refine x_ldc C kc_X8_55 dX8_peg_20 ?_
      exact x_iret C E dX8_peg_22 (hE (-1000001) (Option.some.inj h).symm)
    · have h := ifN h c4
      refine x_iload_n C (i := 2) dX8_peg_15 rfl rfl ?_
      refine x_iconst C (v := 2) dX8_peg_16 (by decide) ?_
      refine x_icmp_le C (tgt := 23) dX8_peg_17 (by decide) (fun c5 => ?_) (fun c5 => ?_)
      · have h := ifP h c5
        refine x_aload_n C (i := 0) dX8_peg_23 rfl rfl ?_
        obtain ⟨x6, ex6, h⟩ := ob h
        refine x_getR C fl_X8_25 dX8_peg_24 ex6 ?_
        refine x_iload_n C (i := 1) dX8_peg_27 rfl rfl ?_
        obtain ⟨r7, er7, h⟩ := ob h
        refine x_callVr C Z mv_X2_lyingOn lk_X8_171 (rv_h er7) (ct_X2_lyingOn er7) (by decide) rfl rfl (Nat.le_of_ble_eq_true rfl) dX8_peg_28 ?_
        refine x_istore_n C (i := 3) (lo' := [some (.ref t0), some (.int p1), some (.int p2), some (.int r7)]) dX8_peg_31 rfl (by decide) rfl rfl ?_
        refine x_iload_n C (i := 2) dX8_peg_32 rfl rfl ?_
        by_cases c8 : p2 = 0
        · have h := ifP h c8
          refine x_lookup C (off := 27) (tgt := 60) dX8_peg_33 (by decide) (by rw [c8]; rfl) (by decide) ?_
          refine x_iload_n C (i := 3) dX8_peg_60 rfl rfl ?_
          obtain ⟨r9, er9, h⟩ := ob h
          refine x_callSr C Z ms_J6_bitCount_0f7a4 lk_X8_174 (ct_J6_bitCount_0f7a4 (N := ω.1) (σ := σ) er9) (by decide) rfl rfl (Nat.le_of_ble_eq_true rfl) dX8_peg_61 ?_
          exact x_iret C E dX8_peg_64 (hE r9 (Option.some.inj h).symm)
        · have h := ifN h c8
          by_cases c10 : p2 = 1
          · have h := ifP h c10
            refine x_lookup C (off := 32) (tgt := 65) dX8_peg_33 (by decide) (by rw [c10]; rfl) (by decide) ?_
            refine x_iload_n C (i := 3) dX8_peg_65 rfl rfl ?_
            exact x_iret C E dX8_peg_66 (hE r7 (Option.some.inj h).symm)
          · have h := ifN h c10
            refine x_lookup C (off := 34) (tgt := 67) dX8_peg_33 (by decide) (by rw [show (#[(0, 27), (1, 32)] : Array (Int × Int)).toList = [(0, 27), (1, 32)] from rfl, lv_osw c8 (by decide), lv_osw c10 (by decide)]; rfl) (by decide) ?_
            refine x_iload_n C (i := 3) dX8_peg_67 rfl rfl ?_
            refine x_if_ne C (tgt := 76) dX8_peg_68 (by decide) (fun c11 => ?_) (fun c11 => ?_)
            · have h := ifN h c11
              refine x_aload_n C (i := 0) dX8_peg_76 rfl rfl ?_
              obtain ⟨x12, ex12, h⟩ := ob h
              refine x_getR C fl_X8_25 dX8_peg_77 ex12 ?_
              refine x_iload_n C (i := 1) dX8_peg_80 rfl rfl ?_
              obtain ⟨r13, er13, h⟩ := ob h
              refine x_callVr C Z mv_X2_topOf lk_X8_137 (rv_h er13) (ct_X2_topOf er13) (by decide) rfl rfl (Nat.le_of_ble_eq_true rfl) dX8_peg_81 ?_
              exact x_iret C E dX8_peg_84 (hE r13 (Option.some.inj h).symm)
            · have h := ifP h c11
              refine x_ldc C kc_X8_179 dX8_peg_71 ?_
              refine x_goto C (tgt := 84) dX8_peg_73 (by decide) ?_
              exact x_iret C E dX8_peg_84 (hE (-1000000) (Option.some.inj h).symm)
      · have h := ifN h c5
        refine x_ldc C kc_X8_55 dX8_peg_20 ?_
        exact x_iret C E dX8_peg_22 (hE (-1000001) (Option.some.inj h).symm)
theorem dX8_can_0 : decode cX8_can 0 = .ok (.aload_n 0, 1) := by decide +kernel
theorem dX8_can_1 : decode cX8_can 1 = .ok (.getfield 25, 3) := by decide +kernel
theorem dX8_can_4 : decode cX8_can 4 = .ok (.invokevirtual 156, 3) := by decide +kernel
theorem dX8_can_7 : decode cX8_can 7 = .ok (.ifCond .eq 8, 3) := by decide +kernel
theorem dX8_can_10 : decode cX8_can 10 = .ok (.ldc 133, 2) := by decide +kernel
theorem dX8_can_12 : decode cX8_can 12 = .ok (.goto 10, 3) := by decide +kernel
theorem dX8_can_15 : decode cX8_can 15 = .ok (.aload_n 0, 1) := by decide +kernel
theorem dX8_can_16 : decode cX8_can 16 = .ok (.getfield 25, 3) := by decide +kernel
theorem dX8_can_19 : decode cX8_can 19 = .ok (.invokevirtual 168, 3) := by decide +kernel
theorem dX8_can_22 : decode cX8_can 22 = .ok (.ireturn, 1) := by decide +kernel
def m_X8_can (N : Nat) (σ : Hp) (t0 : Nat) : Option (Int32) :=
  (rv N σ t0 8).bind fun _ =>
  (gR N σ t0 8 2).bind fun x1 =>
  (m_X2_isNone N σ x1).bind fun r2 =>
  if r2 = 0 then
   (gR N σ t0 8 2).bind fun x4 =>
  (m_X2_movesNow N σ x4).bind fun r5 =>
  some r5
  else
   some (-1000002)
set_option maxHeartbeats 4000000 in
set_option maxRecDepth 100000 in
theorem ct_X8_can {l : Launch} {D : va_G} {cy : Nat → Nat} {N : Nat} {σ : Hp} {t0 : Nat} {r : Int32} (h : m_X8_can N σ t0 = some r) : Ct l D cy yX8_can cX8_can 1 (some .int) 4 [.ref t0] N σ (fun v s' => v = (some (.int r)) ∧ s' = σ) := by
  refine Ct.intro [some (.ref t0)] (by decide) rfl (Nat.le_of_ble_eq_true rfl) ?_
  intro κ ω e1 e2 e3 e4 C Z E
  subst e1; subst e2; subst e3; subst e4
  have C : Cx κ 1 4 cX8_can RX8 "can" := C
  have hE : ∀ x : Int32, r = x → ((some (Value.int x)) = (some (Value.int r)) ∧ σ = σ) := fun x hx => by subst hx; exact ⟨rfl, rfl⟩
  unfold m_X8_can at h
  obtain ⟨_, _, h⟩ := ob h
  refine x_aload_n C (i := 0) dX8_can_0 rfl rfl ?_
  obtain ⟨x1, ex1, h⟩ := ob h
  refine x_getR C fl_X8_25 dX8_can_1 ex1 ?_
  obtain ⟨r2, er2, h⟩ := ob h
  refine x_callVr C Z mv_X2_isNone lk_X8_156 (rv_h er2) (ct_X2_isNone er2) (by decide) rfl rfl (Nat.le_of_ble_eq_true rfl) dX8_can_4 ?_
  refine x_if_eq C (tgt := 15) dX8_can_7 (by decide) (fun c3 => ?_) (fun c3 => ?_)
  · have h := ifP h c3
    refine x_aload_n C (i := 0) dX8_can_15 rfl rfl ?_
    obtain ⟨x4, ex4, h⟩ := ob h
    refine x_getR C fl_X8_25 dX8_can_16 ex4 ?_
    obtain ⟨r5, er5, h⟩ := ob h
    refine x_callVr C Z mv_X2_movesNow lk_X8_168 (rv_h er5) (ct_X2_movesNow er5) (by decide) rfl rfl (Nat.le_of_ble_eq_true rfl) dX8_can_19 ?_
    exact x_iret C E dX8_can_22 (hE r5 (Option.some.inj h).symm)
  · have h := ifN h c3
    refine x_ldc C kc_X8_133 dX8_can_10 ?_
    refine x_goto C (tgt := 22) dX8_can_12 (by decide) ?_
    exact x_iret C E dX8_can_22 (hE (-1000002) (Option.some.inj h).symm)
theorem dX8_netNow_0 : decode cX8_netNow 0 = .ok (.aload_n 0, 1) := by decide +kernel
theorem dX8_netNow_1 : decode cX8_netNow 1 = .ok (.getfield 281, 3) := by decide +kernel
theorem dX8_netNow_4 : decode cX8_netNow 4 = .ok (.ifnonnull 14, 3) := by decide +kernel
theorem dX8_netNow_7 : decode cX8_netNow 7 = .ok (.aload_n 0, 1) := by decide +kernel
theorem dX8_netNow_8 : decode cX8_netNow 8 = .ok (.new 285, 3) := by decide +kernel
theorem dX8_netNow_11 : decode cX8_netNow 11 = .ok (.dup, 1) := by decide +kernel
theorem dX8_netNow_12 : decode cX8_netNow 12 = .ok (.invokespecial 287, 3) := by decide +kernel
theorem dX8_netNow_15 : decode cX8_netNow 15 = .ok (.putfield 281, 3) := by decide +kernel
theorem dX8_netNow_18 : decode cX8_netNow 18 = .ok (.aload_n 0, 1) := by decide +kernel
theorem dX8_netNow_19 : decode cX8_netNow 19 = .ok (.getfield 281, 3) := by decide +kernel
theorem dX8_netNow_22 : decode cX8_netNow 22 = .ok (.aload_n 0, 1) := by decide +kernel
theorem dX8_netNow_23 : decode cX8_netNow 23 = .ok (.getfield 25, 3) := by decide +kernel
theorem dX8_netNow_26 : decode cX8_netNow 26 = .ok (.invokevirtual 288, 3) := by decide +kernel
theorem dX8_netNow_29 : decode cX8_netNow 29 = .ok (.aload_n 0, 1) := by decide +kernel
theorem dX8_netNow_30 : decode cX8_netNow 30 = .ok (.getfield 281, 3) := by decide +kernel
theorem dX8_netNow_33 : decode cX8_netNow 33 = .ok (.areturn, 1) := by decide +kernel
noncomputable def m_X8_netNow (N : Nat) (σ : Hp) (t0 : Nat) : Option (Nat × Nat × Hp) :=
  (rv N σ t0 8).bind fun _ =>
  (gQ N σ t0 8 7).bind fun x1 =>
  ((cQ x1 (
   (al N σ [t0, t0] (0 + 1) (0 + 3) 3 8201).bind fun u10 =>
  (mkc σ N (.inr (4, [.null, .null, .int 0]))).bind fun σ11 =>
  (al (N + 1) σ11 [t0, N, t0] (0 + 1 + 2) (0 + 3 + 8198) 3 8201).bind fun u12 =>
  (m_X4_init (N + 1) σ11 N).bind fun r14 =>
  (nb r14.1).bind fun u13 =>
  (pV r14.1 r14.2 t0 8 7 (.ref N)).bind fun σ15 =>
  some (r14.1, σ15)) (fun q9 =>
   some (N, σ))) : Option (Nat × Hp)).bind fun z2 =>
  (gR z2.1 z2.2 t0 8 7).bind fun x3 =>
  (gR z2.1 z2.2 t0 8 2).bind fun x4 =>
  (m_X4_lookAt z2.1 z2.2 x3 x4).bind fun r5 =>
  (gR z2.1 r5 t0 8 7).bind fun x6 =>
  some (x6, z2.1, r5)
set_option maxHeartbeats 4000000 in
set_option maxRecDepth 100000 in
theorem ct_X8_netNow {l : Launch} {D : va_G} {cy : Nat → Nat} {N : Nat} {σ : Hp} {t0 : Nat} {r : Nat × Nat × Hp} (h : m_X8_netNow N σ t0 = some r) : CtA l D cy yX8_netNow cX8_netNow 1 (some (.object "PegDiscs$Net")) 3 3 8201 [.ref t0] N σ (fun v n' s' => v = (some (.ref r.1)) ∧ n' = r.2.1 ∧ s' = r.2.2) := by
  refine CtA.intro [some (.ref t0)] (by decide) rfl (Nat.le_of_ble_eq_true rfl) ?_
  intro κ ad0 e1 e2 e3 hRc hRs C Z E
  subst e1; subst e2; subst e3
  have C : Cx κ 1 3 cX8_netNow RX8 "netNow" := C
  have G := Ag.rf N ad0 0 0
  have hE : ∀ x : Nat × Nat × Hp, r = x → ((some (Value.ref x.1)) = (some (Value.ref r.1)) ∧ x.2.1 = r.2.1 ∧ x.2.2 = r.2.2) := fun x hx => by subst hx; exact ⟨rfl, rfl, rfl⟩
  unfold m_X8_netNow at h
  obtain ⟨_, _, h⟩ := ob h
  refine x_aload_n C (i := 0) dX8_netNow_0 rfl rfl ?_
  obtain ⟨x1, ex1, h⟩ := ob h
  refine x_getQ C fl_X8_281 dX8_netNow_1 ex1 ?_
  obtain ⟨z2, hz2, h⟩ := ob h
  have hJ7 : ∀ ad, Zx κ (z2.1, ad, 0 + 3, 0 + 8201) → Ag N ad0 (z2.1, ad, 0 + 3, 0 + 8201) → X κ 1 (z2.1, ad, 0 + 3, 0 + 8201) 18 [some (.ref t0)] [] z2.2 := by
    intro ad Z G
    refine x_aload_n C (i := 0) dX8_netNow_18 rfl rfl ?_
    obtain ⟨x3, ex3, h⟩ := ob h
    refine x_getR C fl_X8_281 dX8_netNow_19 ex3 ?_
    refine x_aload_n C (i := 0) dX8_netNow_22 rfl rfl ?_
    obtain ⟨x4, ex4, h⟩ := ob h
    refine x_getR C fl_X8_25 dX8_netNow_23 ex4 ?_
    obtain ⟨r5, er5, h⟩ := ob h
    refine x_callVn C Z mv_X4_lookAt lk_X8_288 (rv_h er5) (ct_X4_lookAt er5) (by decide) rfl rfl (Nat.le_of_ble_eq_true rfl) dX8_netNow_26 ?_
    refine x_aload_n C (i := 0) dX8_netNow_29 rfl rfl ?_
    obtain ⟨x6, ex6, h⟩ := ob h
    refine x_getR C fl_X8_281 dX8_netNow_30 ex6 ?_
    exact x_aretA C E G ⟨hRc ▸ Z.1.1, hRs ▸ Z.1.2⟩ (q := some x6) dX8_netNow_33 (hE (x6, z2.1, r5) (Option.some.inj h).symm)
  clear h
  have h := hz2
  refine x_ifnonnull C (tgt := 18) dX8_netNow_4 (by decide) (fun q9 hq => ?_) (fun hq => ?_)
  · subst hq
    have h := cQ_s h
    refine x_wk [true] (lo' := [some (.ref t0)]) rfl ?_
    refine g_wide (c' := 0 + 3) (s' := 0 + 8201) Z G hRc hRs ⟨by decide, by decide⟩ ⟨by decide, by decide⟩ (fun Z G => ?_)
    obtain rfl := Option.some.inj h
    exact hJ7 _ Z G
  · subst hq
    have h := cQ_n h
    refine x_aload_n C (i := 0) dX8_netNow_7 rfl rfl ?_
    obtain ⟨u10, eu10, h⟩ := ob h
    obtain ⟨σ11, eσ11, h⟩ := ob h
    refine g_new C Z G hRc hRs nw_X8_285 eu10 rfl eσ11 dX8_netNow_8 (fun ad Z G => ?_)
    refine x_dup C dX8_netNow_11 rfl ?_
    obtain ⟨u12, eu12, h⟩ := ob h
    obtain ⟨r14, er14, h⟩ := ob h
    obtain ⟨u13, eu13, h⟩ := ob h
    refine g_callI C Z G hRc hRs mi_X4_init lk_X8_287 (ct_X4_init er14) (by decide) rfl rfl (Nat.le_of_ble_eq_true rfl) eu12 rfl eu13 dX8_netNow_12 (fun ad Z G => ?_)
    obtain ⟨σ15, eσ15, h⟩ := ob h
    refine x_put C pl_X8_281 dX8_netNow_15 (fun _ => ⟨rfl, rfl⟩) eσ15 ?_
    refine x_wk [true] (lo' := [some (.ref t0)]) rfl ?_
    refine g_wide (c' := 0 + 3) (s' := 0 + 8201) Z G hRc hRs ⟨by decide, by decide⟩ ⟨by decide, by decide⟩ (fun Z G => ?_)
    obtain rfl := Option.some.inj h
    exact hJ7 _ Z G
theorem dX8_searched_0 : decode cX8_searched 0 = .ok (.aload_n 0, 1) := by decide +kernel
theorem dX8_searched_1 : decode cX8_searched 1 = .ok (.getfield 291, 3) := by decide +kernel
theorem dX8_searched_4 : decode cX8_searched 4 = .ok (.ifnonnull 14, 3) := by decide +kernel
theorem dX8_searched_7 : decode cX8_searched 7 = .ok (.aload_n 0, 1) := by decide +kernel
theorem dX8_searched_8 : decode cX8_searched 8 = .ok (.new 189, 3) := by decide +kernel
theorem dX8_searched_11 : decode cX8_searched 11 = .ok (.dup, 1) := by decide +kernel
theorem dX8_searched_12 : decode cX8_searched 12 = .ok (.invokespecial 295, 3) := by decide +kernel
theorem dX8_searched_15 : decode cX8_searched 15 = .ok (.putfield 291, 3) := by decide +kernel
theorem dX8_searched_18 : decode cX8_searched 18 = .ok (.aload_n 0, 1) := by decide +kernel
theorem dX8_searched_19 : decode cX8_searched 19 = .ok (.getfield 291, 3) := by decide +kernel
theorem dX8_searched_22 : decode cX8_searched 22 = .ok (.getfield 296, 3) := by decide +kernel
theorem dX8_searched_25 : decode cX8_searched 25 = .ok (.aload_n 0, 1) := by decide +kernel
theorem dX8_searched_26 : decode cX8_searched 26 = .ok (.getfield 25, 3) := by decide +kernel
theorem dX8_searched_29 : decode cX8_searched 29 = .ok (.invokevirtual 299, 3) := by decide +kernel
theorem dX8_searched_32 : decode cX8_searched 32 = .ok (.ifCond .ne 25, 3) := by decide +kernel
theorem dX8_searched_35 : decode cX8_searched 35 = .ok (.aload_n 0, 1) := by decide +kernel
theorem dX8_searched_36 : decode cX8_searched 36 = .ok (.getfield 291, 3) := by decide +kernel
theorem dX8_searched_39 : decode cX8_searched 39 = .ok (.aload_n 0, 1) := by decide +kernel
theorem dX8_searched_40 : decode cX8_searched 40 = .ok (.getfield 25, 3) := by decide +kernel
theorem dX8_searched_43 : decode cX8_searched 43 = .ok (.invokevirtual 302, 3) := by decide +kernel
theorem dX8_searched_46 : decode cX8_searched 46 = .ok (.aload_n 0, 1) := by decide +kernel
theorem dX8_searched_47 : decode cX8_searched 47 = .ok (.getfield 291, 3) := by decide +kernel
theorem dX8_searched_50 : decode cX8_searched 50 = .ok (.aload_n 0, 1) := by decide +kernel
theorem dX8_searched_51 : decode cX8_searched 51 = .ok (.invokevirtual 304, 3) := by decide +kernel
theorem dX8_searched_54 : decode cX8_searched 54 = .ok (.invokevirtual 308, 3) := by decide +kernel
theorem dX8_searched_57 : decode cX8_searched 57 = .ok (.aload_n 0, 1) := by decide +kernel
theorem dX8_searched_58 : decode cX8_searched 58 = .ok (.getfield 291, 3) := by decide +kernel
theorem dX8_searched_61 : decode cX8_searched 61 = .ok (.areturn, 1) := by decide +kernel
noncomputable def m_X8_searched (N : Nat) (σ : Hp) (t0 : Nat) : Option (Nat × Nat × Hp) :=
  (rv N σ t0 8).bind fun _ =>
  (gQ N σ t0 8 8).bind fun x1 =>
  ((cQ x1 (
   (al N σ [t0, t0] (0 + 1) (0 + 11) 9 40986).bind fun u21 =>
  (mkc σ N (.inr (6, [.null, .null, .null, .null, .null, .int 0, .int 0, .int 0, .int 0, .int 0, .int 0]))).bind fun σ22 =>
  (al (N + 1) σ22 [t0, N, t0] (0 + 1 + 5) (0 + 11 + 32774) 9 40986).bind fun u23 =>
  (m_X6_init (N + 1) σ22 N).bind fun r25 =>
  (nb r25.1).bind fun u24 =>
  (pV r25.1 r25.2 t0 8 8 (.ref N)).bind fun σ26 =>
  some (r25.1, σ26)) (fun q20 =>
   some (N, σ))) : Option (Nat × Hp)).bind fun z2 =>
  (gR z2.1 z2.2 t0 8 8).bind fun x3 =>
  (gR z2.1 z2.2 x3 6 0).bind fun x4 =>
  (gR z2.1 z2.2 t0 8 2).bind fun x5 =>
  (m_X2_hasFutureOf z2.1 z2.2 x4 x5).bind fun r6 =>
  if r6 = 0 then
   (gR z2.1 z2.2 t0 8 8).bind fun x9 =>
  (gR z2.1 z2.2 t0 8 2).bind fun x10 =>
  (m_X6_begin z2.1 z2.2 x9 x10).bind fun r11 =>
  (gR z2.1 r11 t0 8 8).bind fun x12 =>
  (al z2.1 r11 [t0, x12] (0 + 6 + 3) (0 + 32785 + 8201) 9 40986).bind fun u14 =>
  (m_X8_netNow z2.1 r11 t0).bind fun r13 =>
  (nb r13.2.1).bind fun u15 =>
  (m_X6_spread r13.2.1 r13.2.2 x12 r13.1).bind fun r16 =>
  (gR r13.2.1 r16 t0 8 8).bind fun x17 =>
  some (x17, r13.2.1, r16)
  else
   (gR z2.1 z2.2 t0 8 8).bind fun x8 =>
  some (x8, z2.1, z2.2)
set_option maxHeartbeats 4000000 in
set_option maxRecDepth 100000 in
theorem ct_X8_searched {l : Launch} {D : va_G} {cy : Nat → Nat} {N : Nat} {σ : Hp} {t0 : Nat} {r : Nat × Nat × Hp} (h : m_X8_searched N σ t0 = some r) : CtA l D cy yX8_searched cX8_searched 1 (some (.object "PegDiscs$Search")) 5 9 40986 [.ref t0] N σ (fun v n' s' => v = (some (.ref r.1)) ∧ n' = r.2.1 ∧ s' = r.2.2) := by
  refine CtA.intro [some (.ref t0)] (by decide) rfl (Nat.le_of_ble_eq_true rfl) ?_
  intro κ ad0 e1 e2 e3 hRc hRs C Z E
  subst e1; subst e2; subst e3
  have C : Cx κ 1 5 cX8_searched RX8 "searched" := C
  have G := Ag.rf N ad0 0 0
  have hE : ∀ x : Nat × Nat × Hp, r = x → ((some (Value.ref x.1)) = (some (Value.ref r.1)) ∧ x.2.1 = r.2.1 ∧ x.2.2 = r.2.2) := fun x hx => by subst hx; exact ⟨rfl, rfl, rfl⟩
  unfold m_X8_searched at h
  obtain ⟨_, _, h⟩ := ob h
  refine x_aload_n C (i := 0) dX8_searched_0 rfl rfl ?_
  obtain ⟨x1, ex1, h⟩ := ob h
  refine x_getQ C fl_X8_291 dX8_searched_1 ex1 ?_
  obtain ⟨z2, hz2, h⟩ := ob h
  have hJ18 : ∀ ad, Zx κ (z2.1, ad, 0 + 6, 0 + 32785) → Ag N ad0 (z2.1, ad, 0 + 6, 0 + 32785) → X κ 1 (z2.1, ad, 0 + 6, 0 + 32785) 18 [some (.ref t0)] [] z2.2 := by
    intro ad Z G
    refine x_aload_n C (i := 0) dX8_searched_18 rfl rfl ?_
    obtain ⟨x3, ex3, h⟩ := ob h
    refine x_getR C fl_X8_291 dX8_searched_19 ex3 ?_
    obtain ⟨x4, ex4, h⟩ := ob h
    refine x_getR C fl_X8_296 dX8_searched_22 ex4 ?_
    refine x_aload_n C (i := 0) dX8_searched_25 rfl rfl ?_
    obtain ⟨x5, ex5, h⟩ := ob h
    refine x_getR C fl_X8_25 dX8_searched_26 ex5 ?_
    obtain ⟨r6, er6, h⟩ := ob h
    refine x_callVr C Z mv_X2_hasFutureOf lk_X8_299 (rv_h er6) (ct_X2_hasFutureOf er6) (by decide) rfl rfl (Nat.le_of_ble_eq_true rfl) dX8_searched_29 ?_
    refine x_if_ne C (tgt := 57) dX8_searched_32 (by decide) (fun c7 => ?_) (fun c7 => ?_)
    · have h := ifN h c7
      refine x_aload_n C (i := 0) dX8_searched_57 rfl rfl ?_
      obtain ⟨x8, ex8, h⟩ := ob h
      refine x_getR C fl_X8_291 dX8_searched_58 ex8 ?_
      exact x_aretA C E G ⟨hRc ▸ Z.1.1, hRs ▸ Z.1.2⟩ (q := some x8) dX8_searched_61 (hE (x8, z2.1, z2.2) (Option.some.inj h).symm)
    · have h := ifP h c7
      refine x_aload_n C (i := 0) dX8_searched_35 rfl rfl ?_
      obtain ⟨x9, ex9, h⟩ := ob h
      refine x_getR C fl_X8_291 dX8_searched_36 ex9 ?_
      refine x_aload_n C (i := 0) dX8_searched_39 rfl rfl ?_
      obtain ⟨x10, ex10, h⟩ := ob h
      refine x_getR C fl_X8_25 dX8_searched_40 ex10 ?_
      obtain ⟨r11, er11, h⟩ := ob h
      refine x_callVn C Z mv_X6_begin lk_X8_302 (rv_h er11) (ct_X6_begin er11) (by decide) rfl rfl (Nat.le_of_ble_eq_true rfl) dX8_searched_43 ?_
      refine x_aload_n C (i := 0) dX8_searched_46 rfl rfl ?_
      obtain ⟨x12, ex12, h⟩ := ob h
      refine x_getR C fl_X8_291 dX8_searched_47 ex12 ?_
      refine x_aload_n C (i := 0) dX8_searched_50 rfl rfl ?_
      obtain ⟨u14, eu14, h⟩ := ob h
      obtain ⟨r13, er13, h⟩ := ob h
      obtain ⟨u15, eu15, h⟩ := ob h
      refine g_callVr C Z G hRc hRs mv_X8_netNow lk_X8_304 (rv_h er13) (ct_X8_netNow er13) (by decide) rfl rfl (Nat.le_of_ble_eq_true rfl) eu14 rfl eu15 dX8_searched_51 (fun ad Z G => ?_)
      obtain ⟨r16, er16, h⟩ := ob h
      refine x_callVn C Z mv_X6_spread lk_X8_308 (rv_h er16) (ct_X6_spread er16) (by decide) rfl rfl (Nat.le_of_ble_eq_true rfl) dX8_searched_54 ?_
      refine x_aload_n C (i := 0) dX8_searched_57 rfl rfl ?_
      obtain ⟨x17, ex17, h⟩ := ob h
      refine x_getR C fl_X8_291 dX8_searched_58 ex17 ?_
      exact x_aretA C E G ⟨hRc ▸ Z.1.1, hRs ▸ Z.1.2⟩ (q := some x17) dX8_searched_61 (hE (x17, r13.2.1, r16) (Option.some.inj h).symm)
  clear h
  have h := hz2
  refine x_ifnonnull C (tgt := 18) dX8_searched_4 (by decide) (fun q20 hq => ?_) (fun hq => ?_)
  · subst hq
    have h := cQ_s h
    refine x_wk [true] (lo' := [some (.ref t0)]) rfl ?_
    refine g_wide (c' := 0 + 6) (s' := 0 + 32785) Z G hRc hRs ⟨by decide, by decide⟩ ⟨by decide, by decide⟩ (fun Z G => ?_)
    obtain rfl := Option.some.inj h
    exact hJ18 _ Z G
  · subst hq
    have h := cQ_n h
    refine x_aload_n C (i := 0) dX8_searched_7 rfl rfl ?_
    obtain ⟨u21, eu21, h⟩ := ob h
    obtain ⟨σ22, eσ22, h⟩ := ob h
    refine g_new C Z G hRc hRs nw_X8_189 eu21 rfl eσ22 dX8_searched_8 (fun ad Z G => ?_)
    refine x_dup C dX8_searched_11 rfl ?_
    obtain ⟨u23, eu23, h⟩ := ob h
    obtain ⟨r25, er25, h⟩ := ob h
    obtain ⟨u24, eu24, h⟩ := ob h
    refine g_callI C Z G hRc hRs mi_X6_init lk_X8_295 (ct_X6_init er25) (by decide) rfl rfl (Nat.le_of_ble_eq_true rfl) eu23 rfl eu24 dX8_searched_12 (fun ad Z G => ?_)
    obtain ⟨σ26, eσ26, h⟩ := ob h
    refine x_put C pl_X8_291 dX8_searched_15 (fun _ => ⟨rfl, rfl⟩) eσ26 ?_
    refine x_wk [true] (lo' := [some (.ref t0)]) rfl ?_
    refine g_wide (c' := 0 + 6) (s' := 0 + 32785) Z G hRc hRs ⟨by decide, by decide⟩ ⟨by decide, by decide⟩ (fun Z G => ?_)
    obtain rfl := Option.some.inj h
    exact hJ18 _ Z G
theorem dX8_least_0 : decode cX8_least 0 = .ok (.aload_n 0, 1) := by decide +kernel
theorem dX8_least_1 : decode cX8_least 1 = .ok (.getfield 25, 3) := by decide +kernel
theorem dX8_least_4 : decode cX8_least 4 = .ok (.invokevirtual 156, 3) := by decide +kernel
theorem dX8_least_7 : decode cX8_least 7 = .ok (.ifCond .eq 6, 3) := by decide +kernel
theorem dX8_least_10 : decode cX8_least 10 = .ok (.ldc 133, 2) := by decide +kernel
theorem dX8_least_12 : decode cX8_least 12 = .ok (.ireturn, 1) := by decide +kernel
theorem dX8_least_13 : decode cX8_least 13 = .ok (.aload_n 0, 1) := by decide +kernel
theorem dX8_least_14 : decode cX8_least 14 = .ok (.iload_n 1, 1) := by decide +kernel
theorem dX8_least_15 : decode cX8_least 15 = .ok (.invokevirtual 51, 3) := by decide +kernel
theorem dX8_least_18 : decode cX8_least 18 = .ok (.astore 4, 2) := by decide +kernel
theorem dX8_least_20 : decode cX8_least 20 = .ok (.aload 4, 2) := by decide +kernel
theorem dX8_least_22 : decode cX8_least 22 = .ok (.ifnull 8, 3) := by decide +kernel
theorem dX8_least_25 : decode cX8_least 25 = .ok (.iload_n 3, 1) := by decide +kernel
theorem dX8_least_26 : decode cX8_least 26 = .ok (.iconst (-1), 1) := by decide +kernel
theorem dX8_least_27 : decode cX8_least 27 = .ok (.if_icmp .ge 6, 3) := by decide +kernel
theorem dX8_least_30 : decode cX8_least 30 = .ok (.ldc 55, 2) := by decide +kernel
theorem dX8_least_32 : decode cX8_least 32 = .ok (.ireturn, 1) := by decide +kernel
theorem dX8_least_33 : decode cX8_least 33 = .ok (.aload 4, 2) := by decide +kernel
theorem dX8_least_35 : decode cX8_least 35 = .ok (.iload_n 2, 1) := by decide +kernel
theorem dX8_least_36 : decode cX8_least 36 = .ok (.aload_n 0, 1) := by decide +kernel
theorem dX8_least_37 : decode cX8_least 37 = .ok (.getfield 25, 3) := by decide +kernel
theorem dX8_least_40 : decode cX8_least 40 = .ok (.getfield 124, 3) := by decide +kernel
theorem dX8_least_43 : decode cX8_least 43 = .ok (.invokevirtual 67, 3) := by decide +kernel
theorem dX8_least_46 : decode cX8_least 46 = .ok (.istore 5, 2) := by decide +kernel
theorem dX8_least_48 : decode cX8_least 48 = .ok (.iload 5, 2) := by decide +kernel
theorem dX8_least_50 : decode cX8_least 50 = .ok (.ifCond .eq 10, 3) := by decide +kernel
theorem dX8_least_53 : decode cX8_least 53 = .ok (.aload_n 0, 1) := by decide +kernel
theorem dX8_least_54 : decode cX8_least 54 = .ok (.iload 5, 2) := by decide +kernel
theorem dX8_least_56 : decode cX8_least 56 = .ok (.invokevirtual 56, 3) := by decide +kernel
theorem dX8_least_59 : decode cX8_least 59 = .ok (.ireturn, 1) := by decide +kernel
theorem dX8_least_60 : decode cX8_least 60 = .ok (.aload_n 0, 1) := by decide +kernel
theorem dX8_least_61 : decode cX8_least 61 = .ok (.getfield 25, 3) := by decide +kernel
theorem dX8_least_64 : decode cX8_least 64 = .ok (.aload 4, 2) := by decide +kernel
theorem dX8_least_66 : decode cX8_least 66 = .ok (.iload_n 2, 1) := by decide +kernel
theorem dX8_least_67 : decode cX8_least 67 = .ok (.invokevirtual 180, 3) := by decide +kernel
theorem dX8_least_70 : decode cX8_least 70 = .ok (.istore 6, 2) := by decide +kernel
theorem dX8_least_72 : decode cX8_least 72 = .ok (.aload_n 0, 1) := by decide +kernel
theorem dX8_least_73 : decode cX8_least 73 = .ok (.iload 6, 2) := by decide +kernel
theorem dX8_least_75 : decode cX8_least 75 = .ok (.ifCond .ge 8, 3) := by decide +kernel
theorem dX8_least_78 : decode cX8_least 78 = .ok (.ldc 179, 2) := by decide +kernel
theorem dX8_least_80 : decode cX8_least 80 = .ok (.goto 13, 3) := by decide +kernel
theorem dX8_least_83 : decode cX8_least 83 = .ok (.aload_n 0, 1) := by decide +kernel
theorem dX8_least_84 : decode cX8_least 84 = .ok (.invokevirtual 184, 3) := by decide +kernel
theorem dX8_least_87 : decode cX8_least 87 = .ok (.iload 6, 2) := by decide +kernel
theorem dX8_least_89 : decode cX8_least 89 = .ok (.iload_n 3, 1) := by decide +kernel
theorem dX8_least_90 : decode cX8_least 90 = .ok (.invokevirtual 188, 3) := by decide +kernel
theorem dX8_least_93 : decode cX8_least 93 = .ok (.invokevirtual 64, 3) := by decide +kernel
theorem dX8_least_96 : decode cX8_least 96 = .ok (.ireturn, 1) := by decide +kernel
noncomputable def m_X8_least (N : Nat) (σ : Hp) (t0 : Nat) (p1 : Int32) (p2 : Int32) (p3 : Int32) : Option (Int32 × Nat × Hp) :=
  (rv N σ t0 8).bind fun _ =>
  (gR N σ t0 8 2).bind fun x1 =>
  (m_X2_isNone N σ x1).bind fun r2 =>
  if r2 = 0 then
   (m_X8_rowAt N σ t0 p1).bind fun r4 =>
  cQ r4 (
   some ((-1000001), N, σ)) (fun q5 =>
   if (-1) ≤ p3 then
   (gR N σ t0 8 2).bind fun x7 =>
  (gI N σ x7 2 1).bind fun x8 =>
  (m_X5_flaw N σ q5 p2 x8).bind fun r9 =>
  if r9 = 0 then
   (gR N σ t0 8 2).bind fun x11 =>
  (m_X2_arrangedBy N σ x11 q5 p2).bind fun r12 =>
  ((if 0 ≤ r12 then
   (al N σ [t0, q5, t0] (0 + 9) (0 + 40986) 9 40986).bind fun u19 =>
  (m_X8_searched N σ t0).bind fun r18 =>
  (nb r18.2.1).bind fun u20 =>
  (m_X6_fewest r18.2.1 r18.2.2 r18.1 r12 p3).bind fun r21 =>
  some (r21, r18.2.1, r18.2.2)
  else
   some ((-1000000), N, σ)) : Option (Int32 × Nat × Hp)).bind fun z13 =>
  (m_X8_well z13.2.1 z13.2.2 t0 z13.1).bind fun r14 =>
  some (r14.1, z13.2.1, r14.2)
  else
   (m_X8_found N σ t0 r9).bind fun r22 =>
  some (r22.1, N, r22.2)
  else
   some ((-1000001), N, σ))
  else
   some ((-1000002), N, σ)
set_option maxHeartbeats 4000000 in
set_option maxRecDepth 100000 in
theorem ct_X8_least {l : Launch} {D : va_G} {cy : Nat → Nat} {N : Nat} {σ : Hp} {t0 : Nat} {p1 : Int32} {p2 : Int32} {p3 : Int32} {r : Int32 × Nat × Hp} (h : m_X8_least N σ t0 p1 p2 p3 = some r) : CtA l D cy yX8_least cX8_least 7 (some .int) 6 9 40986 [.ref t0, .int p1, .int p2, .int p3] N σ (fun v n' s' => v = (some (.int r.1)) ∧ n' = r.2.1 ∧ s' = r.2.2) := by
  refine CtA.intro [some (.ref t0), some (.int p1), some (.int p2), some (.int p3), none, none, none] (by decide) rfl (Nat.le_of_ble_eq_true rfl) ?_
  intro κ ad0 e1 e2 e3 hRc hRs C Z E
  subst e1; subst e2; subst e3
  have C : Cx κ 7 6 cX8_least RX8 "least" := C
  have G := Ag.rf N ad0 0 0
  have hE : ∀ x : Int32 × Nat × Hp, r = x → ((some (Value.int x.1)) = (some (Value.int r.1)) ∧ x.2.1 = r.2.1 ∧ x.2.2 = r.2.2) := fun x hx => by subst hx; exact ⟨rfl, rfl, rfl⟩
  unfold m_X8_least at h
  obtain ⟨_, _, h⟩ := ob h
  refine x_aload_n C (i := 0) dX8_least_0 rfl rfl ?_
  obtain ⟨x1, ex1, h⟩ := ob h
  refine x_getR C fl_X8_25 dX8_least_1 ex1 ?_
  obtain ⟨r2, er2, h⟩ := ob h
  refine x_callVr C Z mv_X2_isNone lk_X8_156 (rv_h er2) (ct_X2_isNone er2) (by decide) rfl rfl (Nat.le_of_ble_eq_true rfl) dX8_least_4 ?_
  refine x_if_eq C (tgt := 13) dX8_least_7 (by decide) (fun c3 => ?_) (fun c3 => ?_)
  · have h := ifP h c3
    refine x_aload_n C (i := 0) dX8_least_13 rfl rfl ?_
    refine x_iload_n C (i := 1) dX8_least_14 rfl rfl ?_
    obtain ⟨r4, er4, h⟩ := ob h
    refine x_callVr C Z mv_X8_rowAt lk_X8_51 (rv_h er4) (ct_X8_rowAt er4) (by decide) rfl rfl (Nat.le_of_ble_eq_true rfl) dX8_least_15 ?_
    refine x_astoreQ C (i := 4) (lo' := [some (.ref t0), some (.int p1), some (.int p2), some (.int p3), some (va_rf r4), none, none]) dX8_least_18 (by decide) rfl rfl ?_
    refine x_aloadQ C (i := 4) dX8_least_20 rfl ?_
    refine x_ifnull C (tgt := 30) dX8_least_22 (by decide) (fun hq => ?_) (fun q5 hq => ?_)
    · subst hq
      have h := cQ_n h
      refine x_ldc C kc_X8_55 dX8_least_30 ?_
      exact x_iretA C E G ⟨hRc ▸ Z.1.1, hRs ▸ Z.1.2⟩ dX8_least_32 (hE ((-1000001), N, σ) (Option.some.inj h).symm)
    · subst hq
      have h := cQ_s h
      refine x_iload_n C (i := 3) dX8_least_25 rfl rfl ?_
      refine x_iconst C (v := (-1)) dX8_least_26 (by decide) ?_
      refine x_icmp_ge C (tgt := 33) dX8_least_27 (by decide) (fun c6 => ?_) (fun c6 => ?_)
      · have h := ifP h c6
        refine x_aload C (i := 4) dX8_least_33 rfl ?_
        refine x_iload_n C (i := 2) dX8_least_35 rfl rfl ?_
        refine x_aload_n C (i := 0) dX8_least_36 rfl rfl ?_
        obtain ⟨x7, ex7, h⟩ := ob h
        refine x_getR C fl_X8_25 dX8_least_37 ex7 ?_
        obtain ⟨x8, ex8, h⟩ := ob h
        refine x_getI C fl_X8_124 dX8_least_40 ex8 ?_
        obtain ⟨r9, er9, h⟩ := ob h
        refine x_callVr C Z mv_X5_flaw lk_X8_67 (rv_h er9) (ct_X5_flaw er9) (by decide) rfl rfl (Nat.le_of_ble_eq_true rfl) dX8_least_43 ?_
        refine x_istore C (i := 5) (lo' := [some (.ref t0), some (.int p1), some (.int p2), some (.int p3), some (.ref q5), some (.int r9), none]) dX8_least_46 (by decide) rfl rfl ?_
        refine x_iload C (i := 5) dX8_least_48 rfl ?_
        refine x_if_eq C (tgt := 60) dX8_least_50 (by decide) (fun c10 => ?_) (fun c10 => ?_)
        · have h := ifP h c10
          refine x_aload_n C (i := 0) dX8_least_60 rfl rfl ?_
          obtain ⟨x11, ex11, h⟩ := ob h
          refine x_getR C fl_X8_25 dX8_least_61 ex11 ?_
          refine x_aload C (i := 4) dX8_least_64 rfl ?_
          refine x_iload_n C (i := 2) dX8_least_66 rfl rfl ?_
          obtain ⟨r12, er12, h⟩ := ob h
          refine x_callVr C Z mv_X2_arrangedBy lk_X8_180 (rv_h er12) (ct_X2_arrangedBy er12) (by decide) rfl rfl (Nat.le_of_ble_eq_true rfl) dX8_least_67 ?_
          refine x_istore C (i := 6) (lo' := [some (.ref t0), some (.int p1), some (.int p2), some (.int p3), some (.ref q5), some (.int r9), some (.int r12)]) dX8_least_70 (by decide) rfl rfl ?_
          refine x_aload_n C (i := 0) dX8_least_72 rfl rfl ?_
          refine x_iload C (i := 6) dX8_least_73 rfl ?_
          obtain ⟨z13, hz13, h⟩ := ob h
          have hJ15 : ∀ ad, Zx κ (z13.2.1, ad, 0 + 9, 0 + 40986) → Ag N ad0 (z13.2.1, ad, 0 + 9, 0 + 40986) → X κ 7 (z13.2.1, ad, 0 + 9, 0 + 40986) 93 [none, none, none, none, none, none, none] [.int z13.1, .ref t0] z13.2.2 := by
            intro ad Z G
            obtain ⟨r14, er14, h⟩ := ob h
            refine x_callVr C Z mv_X8_well lk_X8_64 (rv_h er14) (ct_X8_well er14) (by decide) rfl rfl (Nat.le_of_ble_eq_true rfl) dX8_least_93 ?_
            exact x_iretA C E G ⟨hRc ▸ Z.1.1, hRs ▸ Z.1.2⟩ dX8_least_96 (hE (r14.1, z13.2.1, r14.2) (Option.some.inj h).symm)
          clear h
          have h := hz13
          refine x_if_ge C (tgt := 83) dX8_least_75 (by decide) (fun c17 => ?_) (fun c17 => ?_)
          · have h := ifP h c17
            refine x_aload_n C (i := 0) dX8_least_83 rfl rfl ?_
            obtain ⟨u19, eu19, h⟩ := ob h
            obtain ⟨r18, er18, h⟩ := ob h
            obtain ⟨u20, eu20, h⟩ := ob h
            refine g_callVr C Z G hRc hRs mv_X8_searched lk_X8_184 (rv_h er18) (ct_X8_searched er18) (by decide) rfl rfl (Nat.le_of_ble_eq_true rfl) eu19 rfl eu20 dX8_least_84 (fun ad Z G => ?_)
            refine x_iload C (i := 6) dX8_least_87 rfl ?_
            refine x_iload_n C (i := 3) dX8_least_89 rfl rfl ?_
            obtain ⟨r21, er21, h⟩ := ob h
            refine x_callVr C Z mv_X6_fewest lk_X8_188 (rv_h er21) (ct_X6_fewest er21) (by decide) rfl rfl (Nat.le_of_ble_eq_true rfl) dX8_least_90 ?_
            refine x_wk [false, false, false, false, false, false, false] (lo' := [none, none, none, none, none, none, none]) rfl ?_
            refine g_wide (c' := 0 + 9) (s' := 0 + 40986) Z G hRc hRs ⟨by decide, by decide⟩ ⟨by decide, by decide⟩ (fun Z G => ?_)
            obtain rfl := Option.some.inj h
            exact hJ15 _ Z G
          · have h := ifN h c17
            refine x_ldc C kc_X8_179 dX8_least_78 ?_
            refine x_goto C (tgt := 93) dX8_least_80 (by decide) ?_
            refine x_wk [false, false, false, false, false, false, false] (lo' := [none, none, none, none, none, none, none]) rfl ?_
            refine g_wide (c' := 0 + 9) (s' := 0 + 40986) Z G hRc hRs ⟨by decide, by decide⟩ ⟨by decide, by decide⟩ (fun Z G => ?_)
            obtain rfl := Option.some.inj h
            exact hJ15 _ Z G
        · have h := ifN h c10
          refine x_aload_n C (i := 0) dX8_least_53 rfl rfl ?_
          refine x_iload C (i := 5) dX8_least_54 rfl ?_
          obtain ⟨r22, er22, h⟩ := ob h
          refine x_callVr C Z mv_X8_found lk_X8_56 (rv_h er22) (ct_X8_found er22) (by decide) rfl rfl (Nat.le_of_ble_eq_true rfl) dX8_least_56 ?_
          exact x_iretA C E G ⟨hRc ▸ Z.1.1, hRs ▸ Z.1.2⟩ dX8_least_59 (hE (r22.1, N, r22.2) (Option.some.inj h).symm)
      · have h := ifN h c6
        refine x_ldc C kc_X8_55 dX8_least_30 ?_
        exact x_iretA C E G ⟨hRc ▸ Z.1.1, hRs ▸ Z.1.2⟩ dX8_least_32 (hE ((-1000001), N, σ) (Option.some.inj h).symm)
  · have h := ifN h c3
    refine x_ldc C kc_X8_133 dX8_least_10 ?_
    exact x_iretA C E G ⟨hRc ▸ Z.1.1, hRs ▸ Z.1.2⟩ dX8_least_12 (hE ((-1000002), N, σ) (Option.some.inj h).symm)
theorem dX8_tower_0 : decode cX8_tower 0 = .ok (.aload_n 0, 1) := by decide +kernel
theorem dX8_tower_1 : decode cX8_tower 1 = .ok (.getfield 25, 3) := by decide +kernel
theorem dX8_tower_4 : decode cX8_tower 4 = .ok (.invokevirtual 156, 3) := by decide +kernel
theorem dX8_tower_7 : decode cX8_tower 7 = .ok (.ifCond .eq 6, 3) := by decide +kernel
theorem dX8_tower_10 : decode cX8_tower 10 = .ok (.ldc 133, 2) := by decide +kernel
theorem dX8_tower_12 : decode cX8_tower 12 = .ok (.ireturn, 1) := by decide +kernel
theorem dX8_tower_13 : decode cX8_tower 13 = .ok (.aload_n 0, 1) := by decide +kernel
theorem dX8_tower_14 : decode cX8_tower 14 = .ok (.getfield 25, 3) := by decide +kernel
theorem dX8_tower_17 : decode cX8_tower 17 = .ok (.iload_n 1, 1) := by decide +kernel
theorem dX8_tower_18 : decode cX8_tower 18 = .ok (.invokevirtual 127, 3) := by decide +kernel
theorem dX8_tower_21 : decode cX8_tower 21 = .ok (.ifCond .eq 8, 3) := by decide +kernel
theorem dX8_tower_24 : decode cX8_tower 24 = .ok (.iload_n 2, 1) := by decide +kernel
theorem dX8_tower_25 : decode cX8_tower 25 = .ok (.iconst (-1), 1) := by decide +kernel
theorem dX8_tower_26 : decode cX8_tower 26 = .ok (.if_icmp .ge 6, 3) := by decide +kernel
theorem dX8_tower_29 : decode cX8_tower 29 = .ok (.ldc 55, 2) := by decide +kernel
theorem dX8_tower_31 : decode cX8_tower 31 = .ok (.ireturn, 1) := by decide +kernel
theorem dX8_tower_32 : decode cX8_tower 32 = .ok (.aload_n 0, 1) := by decide +kernel
theorem dX8_tower_33 : decode cX8_tower 33 = .ok (.invokevirtual 184, 3) := by decide +kernel
theorem dX8_tower_36 : decode cX8_tower 36 = .ok (.aload_n 0, 1) := by decide +kernel
theorem dX8_tower_37 : decode cX8_tower 37 = .ok (.getfield 25, 3) := by decide +kernel
theorem dX8_tower_40 : decode cX8_tower 40 = .ok (.iload_n 1, 1) := by decide +kernel
theorem dX8_tower_41 : decode cX8_tower 41 = .ok (.invokevirtual 193, 3) := by decide +kernel
theorem dX8_tower_44 : decode cX8_tower 44 = .ok (.iload_n 2, 1) := by decide +kernel
theorem dX8_tower_45 : decode cX8_tower 45 = .ok (.invokevirtual 188, 3) := by decide +kernel
theorem dX8_tower_48 : decode cX8_tower 48 = .ok (.ireturn, 1) := by decide +kernel
noncomputable def m_X8_tower (N : Nat) (σ : Hp) (t0 : Nat) (p1 : Int32) (p2 : Int32) : Option (Int32 × Nat × Hp) :=
  (rv N σ t0 8).bind fun _ =>
  (gR N σ t0 8 2).bind fun x1 =>
  (m_X2_isNone N σ x1).bind fun r2 =>
  if r2 = 0 then
   (gR N σ t0 8 2).bind fun x4 =>
  (m_X2_hasPeg N σ x4 p1).bind fun r5 =>
  if r5 = 0 then
   some ((-1000001), N, σ)
  else
   if (-1) ≤ p2 then
   (al N σ [t0] (0 + 9) (0 + 40986) 9 40986).bind fun u9 =>
  (m_X8_searched N σ t0).bind fun r8 =>
  (nb r8.2.1).bind fun u10 =>
  (gR r8.2.1 r8.2.2 t0 8 2).bind fun x11 =>
  (m_X2_allOn r8.2.1 r8.2.2 x11 p1).bind fun r12 =>
  (m_X6_fewest r8.2.1 r8.2.2 r8.1 r12 p2).bind fun r13 =>
  some (r13, r8.2.1, r8.2.2)
  else
   some ((-1000001), N, σ)
  else
   some ((-1000002), N, σ)
set_option maxHeartbeats 4000000 in
set_option maxRecDepth 100000 in
theorem ct_X8_tower {l : Launch} {D : va_G} {cy : Nat → Nat} {N : Nat} {σ : Hp} {t0 : Nat} {p1 : Int32} {p2 : Int32} {r : Int32 × Nat × Hp} (h : m_X8_tower N σ t0 p1 p2 = some r) : CtA l D cy yX8_tower cX8_tower 3 (some .int) 6 9 40986 [.ref t0, .int p1, .int p2] N σ (fun v n' s' => v = (some (.int r.1)) ∧ n' = r.2.1 ∧ s' = r.2.2) := by
  refine CtA.intro [some (.ref t0), some (.int p1), some (.int p2)] (by decide) rfl (Nat.le_of_ble_eq_true rfl) ?_
  intro κ ad0 e1 e2 e3 hRc hRs C Z E
  subst e1; subst e2; subst e3
  have C : Cx κ 3 6 cX8_tower RX8 "tower" := C
  have G := Ag.rf N ad0 0 0
  have hE : ∀ x : Int32 × Nat × Hp, r = x → ((some (Value.int x.1)) = (some (Value.int r.1)) ∧ x.2.1 = r.2.1 ∧ x.2.2 = r.2.2) := fun x hx => by subst hx; exact ⟨rfl, rfl, rfl⟩
  unfold m_X8_tower at h
  obtain ⟨_, _, h⟩ := ob h
  refine x_aload_n C (i := 0) dX8_tower_0 rfl rfl ?_
  obtain ⟨x1, ex1, h⟩ := ob h
  refine x_getR C fl_X8_25 dX8_tower_1 ex1 ?_
  obtain ⟨r2, er2, h⟩ := ob h
  refine x_callVr C Z mv_X2_isNone lk_X8_156 (rv_h er2) (ct_X2_isNone er2) (by decide) rfl rfl (Nat.le_of_ble_eq_true rfl) dX8_tower_4 ?_
  refine x_if_eq C (tgt := 13) dX8_tower_7 (by decide) (fun c3 => ?_) (fun c3 => ?_)
  · have h := ifP h c3
    refine x_aload_n C (i := 0) dX8_tower_13 rfl rfl ?_
    obtain ⟨x4, ex4, h⟩ := ob h
    refine x_getR C fl_X8_25 dX8_tower_14 ex4 ?_
    refine x_iload_n C (i := 1) dX8_tower_17 rfl rfl ?_
    obtain ⟨r5, er5, h⟩ := ob h
    refine x_callVr C Z mv_X2_hasPeg lk_X8_127 (rv_h er5) (ct_X2_hasPeg er5) (by decide) rfl rfl (Nat.le_of_ble_eq_true rfl) dX8_tower_18 ?_
    refine x_if_eq C (tgt := 29) dX8_tower_21 (by decide) (fun c6 => ?_) (fun c6 => ?_)
    · have h := ifP h c6
      refine x_ldc C kc_X8_55 dX8_tower_29 ?_
      exact x_iretA C E G ⟨hRc ▸ Z.1.1, hRs ▸ Z.1.2⟩ dX8_tower_31 (hE ((-1000001), N, σ) (Option.some.inj h).symm)
    · have h := ifN h c6
      refine x_iload_n C (i := 2) dX8_tower_24 rfl rfl ?_
      refine x_iconst C (v := (-1)) dX8_tower_25 (by decide) ?_
      refine x_icmp_ge C (tgt := 32) dX8_tower_26 (by decide) (fun c7 => ?_) (fun c7 => ?_)
      · have h := ifP h c7
        refine x_aload_n C (i := 0) dX8_tower_32 rfl rfl ?_
        obtain ⟨u9, eu9, h⟩ := ob h
        obtain ⟨r8, er8, h⟩ := ob h
        obtain ⟨u10, eu10, h⟩ := ob h
        refine g_callVr C Z G hRc hRs mv_X8_searched lk_X8_184 (rv_h er8) (ct_X8_searched er8) (by decide) rfl rfl (Nat.le_of_ble_eq_true rfl) eu9 rfl eu10 dX8_tower_33 (fun ad Z G => ?_)
        refine x_aload_n C (i := 0) dX8_tower_36 rfl rfl ?_
        obtain ⟨x11, ex11, h⟩ := ob h
        refine x_getR C fl_X8_25 dX8_tower_37 ex11 ?_
        refine x_iload_n C (i := 1) dX8_tower_40 rfl rfl ?_
        obtain ⟨r12, er12, h⟩ := ob h
        refine x_callVr C Z mv_X2_allOn lk_X8_193 (rv_h er12) (ct_X2_allOn er12) (by decide) rfl rfl (Nat.le_of_ble_eq_true rfl) dX8_tower_41 ?_
        refine x_iload_n C (i := 2) dX8_tower_44 rfl rfl ?_
        obtain ⟨r13, er13, h⟩ := ob h
        refine x_callVr C Z mv_X6_fewest lk_X8_188 (rv_h er13) (ct_X6_fewest er13) (by decide) rfl rfl (Nat.le_of_ble_eq_true rfl) dX8_tower_45 ?_
        exact x_iretA C E G ⟨hRc ▸ Z.1.1, hRs ▸ Z.1.2⟩ dX8_tower_48 (hE (r13, r8.2.1, r8.2.2) (Option.some.inj h).symm)
      · have h := ifN h c7
        refine x_ldc C kc_X8_55 dX8_tower_29 ?_
        exact x_iretA C E G ⟨hRc ▸ Z.1.1, hRs ▸ Z.1.2⟩ dX8_tower_31 (hE ((-1000001), N, σ) (Option.some.inj h).symm)
  · have h := ifN h c3
    refine x_ldc C kc_X8_133 dX8_tower_10 ?_
    exact x_iretA C E G ⟨hRc ▸ Z.1.1, hRs ▸ Z.1.2⟩ dX8_tower_12 (hE ((-1000002), N, σ) (Option.some.inj h).symm)
theorem dX8_world_0 : decode cX8_world 0 = .ok (.aload_n 0, 1) := by decide +kernel
theorem dX8_world_1 : decode cX8_world 1 = .ok (.getfield 25, 3) := by decide +kernel
theorem dX8_world_4 : decode cX8_world 4 = .ok (.invokevirtual 156, 3) := by decide +kernel
theorem dX8_world_7 : decode cX8_world 7 = .ok (.ifCond .eq 6, 3) := by decide +kernel
theorem dX8_world_10 : decode cX8_world 10 = .ok (.ldc 133, 2) := by decide +kernel
theorem dX8_world_12 : decode cX8_world 12 = .ok (.ireturn, 1) := by decide +kernel
theorem dX8_world_13 : decode cX8_world 13 = .ok (.iload_n 1, 1) := by decide +kernel
theorem dX8_world_14 : decode cX8_world 14 = .ok (.ifCond .lt 8, 3) := by decide +kernel
theorem dX8_world_17 : decode cX8_world 17 = .ok (.iload_n 1, 1) := by decide +kernel
theorem dX8_world_18 : decode cX8_world 18 = .ok (.iconst 3, 1) := by decide +kernel
theorem dX8_world_19 : decode cX8_world 19 = .ok (.if_icmp .le 6, 3) := by decide +kernel
theorem dX8_world_22 : decode cX8_world 22 = .ok (.ldc 55, 2) := by decide +kernel
theorem dX8_world_24 : decode cX8_world 24 = .ok (.ireturn, 1) := by decide +kernel
theorem dX8_world_25 : decode cX8_world 25 = .ok (.aload_n 0, 1) := by decide +kernel
theorem dX8_world_26 : decode cX8_world 26 = .ok (.invokevirtual 184, 3) := by decide +kernel
theorem dX8_world_29 : decode cX8_world 29 = .ok (.astore_n 2, 1) := by decide +kernel
theorem dX8_world_30 : decode cX8_world 30 = .ok (.iload_n 1, 1) := by decide +kernel
theorem dX8_world_31 : decode cX8_world 31 = .ok (.tableswitch 47 0 2 #[25, 30, 35], 25) := by decide +kernel
theorem dX8_world_56 : decode cX8_world 56 = .ok (.aload_n 2, 1) := by decide +kernel
theorem dX8_world_57 : decode cX8_world 57 = .ok (.getfield 196, 3) := by decide +kernel
theorem dX8_world_60 : decode cX8_world 60 = .ok (.ireturn, 1) := by decide +kernel
theorem dX8_world_61 : decode cX8_world 61 = .ok (.aload_n 2, 1) := by decide +kernel
theorem dX8_world_62 : decode cX8_world 62 = .ok (.getfield 199, 3) := by decide +kernel
theorem dX8_world_65 : decode cX8_world 65 = .ok (.ireturn, 1) := by decide +kernel
theorem dX8_world_66 : decode cX8_world 66 = .ok (.aload_n 0, 1) := by decide +kernel
theorem dX8_world_67 : decode cX8_world 67 = .ok (.getfield 25, 3) := by decide +kernel
theorem dX8_world_70 : decode cX8_world 70 = .ok (.aload_n 2, 1) := by decide +kernel
theorem dX8_world_71 : decode cX8_world 71 = .ok (.getfield 202, 3) := by decide +kernel
theorem dX8_world_74 : decode cX8_world 74 = .ok (.invokevirtual 205, 3) := by decide +kernel
theorem dX8_world_77 : decode cX8_world 77 = .ok (.ireturn, 1) := by decide +kernel
theorem dX8_world_78 : decode cX8_world 78 = .ok (.aload_n 2, 1) := by decide +kernel
theorem dX8_world_79 : decode cX8_world 79 = .ok (.getfield 208, 3) := by decide +kernel
theorem dX8_world_82 : decode cX8_world 82 = .ok (.ireturn, 1) := by decide +kernel
noncomputable def m_X8_world (N : Nat) (σ : Hp) (t0 : Nat) (p1 : Int32) : Option (Int32 × Nat × Hp) :=
  (rv N σ t0 8).bind fun _ =>
  (gR N σ t0 8 2).bind fun x1 =>
  (m_X2_isNone N σ x1).bind fun r2 =>
  if r2 = 0 then
   if p1 < 0 then
   some ((-1000001), N, σ)
  else
   if p1 ≤ 3 then
   (al N σ [t0] (0 + 9) (0 + 40986) 9 40986).bind fun u7 =>
  (m_X8_searched N σ t0).bind fun r6 =>
  (nb r6.2.1).bind fun u8 =>
  if p1 = 0 then
   (gI r6.2.1 r6.2.2 r6.1 6 6).bind fun x10 =>
  some (x10, r6.2.1, r6.2.2)
  else if p1 = 1 then
   (gI r6.2.1 r6.2.2 r6.1 6 7).bind fun x12 =>
  some (x12, r6.2.1, r6.2.2)
  else if p1 = 2 then
   (gR r6.2.1 r6.2.2 t0 8 2).bind fun x14 =>
  (gI r6.2.1 r6.2.2 r6.1 6 8).bind fun x15 =>
  (m_X2_codeOf r6.2.1 r6.2.2 x14 x15).bind fun r16 =>
  some (r16, r6.2.1, r6.2.2)
  else 
   (gI r6.2.1 r6.2.2 r6.1 6 9).bind fun x17 =>
  some (x17, r6.2.1, r6.2.2)
  else
   some ((-1000001), N, σ)
  else
   some ((-1000002), N, σ)
set_option maxHeartbeats 4000000 in
set_option maxRecDepth 100000 in
theorem ct_X8_world {l : Launch} {D : va_G} {cy : Nat → Nat} {N : Nat} {σ : Hp} {t0 : Nat} {p1 : Int32} {r : Int32 × Nat × Hp} (h : m_X8_world N σ t0 p1 = some r) : CtA l D cy yX8_world cX8_world 3 (some .int) 6 9 40986 [.ref t0, .int p1] N σ (fun v n' s' => v = (some (.int r.1)) ∧ n' = r.2.1 ∧ s' = r.2.2) := by
  refine CtA.intro [some (.ref t0), some (.int p1), none] (by decide) rfl (Nat.le_of_ble_eq_true rfl) ?_
  intro κ ad0 e1 e2 e3 hRc hRs C Z E
  subst e1; subst e2; subst e3
  have C : Cx κ 3 6 cX8_world RX8 "world" := C
  have G := Ag.rf N ad0 0 0
  have hE : ∀ x : Int32 × Nat × Hp, r = x → ((some (Value.int x.1)) = (some (Value.int r.1)) ∧ x.2.1 = r.2.1 ∧ x.2.2 = r.2.2) := fun x hx => by subst hx; exact ⟨rfl, rfl, rfl⟩
  unfold m_X8_world at h
  obtain ⟨_, _, h⟩ := ob h
  refine x_aload_n C (i := 0) dX8_world_0 rfl rfl ?_
  obtain ⟨x1, ex1, h⟩ := ob h
  refine x_getR C fl_X8_25 dX8_world_1 ex1 ?_
  obtain ⟨r2, er2, h⟩ := ob h
  refine x_callVr C Z mv_X2_isNone lk_X8_156 (rv_h er2) (ct_X2_isNone er2) (by decide) rfl rfl (Nat.le_of_ble_eq_true rfl) dX8_world_4 ?_
  refine x_if_eq C (tgt := 13) dX8_world_7 (by decide) (fun c3 => ?_) (fun c3 => ?_)
  · have h := ifP h c3
    refine x_iload_n C (i := 1) dX8_world_13 rfl rfl ?_
    refine x_if_lt C (tgt := 22) dX8_world_14 (by decide) (fun c4 => ?_) (fun c4 => ?_)
    · have h := ifP h c4
      refine x_ldc C kc_X8_55 dX8_world_22 ?_
      exact x_iretA C E G ⟨hRc ▸ Z.1.1, hRs ▸ Z.1.2⟩ dX8_world_24 (hE ((-1000001), N, σ) (Option.some.inj h).symm)
    · have h := ifN h c4
      refine x_iload_n C (i := 1) dX8_world_17 rfl rfl ?_
      refine x_iconst C (v := 3) dX8_world_18 (by decide) ?_
      refine x_icmp_le C (tgt := 25) dX8_world_19 (by decide) (fun c5 => ?_) (fun c5 => ?_)
      · have h := ifP h c5
        refine x_aload_n C (i := 0) dX8_world_25 rfl rfl ?_
        obtain ⟨u7, eu7, h⟩ := ob h
        obtain ⟨r6, er6, h⟩ := ob h
        obtain ⟨u8, eu8, h⟩ := ob h
        refine g_callVr C Z G hRc hRs mv_X8_searched lk_X8_184 (rv_h er6) (ct_X8_searched er6) (by decide) rfl rfl (Nat.le_of_ble_eq_true rfl) eu7 rfl eu8 dX8_world_26 (fun ad Z G => ?_)
        refine x_astore_n C (i := 2) (lo' := [some (.ref t0), some (.int p1), some (.ref r6.1)]) dX8_world_29 rfl (by decide) rfl rfl ?_
        refine x_iload_n C (i := 1) dX8_world_30 rfl rfl ?_
        by_cases c9 : p1 = 0
        · have h := ifP h c9
          refine x_tableIn C (off := 25) (tgt := 56) dX8_world_31 (by rw [c9]; decide) (by rw [c9]; decide) (by rw [c9]; rfl) (by decide) ?_
          refine x_aload_n C (i := 2) dX8_world_56 rfl rfl ?_
          obtain ⟨x10, ex10, h⟩ := ob h
          refine x_getI C fl_X8_196 dX8_world_57 ex10 ?_
          exact x_iretA C E G ⟨hRc ▸ Z.1.1, hRs ▸ Z.1.2⟩ dX8_world_60 (hE (x10, r6.2.1, r6.2.2) (Option.some.inj h).symm)
        · have h := ifN h c9
          by_cases c11 : p1 = 1
          · have h := ifP h c11
            refine x_tableIn C (off := 30) (tgt := 61) dX8_world_31 (by rw [c11]; decide) (by rw [c11]; decide) (by rw [c11]; rfl) (by decide) ?_
            refine x_aload_n C (i := 2) dX8_world_61 rfl rfl ?_
            obtain ⟨x12, ex12, h⟩ := ob h
            refine x_getI C fl_X8_199 dX8_world_62 ex12 ?_
            exact x_iretA C E G ⟨hRc ▸ Z.1.1, hRs ▸ Z.1.2⟩ dX8_world_65 (hE (x12, r6.2.1, r6.2.2) (Option.some.inj h).symm)
          · have h := ifN h c11
            by_cases c13 : p1 = 2
            · have h := ifP h c13
              refine x_tableIn C (off := 35) (tgt := 66) dX8_world_31 (by rw [c13]; decide) (by rw [c13]; decide) (by rw [c13]; rfl) (by decide) ?_
              refine x_aload_n C (i := 0) dX8_world_66 rfl rfl ?_
              obtain ⟨x14, ex14, h⟩ := ob h
              refine x_getR C fl_X8_25 dX8_world_67 ex14 ?_
              refine x_aload_n C (i := 2) dX8_world_70 rfl rfl ?_
              obtain ⟨x15, ex15, h⟩ := ob h
              refine x_getI C fl_X8_202 dX8_world_71 ex15 ?_
              obtain ⟨r16, er16, h⟩ := ob h
              refine x_callVr C Z mv_X2_codeOf lk_X8_205 (rv_h er16) (ct_X2_codeOf er16) (by decide) rfl rfl (Nat.le_of_ble_eq_true rfl) dX8_world_74 ?_
              exact x_iretA C E G ⟨hRc ▸ Z.1.1, hRs ▸ Z.1.2⟩ dX8_world_77 (hE (r16, r6.2.1, r6.2.2) (Option.some.inj h).symm)
            · have h := ifN h c13
              refine x_tableOut C (tgt := 78) dX8_world_31 (by have q0 := lv_neT (a := 0) c9 (by decide); have q1 := lv_neT (a := 1) c11 (by decide); have q2 := lv_neT (a := 2) c13 (by decide); omega) (by decide) ?_
              refine x_aload_n C (i := 2) dX8_world_78 rfl rfl ?_
              obtain ⟨x17, ex17, h⟩ := ob h
              refine x_getI C fl_X8_208 dX8_world_79 ex17 ?_
              exact x_iretA C E G ⟨hRc ▸ Z.1.1, hRs ▸ Z.1.2⟩ dX8_world_82 (hE (x17, r6.2.1, r6.2.2) (Option.some.inj h).symm)
      · have h := ifN h c5
        refine x_ldc C kc_X8_55 dX8_world_22 ?_
        exact x_iretA C E G ⟨hRc ▸ Z.1.1, hRs ▸ Z.1.2⟩ dX8_world_24 (hE ((-1000001), N, σ) (Option.some.inj h).symm)
  · have h := ifN h c3
    refine x_ldc C kc_X8_133 dX8_world_10 ?_
    exact x_iretA C E G ⟨hRc ▸ Z.1.1, hRs ▸ Z.1.2⟩ dX8_world_12 (hE ((-1000002), N, σ) (Option.some.inj h).symm)
theorem dX8_ring_0 : decode cX8_ring 0 = .ok (.aload_n 0, 1) := by decide +kernel
theorem dX8_ring_1 : decode cX8_ring 1 = .ok (.getfield 25, 3) := by decide +kernel
theorem dX8_ring_4 : decode cX8_ring 4 = .ok (.invokevirtual 156, 3) := by decide +kernel
theorem dX8_ring_7 : decode cX8_ring 7 = .ok (.ifCond .eq 8, 3) := by decide +kernel
theorem dX8_ring_10 : decode cX8_ring 10 = .ok (.ldc 133, 2) := by decide +kernel
theorem dX8_ring_12 : decode cX8_ring 12 = .ok (.goto 10, 3) := by decide +kernel
theorem dX8_ring_15 : decode cX8_ring 15 = .ok (.aload_n 0, 1) := by decide +kernel
theorem dX8_ring_16 : decode cX8_ring 16 = .ok (.invokevirtual 184, 3) := by decide +kernel
theorem dX8_ring_19 : decode cX8_ring 19 = .ok (.getfield 211, 3) := by decide +kernel
theorem dX8_ring_22 : decode cX8_ring 22 = .ok (.ireturn, 1) := by decide +kernel
noncomputable def m_X8_ring (N : Nat) (σ : Hp) (t0 : Nat) : Option (Int32 × Nat × Hp) :=
  (rv N σ t0 8).bind fun _ =>
  (gR N σ t0 8 2).bind fun x1 =>
  (m_X2_isNone N σ x1).bind fun r2 =>
  if r2 = 0 then
   (al N σ [t0] (0 + 9) (0 + 40986) 9 40986).bind fun u5 =>
  (m_X8_searched N σ t0).bind fun r4 =>
  (nb r4.2.1).bind fun u6 =>
  (gI r4.2.1 r4.2.2 r4.1 6 10).bind fun x7 =>
  some (x7, r4.2.1, r4.2.2)
  else
   some ((-1000002), N, σ)
set_option maxHeartbeats 4000000 in
set_option maxRecDepth 100000 in
theorem ct_X8_ring {l : Launch} {D : va_G} {cy : Nat → Nat} {N : Nat} {σ : Hp} {t0 : Nat} {r : Int32 × Nat × Hp} (h : m_X8_ring N σ t0 = some r) : CtA l D cy yX8_ring cX8_ring 1 (some .int) 6 9 40986 [.ref t0] N σ (fun v n' s' => v = (some (.int r.1)) ∧ n' = r.2.1 ∧ s' = r.2.2) := by
  refine CtA.intro [some (.ref t0)] (by decide) rfl (Nat.le_of_ble_eq_true rfl) ?_
  intro κ ad0 e1 e2 e3 hRc hRs C Z E
  subst e1; subst e2; subst e3
  have C : Cx κ 1 6 cX8_ring RX8 "ring" := C
  have G := Ag.rf N ad0 0 0
  have hE : ∀ x : Int32 × Nat × Hp, r = x → ((some (Value.int x.1)) = (some (Value.int r.1)) ∧ x.2.1 = r.2.1 ∧ x.2.2 = r.2.2) := fun x hx => by subst hx; exact ⟨rfl, rfl, rfl⟩
  unfold m_X8_ring at h
  obtain ⟨_, _, h⟩ := ob h
  refine x_aload_n C (i := 0) dX8_ring_0 rfl rfl ?_
  obtain ⟨x1, ex1, h⟩ := ob h
  refine x_getR C fl_X8_25 dX8_ring_1 ex1 ?_
  obtain ⟨r2, er2, h⟩ := ob h
  refine x_callVr C Z mv_X2_isNone lk_X8_156 (rv_h er2) (ct_X2_isNone er2) (by decide) rfl rfl (Nat.le_of_ble_eq_true rfl) dX8_ring_4 ?_
  refine x_if_eq C (tgt := 15) dX8_ring_7 (by decide) (fun c3 => ?_) (fun c3 => ?_)
  · have h := ifP h c3
    refine x_aload_n C (i := 0) dX8_ring_15 rfl rfl ?_
    obtain ⟨u5, eu5, h⟩ := ob h
    obtain ⟨r4, er4, h⟩ := ob h
    obtain ⟨u6, eu6, h⟩ := ob h
    refine g_callVr C Z G hRc hRs mv_X8_searched lk_X8_184 (rv_h er4) (ct_X8_searched er4) (by decide) rfl rfl (Nat.le_of_ble_eq_true rfl) eu5 rfl eu6 dX8_ring_16 (fun ad Z G => ?_)
    obtain ⟨x7, ex7, h⟩ := ob h
    refine x_getI C fl_X8_211 dX8_ring_19 ex7 ?_
    exact x_iretA C E G ⟨hRc ▸ Z.1.1, hRs ▸ Z.1.2⟩ dX8_ring_22 (hE (x7, r4.2.1, r4.2.2) (Option.some.inj h).symm)
  · have h := ifN h c3
    refine x_ldc C kc_X8_133 dX8_ring_10 ?_
    refine x_goto C (tgt := 22) dX8_ring_12 (by decide) ?_
    exact x_iretA C E G ⟨hRc ▸ Z.1.1, hRs ▸ Z.1.2⟩ dX8_ring_22 (hE ((-1000002), N, σ) (Option.some.inj h).symm)
theorem dX8_layered_0 : decode cX8_layered 0 = .ok (.aload_n 0, 1) := by decide +kernel
theorem dX8_layered_1 : decode cX8_layered 1 = .ok (.invokevirtual 304, 3) := by decide +kernel
theorem dX8_layered_4 : decode cX8_layered 4 = .ok (.astore_n 1, 1) := by decide +kernel
theorem dX8_layered_5 : decode cX8_layered 5 = .ok (.aload_n 0, 1) := by decide +kernel
theorem dX8_layered_6 : decode cX8_layered 6 = .ok (.getfield 312, 3) := by decide +kernel
theorem dX8_layered_9 : decode cX8_layered 9 = .ok (.ifnonnull 15, 3) := by decide +kernel
theorem dX8_layered_12 : decode cX8_layered 12 = .ok (.aload_n 0, 1) := by decide +kernel
theorem dX8_layered_13 : decode cX8_layered 13 = .ok (.new 223, 3) := by decide +kernel
theorem dX8_layered_16 : decode cX8_layered 16 = .ok (.dup, 1) := by decide +kernel
theorem dX8_layered_17 : decode cX8_layered 17 = .ok (.aload_n 1, 1) := by decide +kernel
theorem dX8_layered_18 : decode cX8_layered 18 = .ok (.invokespecial 316, 3) := by decide +kernel
theorem dX8_layered_21 : decode cX8_layered 21 = .ok (.putfield 312, 3) := by decide +kernel
theorem dX8_layered_24 : decode cX8_layered 24 = .ok (.aload_n 0, 1) := by decide +kernel
theorem dX8_layered_25 : decode cX8_layered 25 = .ok (.getfield 312, 3) := by decide +kernel
theorem dX8_layered_28 : decode cX8_layered 28 = .ok (.invokevirtual 318, 3) := by decide +kernel
theorem dX8_layered_31 : decode cX8_layered 31 = .ok (.aload_n 0, 1) := by decide +kernel
theorem dX8_layered_32 : decode cX8_layered 32 = .ok (.getfield 312, 3) := by decide +kernel
theorem dX8_layered_35 : decode cX8_layered 35 = .ok (.areturn, 1) := by decide +kernel
noncomputable def m_X8_layered (N : Nat) (σ : Hp) (t0 : Nat) : Option (Nat × Nat × Hp) :=
  (rv N σ t0 8).bind fun _ =>
  (al N σ [t0] (0 + 3) (0 + 8201) 6 16397).bind fun u2 =>
  (m_X8_netNow N σ t0).bind fun r1 =>
  (nb r1.2.1).bind fun u3 =>
  (gQ r1.2.1 r1.2.2 t0 8 9).bind fun x4 =>
  ((cQ x4 (
   (al r1.2.1 r1.2.2 [t0, r1.1, t0] (0 + 3 + 1) (0 + 8201 + 4) 6 16397).bind fun u12 =>
  (mkc r1.2.2 r1.2.1 (.inr (3, [.null, .null, .null, .int 0]))).bind fun σ13 =>
  (al (r1.2.1 + 1) σ13 [t0, r1.1, r1.2.1, t0] (0 + 3 + 1 + 2) (0 + 8201 + 4 + 8192) 6 16397).bind fun u14 =>
  (m_X3_init (r1.2.1 + 1) σ13 r1.2.1 r1.1).bind fun r16 =>
  (nb r16.1).bind fun u15 =>
  (pV r16.1 r16.2 t0 8 9 (.ref r1.2.1)).bind fun σ17 =>
  some (r16.1, σ17)) (fun q11 =>
   some (r1.2.1, r1.2.2))) : Option (Nat × Hp)).bind fun z5 =>
  (gR z5.1 z5.2 t0 8 9).bind fun x6 =>
  (m_X3_begin z5.1 z5.2 x6).bind fun r7 =>
  (gR z5.1 r7 t0 8 9).bind fun x8 =>
  some (x8, z5.1, r7)
set_option maxHeartbeats 4000000 in
set_option maxRecDepth 100000 in
theorem ct_X8_layered {l : Launch} {D : va_G} {cy : Nat → Nat} {N : Nat} {σ : Hp} {t0 : Nat} {r : Nat × Nat × Hp} (h : m_X8_layered N σ t0 = some r) : CtA l D cy yX8_layered cX8_layered 2 (some (.object "PegDiscs$Layers")) 4 6 16397 [.ref t0] N σ (fun v n' s' => v = (some (.ref r.1)) ∧ n' = r.2.1 ∧ s' = r.2.2) := by
  refine CtA.intro [some (.ref t0), none] (by decide) rfl (Nat.le_of_ble_eq_true rfl) ?_
  intro κ ad0 e1 e2 e3 hRc hRs C Z E
  subst e1; subst e2; subst e3
  have C : Cx κ 2 4 cX8_layered RX8 "layered" := C
  have G := Ag.rf N ad0 0 0
  have hE : ∀ x : Nat × Nat × Hp, r = x → ((some (Value.ref x.1)) = (some (Value.ref r.1)) ∧ x.2.1 = r.2.1 ∧ x.2.2 = r.2.2) := fun x hx => by subst hx; exact ⟨rfl, rfl, rfl⟩
  unfold m_X8_layered at h
  obtain ⟨_, _, h⟩ := ob h
  refine x_aload_n C (i := 0) dX8_layered_0 rfl rfl ?_
  obtain ⟨u2, eu2, h⟩ := ob h
  obtain ⟨r1, er1, h⟩ := ob h
  obtain ⟨u3, eu3, h⟩ := ob h
  refine g_callVr C Z G hRc hRs mv_X8_netNow lk_X8_304 (rv_h er1) (ct_X8_netNow er1) (by decide) rfl rfl (Nat.le_of_ble_eq_true rfl) eu2 rfl eu3 dX8_layered_1 (fun ad Z G => ?_)
  refine x_astore_n C (i := 1) (lo' := [some (.ref t0), some (.ref r1.1)]) dX8_layered_4 rfl (by decide) rfl rfl ?_
  refine x_aload_n C (i := 0) dX8_layered_5 rfl rfl ?_
  obtain ⟨x4, ex4, h⟩ := ob h
  refine x_getQ C fl_X8_312 dX8_layered_6 ex4 ?_
  obtain ⟨z5, hz5, h⟩ := ob h
  have hJ9 : ∀ ad, Zx κ (z5.1, ad, 0 + 3 + 3, 0 + 8201 + 8196) → Ag N ad0 (z5.1, ad, 0 + 3 + 3, 0 + 8201 + 8196) → X κ 2 (z5.1, ad, 0 + 3 + 3, 0 + 8201 + 8196) 24 [some (.ref t0), none] [] z5.2 := by
    intro ad Z G
    refine x_aload_n C (i := 0) dX8_layered_24 rfl rfl ?_
    obtain ⟨x6, ex6, h⟩ := ob h
    refine x_getR C fl_X8_312 dX8_layered_25 ex6 ?_
    obtain ⟨r7, er7, h⟩ := ob h
    refine x_callVn C Z mv_X3_begin lk_X8_318 (rv_h er7) (ct_X3_begin er7) (by decide) rfl rfl (Nat.le_of_ble_eq_true rfl) dX8_layered_28 ?_
    refine x_aload_n C (i := 0) dX8_layered_31 rfl rfl ?_
    obtain ⟨x8, ex8, h⟩ := ob h
    refine x_getR C fl_X8_312 dX8_layered_32 ex8 ?_
    exact x_aretA C E G ⟨hRc ▸ Z.1.1, hRs ▸ Z.1.2⟩ (q := some x8) dX8_layered_35 (hE (x8, z5.1, r7) (Option.some.inj h).symm)
  clear h
  have h := hz5
  refine x_ifnonnull C (tgt := 24) dX8_layered_9 (by decide) (fun q11 hq => ?_) (fun hq => ?_)
  · subst hq
    have h := cQ_s h
    refine x_wk [true, false] (lo' := [some (.ref t0), none]) rfl ?_
    refine g_wide (c' := 0 + 3 + 3) (s' := 0 + 8201 + 8196) Z G hRc hRs ⟨by decide, by decide⟩ ⟨by decide, by decide⟩ (fun Z G => ?_)
    obtain rfl := Option.some.inj h
    exact hJ9 _ Z G
  · subst hq
    have h := cQ_n h
    refine x_aload_n C (i := 0) dX8_layered_12 rfl rfl ?_
    obtain ⟨u12, eu12, h⟩ := ob h
    obtain ⟨σ13, eσ13, h⟩ := ob h
    refine g_new C Z G hRc hRs nw_X8_223 eu12 rfl eσ13 dX8_layered_13 (fun ad Z G => ?_)
    refine x_dup C dX8_layered_16 rfl ?_
    refine x_aload_n C (i := 1) dX8_layered_17 rfl rfl ?_
    obtain ⟨u14, eu14, h⟩ := ob h
    obtain ⟨r16, er16, h⟩ := ob h
    obtain ⟨u15, eu15, h⟩ := ob h
    refine g_callI C Z G hRc hRs mi_X3_init lk_X8_316 (ct_X3_init er16) (by decide) rfl rfl (Nat.le_of_ble_eq_true rfl) eu14 rfl eu15 dX8_layered_18 (fun ad Z G => ?_)
    obtain ⟨σ17, eσ17, h⟩ := ob h
    refine x_put C pl_X8_312 dX8_layered_21 (fun _ => ⟨rfl, rfl⟩) eσ17 ?_
    refine x_wk [true, false] (lo' := [some (.ref t0), none]) rfl ?_
    refine g_wide (c' := 0 + 3 + 3) (s' := 0 + 8201 + 8196) Z G hRc hRs ⟨by decide, by decide⟩ ⟨by decide, by decide⟩ (fun Z G => ?_)
    obtain rfl := Option.some.inj h
    exact hJ9 _ Z G
theorem dX8_ways_0 : decode cX8_ways 0 = .ok (.aload_n 0, 1) := by decide +kernel
theorem dX8_ways_1 : decode cX8_ways 1 = .ok (.getfield 25, 3) := by decide +kernel
theorem dX8_ways_4 : decode cX8_ways 4 = .ok (.invokevirtual 156, 3) := by decide +kernel
theorem dX8_ways_7 : decode cX8_ways 7 = .ok (.ifCond .eq 7, 3) := by decide +kernel
theorem dX8_ways_10 : decode cX8_ways 10 = .ok (.ldc2_w 214, 3) := by decide +kernel
theorem dX8_ways_13 : decode cX8_ways 13 = .ok (.lreturn, 1) := by decide +kernel
theorem dX8_ways_14 : decode cX8_ways 14 = .ok (.aload_n 0, 1) := by decide +kernel
theorem dX8_ways_15 : decode cX8_ways 15 = .ok (.iload_n 1, 1) := by decide +kernel
theorem dX8_ways_16 : decode cX8_ways 16 = .ok (.invokevirtual 51, 3) := by decide +kernel
theorem dX8_ways_19 : decode cX8_ways 19 = .ok (.astore 4, 2) := by decide +kernel
theorem dX8_ways_21 : decode cX8_ways 21 = .ok (.aload 4, 2) := by decide +kernel
theorem dX8_ways_23 : decode cX8_ways 23 = .ok (.ifnull 13, 3) := by decide +kernel
theorem dX8_ways_26 : decode cX8_ways 26 = .ok (.iload_n 3, 1) := by decide +kernel
theorem dX8_ways_27 : decode cX8_ways 27 = .ok (.ifCond .lt 9, 3) := by decide +kernel
theorem dX8_ways_30 : decode cX8_ways 30 = .ok (.iload_n 3, 1) := by decide +kernel
theorem dX8_ways_31 : decode cX8_ways 31 = .ok (.bipush 12, 2) := by decide +kernel
theorem dX8_ways_33 : decode cX8_ways 33 = .ok (.if_icmp .le 7, 3) := by decide +kernel
theorem dX8_ways_36 : decode cX8_ways 36 = .ok (.ldc2_w 216, 3) := by decide +kernel
theorem dX8_ways_39 : decode cX8_ways 39 = .ok (.lreturn, 1) := by decide +kernel
theorem dX8_ways_40 : decode cX8_ways 40 = .ok (.aload 4, 2) := by decide +kernel
theorem dX8_ways_42 : decode cX8_ways 42 = .ok (.iload_n 2, 1) := by decide +kernel
theorem dX8_ways_43 : decode cX8_ways 43 = .ok (.aload_n 0, 1) := by decide +kernel
theorem dX8_ways_44 : decode cX8_ways 44 = .ok (.getfield 25, 3) := by decide +kernel
theorem dX8_ways_47 : decode cX8_ways 47 = .ok (.getfield 124, 3) := by decide +kernel
theorem dX8_ways_50 : decode cX8_ways 50 = .ok (.invokevirtual 67, 3) := by decide +kernel
theorem dX8_ways_53 : decode cX8_ways 53 = .ok (.istore 5, 2) := by decide +kernel
theorem dX8_ways_55 : decode cX8_ways 55 = .ok (.iload 5, 2) := by decide +kernel
theorem dX8_ways_57 : decode cX8_ways 57 = .ok (.ifCond .eq 11, 3) := by decide +kernel
theorem dX8_ways_60 : decode cX8_ways 60 = .ok (.aload_n 0, 1) := by decide +kernel
theorem dX8_ways_61 : decode cX8_ways 61 = .ok (.iload 5, 2) := by decide +kernel
theorem dX8_ways_63 : decode cX8_ways 63 = .ok (.invokevirtual 56, 3) := by decide +kernel
theorem dX8_ways_66 : decode cX8_ways 66 = .ok (.i2l, 1) := by decide +kernel
theorem dX8_ways_67 : decode cX8_ways 67 = .ok (.lreturn, 1) := by decide +kernel
theorem dX8_ways_68 : decode cX8_ways 68 = .ok (.aload_n 0, 1) := by decide +kernel
theorem dX8_ways_69 : decode cX8_ways 69 = .ok (.iconst 0, 1) := by decide +kernel
theorem dX8_ways_70 : decode cX8_ways 70 = .ok (.invokevirtual 64, 3) := by decide +kernel
theorem dX8_ways_73 : decode cX8_ways 73 = .ok (.pop, 1) := by decide +kernel
theorem dX8_ways_74 : decode cX8_ways 74 = .ok (.aload_n 0, 1) := by decide +kernel
theorem dX8_ways_75 : decode cX8_ways 75 = .ok (.getfield 25, 3) := by decide +kernel
theorem dX8_ways_78 : decode cX8_ways 78 = .ok (.aload 4, 2) := by decide +kernel
theorem dX8_ways_80 : decode cX8_ways 80 = .ok (.iload_n 2, 1) := by decide +kernel
theorem dX8_ways_81 : decode cX8_ways 81 = .ok (.invokevirtual 180, 3) := by decide +kernel
theorem dX8_ways_84 : decode cX8_ways 84 = .ok (.istore 6, 2) := by decide +kernel
theorem dX8_ways_86 : decode cX8_ways 86 = .ok (.iload 6, 2) := by decide +kernel
theorem dX8_ways_88 : decode cX8_ways 88 = .ok (.ifCond .ge 7, 3) := by decide +kernel
theorem dX8_ways_91 : decode cX8_ways 91 = .ok (.lconst 0, 1) := by decide +kernel
theorem dX8_ways_92 : decode cX8_ways 92 = .ok (.goto 13, 3) := by decide +kernel
theorem dX8_ways_95 : decode cX8_ways 95 = .ok (.aload_n 0, 1) := by decide +kernel
theorem dX8_ways_96 : decode cX8_ways 96 = .ok (.invokevirtual 218, 3) := by decide +kernel
theorem dX8_ways_99 : decode cX8_ways 99 = .ok (.iload 6, 2) := by decide +kernel
theorem dX8_ways_101 : decode cX8_ways 101 = .ok (.iload_n 3, 1) := by decide +kernel
theorem dX8_ways_102 : decode cX8_ways 102 = .ok (.invokevirtual 222, 3) := by decide +kernel
theorem dX8_ways_105 : decode cX8_ways 105 = .ok (.lreturn, 1) := by decide +kernel
noncomputable def m_X8_ways (N : Nat) (σ : Hp) (t0 : Nat) (p1 : Int32) (p2 : Int32) (p3 : Int32) : Option (Int64 × Nat × Hp) :=
  (rv N σ t0 8).bind fun _ =>
  (gR N σ t0 8 2).bind fun x1 =>
  (m_X2_isNone N σ x1).bind fun r2 =>
  if r2 = 0 then
   (m_X8_rowAt N σ t0 p1).bind fun r4 =>
  cQ r4 (
   some ((-1000001), N, σ)) (fun q5 =>
   if p3 < 0 then
   some ((-1000001), N, σ)
  else
   if p3 ≤ 12 then
   (gR N σ t0 8 2).bind fun x8 =>
  (gI N σ x8 2 1).bind fun x9 =>
  (m_X5_flaw N σ q5 p2 x9).bind fun r10 =>
  if r10 = 0 then
   (m_X8_well N σ t0 0).bind fun r12 =>
  (gR N r12.2 t0 8 2).bind fun x13 =>
  (m_X2_arrangedBy N r12.2 x13 q5 p2).bind fun r14 =>
  if 0 ≤ r14 then
   (al N r12.2 [t0, q5] (0 + 6) (0 + 16397) 6 16397).bind fun u17 =>
  (m_X8_layered N r12.2 t0).bind fun r16 =>
  (nb r16.2.1).bind fun u18 =>
  (m_X3_rowsTo r16.2.1 r16.2.2 r16.1 r14 p3).bind fun r19 =>
  some (r19.1, r16.2.1, r19.2)
  else
   some (0, N, r12.2)
  else
   (m_X8_found N σ t0 r10).bind fun r20 =>
  some (r20.1.toInt64, N, r20.2)
  else
   some ((-1000001), N, σ))
  else
   some ((-1000002), N, σ)
set_option maxHeartbeats 4000000 in
set_option maxRecDepth 100000 in
theorem ct_X8_ways {l : Launch} {D : va_G} {cy : Nat → Nat} {N : Nat} {σ : Hp} {t0 : Nat} {p1 : Int32} {p2 : Int32} {p3 : Int32} {r : Int64 × Nat × Hp} (h : m_X8_ways N σ t0 p1 p2 p3 = some r) : CtA l D cy yX8_ways cX8_ways 7 (some .long) 6 6 16397 [.ref t0, .int p1, .int p2, .int p3] N σ (fun v n' s' => v = (some (.long r.1)) ∧ n' = r.2.1 ∧ s' = r.2.2) := by
  refine CtA.intro [some (.ref t0), some (.int p1), some (.int p2), some (.int p3), none, none, none] (by decide) rfl (Nat.le_of_ble_eq_true rfl) ?_
  intro κ ad0 e1 e2 e3 hRc hRs C Z E
  subst e1; subst e2; subst e3
  have C : Cx κ 7 6 cX8_ways RX8 "ways" := C
  have G := Ag.rf N ad0 0 0
  have hE : ∀ x : Int64 × Nat × Hp, r = x → ((some (Value.long x.1)) = (some (Value.long r.1)) ∧ x.2.1 = r.2.1 ∧ x.2.2 = r.2.2) := fun x hx => by subst hx; exact ⟨rfl, rfl, rfl⟩
  unfold m_X8_ways at h
  obtain ⟨_, _, h⟩ := ob h
  refine x_aload_n C (i := 0) dX8_ways_0 rfl rfl ?_
  obtain ⟨x1, ex1, h⟩ := ob h
  refine x_getR C fl_X8_25 dX8_ways_1 ex1 ?_
  obtain ⟨r2, er2, h⟩ := ob h
  refine x_callVr C Z mv_X2_isNone lk_X8_156 (rv_h er2) (ct_X2_isNone er2) (by decide) rfl rfl (Nat.le_of_ble_eq_true rfl) dX8_ways_4 ?_
  refine x_if_eq C (tgt := 14) dX8_ways_7 (by decide) (fun c3 => ?_) (fun c3 => ?_)
  · have h := ifP h c3
    refine x_aload_n C (i := 0) dX8_ways_14 rfl rfl ?_
    refine x_iload_n C (i := 1) dX8_ways_15 rfl rfl ?_
    obtain ⟨r4, er4, h⟩ := ob h
    refine x_callVr C Z mv_X8_rowAt lk_X8_51 (rv_h er4) (ct_X8_rowAt er4) (by decide) rfl rfl (Nat.le_of_ble_eq_true rfl) dX8_ways_16 ?_
    refine x_astoreQ C (i := 4) (lo' := [some (.ref t0), some (.int p1), some (.int p2), some (.int p3), some (va_rf r4), none, none]) dX8_ways_19 (by decide) rfl rfl ?_
    refine x_aloadQ C (i := 4) dX8_ways_21 rfl ?_
    refine x_ifnull C (tgt := 36) dX8_ways_23 (by decide) (fun hq => ?_) (fun q5 hq => ?_)
    · subst hq
      have h := cQ_n h
      refine x_ldc2 C kj_X8_216 dX8_ways_36 ?_
      exact x_lretA C E G ⟨hRc ▸ Z.1.1, hRs ▸ Z.1.2⟩ dX8_ways_39 (hE ((-1000001), N, σ) (Option.some.inj h).symm)
    · subst hq
      have h := cQ_s h
      refine x_iload_n C (i := 3) dX8_ways_26 rfl rfl ?_
      refine x_if_lt C (tgt := 36) dX8_ways_27 (by decide) (fun c6 => ?_) (fun c6 => ?_)
      · have h := ifP h c6
        refine x_ldc2 C kj_X8_216 dX8_ways_36 ?_
        exact x_lretA C E G ⟨hRc ▸ Z.1.1, hRs ▸ Z.1.2⟩ dX8_ways_39 (hE ((-1000001), N, σ) (Option.some.inj h).symm)
      · have h := ifN h c6
        refine x_iload_n C (i := 3) dX8_ways_30 rfl rfl ?_
        refine x_bipush C (v := 12) dX8_ways_31 (by decide) ?_
        refine x_icmp_le C (tgt := 40) dX8_ways_33 (by decide) (fun c7 => ?_) (fun c7 => ?_)
        · have h := ifP h c7
          refine x_aload C (i := 4) dX8_ways_40 rfl ?_
          refine x_iload_n C (i := 2) dX8_ways_42 rfl rfl ?_
          refine x_aload_n C (i := 0) dX8_ways_43 rfl rfl ?_
          obtain ⟨x8, ex8, h⟩ := ob h
          refine x_getR C fl_X8_25 dX8_ways_44 ex8 ?_
          obtain ⟨x9, ex9, h⟩ := ob h
          refine x_getI C fl_X8_124 dX8_ways_47 ex9 ?_
          obtain ⟨r10, er10, h⟩ := ob h
          refine x_callVr C Z mv_X5_flaw lk_X8_67 (rv_h er10) (ct_X5_flaw er10) (by decide) rfl rfl (Nat.le_of_ble_eq_true rfl) dX8_ways_50 ?_
          refine x_istore C (i := 5) (lo' := [some (.ref t0), some (.int p1), some (.int p2), some (.int p3), some (.ref q5), some (.int r10), none]) dX8_ways_53 (by decide) rfl rfl ?_
          refine x_iload C (i := 5) dX8_ways_55 rfl ?_
          refine x_if_eq C (tgt := 68) dX8_ways_57 (by decide) (fun c11 => ?_) (fun c11 => ?_)
          · have h := ifP h c11
            refine x_aload_n C (i := 0) dX8_ways_68 rfl rfl ?_
            refine x_iconst C (v := 0) dX8_ways_69 (by decide) ?_
            obtain ⟨r12, er12, h⟩ := ob h
            refine x_callVr C Z mv_X8_well lk_X8_64 (rv_h er12) (ct_X8_well er12) (by decide) rfl rfl (Nat.le_of_ble_eq_true rfl) dX8_ways_70 ?_
            refine x_pop C dX8_ways_73 rfl ?_
            refine x_aload_n C (i := 0) dX8_ways_74 rfl rfl ?_
            obtain ⟨x13, ex13, h⟩ := ob h
            refine x_getR C fl_X8_25 dX8_ways_75 ex13 ?_
            refine x_aload C (i := 4) dX8_ways_78 rfl ?_
            refine x_iload_n C (i := 2) dX8_ways_80 rfl rfl ?_
            obtain ⟨r14, er14, h⟩ := ob h
            refine x_callVr C Z mv_X2_arrangedBy lk_X8_180 (rv_h er14) (ct_X2_arrangedBy er14) (by decide) rfl rfl (Nat.le_of_ble_eq_true rfl) dX8_ways_81 ?_
            refine x_istore C (i := 6) (lo' := [some (.ref t0), some (.int p1), some (.int p2), some (.int p3), some (.ref q5), some (.int r10), some (.int r14)]) dX8_ways_84 (by decide) rfl rfl ?_
            refine x_iload C (i := 6) dX8_ways_86 rfl ?_
            refine x_if_ge C (tgt := 95) dX8_ways_88 (by decide) (fun c15 => ?_) (fun c15 => ?_)
            · have h := ifP h c15
              refine x_aload_n C (i := 0) dX8_ways_95 rfl rfl ?_
              obtain ⟨u17, eu17, h⟩ := ob h
              obtain ⟨r16, er16, h⟩ := ob h
              obtain ⟨u18, eu18, h⟩ := ob h
              refine g_callVr C Z G hRc hRs mv_X8_layered lk_X8_218 (rv_h er16) (ct_X8_layered er16) (by decide) rfl rfl (Nat.le_of_ble_eq_true rfl) eu17 rfl eu18 dX8_ways_96 (fun ad Z G => ?_)
              refine x_iload C (i := 6) dX8_ways_99 rfl ?_
              refine x_iload_n C (i := 3) dX8_ways_101 rfl rfl ?_
              obtain ⟨r19, er19, h⟩ := ob h
              refine x_callVr C Z mv_X3_rowsTo lk_X8_222 (rv_h er19) (ct_X3_rowsTo er19) (by decide) rfl rfl (Nat.le_of_ble_eq_true rfl) dX8_ways_102 ?_
              exact x_lretA C E G ⟨hRc ▸ Z.1.1, hRs ▸ Z.1.2⟩ dX8_ways_105 (hE (r19.1, r16.2.1, r19.2) (Option.some.inj h).symm)
            · have h := ifN h c15
              refine x_lconst C (v := 0) dX8_ways_91 (by decide) ?_
              refine x_goto C (tgt := 105) dX8_ways_92 (by decide) ?_
              exact x_lretA C E G ⟨hRc ▸ Z.1.1, hRs ▸ Z.1.2⟩ dX8_ways_105 (hE (0, N, r12.2) (Option.some.inj h).symm)
          · have h := ifN h c11
            refine x_aload_n C (i := 0) dX8_ways_60 rfl rfl ?_
            refine x_iload C (i := 5) dX8_ways_61 rfl ?_
            obtain ⟨r20, er20, h⟩ := ob h
            refine x_callVr C Z mv_X8_found lk_X8_56 (rv_h er20) (ct_X8_found er20) (by decide) rfl rfl (Nat.le_of_ble_eq_true rfl) dX8_ways_63 ?_
            refine x_i2l C dX8_ways_66 ?_
            exact x_lretA C E G ⟨hRc ▸ Z.1.1, hRs ▸ Z.1.2⟩ dX8_ways_67 (hE (r20.1.toInt64, N, r20.2) (Option.some.inj h).symm)
        · have h := ifN h c7
          refine x_ldc2 C kj_X8_216 dX8_ways_36 ?_
          exact x_lretA C E G ⟨hRc ▸ Z.1.1, hRs ▸ Z.1.2⟩ dX8_ways_39 (hE ((-1000001), N, σ) (Option.some.inj h).symm)
  · have h := ifN h c3
    refine x_ldc2 C kj_X8_214 dX8_ways_10 ?_
    exact x_lretA C E G ⟨hRc ▸ Z.1.1, hRs ▸ Z.1.2⟩ dX8_ways_13 (hE ((-1000002), N, σ) (Option.some.inj h).symm)
theorem dX8_judge_0 : decode cX8_judge 0 = .ok (.aload_n 0, 1) := by decide +kernel
theorem dX8_judge_1 : decode cX8_judge 1 = .ok (.getfield 25, 3) := by decide +kernel
theorem dX8_judge_4 : decode cX8_judge 4 = .ok (.invokevirtual 156, 3) := by decide +kernel
theorem dX8_judge_7 : decode cX8_judge 7 = .ok (.ifCond .eq 6, 3) := by decide +kernel
theorem dX8_judge_10 : decode cX8_judge 10 = .ok (.ldc 133, 2) := by decide +kernel
theorem dX8_judge_12 : decode cX8_judge 12 = .ok (.ireturn, 1) := by decide +kernel
theorem dX8_judge_13 : decode cX8_judge 13 = .ok (.aload_n 0, 1) := by decide +kernel
theorem dX8_judge_14 : decode cX8_judge 14 = .ok (.iload_n 1, 1) := by decide +kernel
theorem dX8_judge_15 : decode cX8_judge 15 = .ok (.invokevirtual 51, 3) := by decide +kernel
theorem dX8_judge_18 : decode cX8_judge 18 = .ok (.astore 4, 2) := by decide +kernel
theorem dX8_judge_20 : decode cX8_judge 20 = .ok (.aload 4, 2) := by decide +kernel
theorem dX8_judge_22 : decode cX8_judge 22 = .ok (.ifnull 14, 3) := by decide +kernel
theorem dX8_judge_25 : decode cX8_judge 25 = .ok (.iload_n 3, 1) := by decide +kernel
theorem dX8_judge_26 : decode cX8_judge 26 = .ok (.iconst 1, 1) := by decide +kernel
theorem dX8_judge_27 : decode cX8_judge 27 = .ok (.if_icmp .lt 9, 3) := by decide +kernel
theorem dX8_judge_30 : decode cX8_judge 30 = .ok (.iload_n 3, 1) := by decide +kernel
theorem dX8_judge_31 : decode cX8_judge 31 = .ok (.bipush 16, 2) := by decide +kernel
theorem dX8_judge_33 : decode cX8_judge 33 = .ok (.if_icmp .le 6, 3) := by decide +kernel
theorem dX8_judge_36 : decode cX8_judge 36 = .ok (.ldc 55, 2) := by decide +kernel
theorem dX8_judge_38 : decode cX8_judge 38 = .ok (.ireturn, 1) := by decide +kernel
theorem dX8_judge_39 : decode cX8_judge 39 = .ok (.aload 4, 2) := by decide +kernel
theorem dX8_judge_41 : decode cX8_judge 41 = .ok (.iload_n 2, 1) := by decide +kernel
theorem dX8_judge_42 : decode cX8_judge 42 = .ok (.iload_n 3, 1) := by decide +kernel
theorem dX8_judge_43 : decode cX8_judge 43 = .ok (.invokevirtual 67, 3) := by decide +kernel
theorem dX8_judge_46 : decode cX8_judge 46 = .ok (.istore 5, 2) := by decide +kernel
theorem dX8_judge_48 : decode cX8_judge 48 = .ok (.iload 5, 2) := by decide +kernel
theorem dX8_judge_50 : decode cX8_judge 50 = .ok (.ifCond .eq 10, 3) := by decide +kernel
theorem dX8_judge_53 : decode cX8_judge 53 = .ok (.aload_n 0, 1) := by decide +kernel
theorem dX8_judge_54 : decode cX8_judge 54 = .ok (.iload 5, 2) := by decide +kernel
theorem dX8_judge_56 : decode cX8_judge 56 = .ok (.invokevirtual 56, 3) := by decide +kernel
theorem dX8_judge_59 : decode cX8_judge 59 = .ok (.ireturn, 1) := by decide +kernel
theorem dX8_judge_60 : decode cX8_judge 60 = .ok (.aload_n 0, 1) := by decide +kernel
theorem dX8_judge_61 : decode cX8_judge 61 = .ok (.getfield 29, 3) := by decide +kernel
theorem dX8_judge_64 : decode cX8_judge 64 = .ok (.aload_n 0, 1) := by decide +kernel
theorem dX8_judge_65 : decode cX8_judge 65 = .ok (.getfield 25, 3) := by decide +kernel
theorem dX8_judge_68 : decode cX8_judge 68 = .ok (.invokevirtual 118, 3) := by decide +kernel
theorem dX8_judge_71 : decode cX8_judge 71 = .ok (.aload_n 0, 1) := by decide +kernel
theorem dX8_judge_72 : decode cX8_judge 72 = .ok (.aload_n 0, 1) := by decide +kernel
theorem dX8_judge_73 : decode cX8_judge 73 = .ok (.getfield 29, 3) := by decide +kernel
theorem dX8_judge_76 : decode cX8_judge 76 = .ok (.aload 4, 2) := by decide +kernel
theorem dX8_judge_78 : decode cX8_judge 78 = .ok (.iload_n 2, 1) := by decide +kernel
theorem dX8_judge_79 : decode cX8_judge 79 = .ok (.iload_n 3, 1) := by decide +kernel
theorem dX8_judge_80 : decode cX8_judge 80 = .ok (.invokevirtual 228, 3) := by decide +kernel
theorem dX8_judge_83 : decode cX8_judge 83 = .ok (.invokevirtual 64, 3) := by decide +kernel
theorem dX8_judge_86 : decode cX8_judge 86 = .ok (.ireturn, 1) := by decide +kernel
def m_X8_judge (N : Nat) (σ : Hp) (t0 : Nat) (p1 : Int32) (p2 : Int32) (p3 : Int32) : Option (Int32 × Hp) :=
  (rv N σ t0 8).bind fun _ =>
  (gR N σ t0 8 2).bind fun x1 =>
  (m_X2_isNone N σ x1).bind fun r2 =>
  if r2 = 0 then
   (m_X8_rowAt N σ t0 p1).bind fun r4 =>
  cQ r4 (
   some ((-1000001), σ)) (fun q5 =>
   if p3 < 1 then
   some ((-1000001), σ)
  else
   if p3 ≤ 16 then
   (m_X5_flaw N σ q5 p2 p3).bind fun r8 =>
  if r8 = 0 then
   (gR N σ t0 8 3).bind fun x10 =>
  (gR N σ t0 8 2).bind fun x11 =>
  (m_X2_take N σ x10 x11).bind fun r12 =>
  (gR N r12 t0 8 3).bind fun x13 =>
  (m_X2_firstWrong N r12 x13 q5 p2 p3).bind fun r14 =>
  (m_X8_well N r14.2 t0 r14.1).bind fun r15 =>
  some (r15.1, r15.2)
  else
   (m_X8_found N σ t0 r8).bind fun r16 =>
  some (r16.1, r16.2)
  else
   some ((-1000001), σ))
  else
   some ((-1000002), σ)
set_option maxHeartbeats 4000000 in
set_option maxRecDepth 100000 in
theorem ct_X8_judge {l : Launch} {D : va_G} {cy : Nat → Nat} {N : Nat} {σ : Hp} {t0 : Nat} {p1 : Int32} {p2 : Int32} {p3 : Int32} {r : Int32 × Hp} (h : m_X8_judge N σ t0 p1 p2 p3 = some r) : Ct l D cy yX8_judge cX8_judge 6 (some .int) 6 [.ref t0, .int p1, .int p2, .int p3] N σ (fun v s' => v = (some (.int r.1)) ∧ s' = r.2) := by
  refine Ct.intro [some (.ref t0), some (.int p1), some (.int p2), some (.int p3), none, none] (by decide) rfl (Nat.le_of_ble_eq_true rfl) ?_
  intro κ ω e1 e2 e3 e4 C Z E
  subst e1; subst e2; subst e3; subst e4
  have C : Cx κ 6 6 cX8_judge RX8 "judge" := C
  have hE : ∀ x : Int32 × Hp, r = x → ((some (Value.int x.1)) = (some (Value.int r.1)) ∧ x.2 = r.2) := fun x hx => by subst hx; exact ⟨rfl, rfl⟩
  unfold m_X8_judge at h
  obtain ⟨_, _, h⟩ := ob h
  refine x_aload_n C (i := 0) dX8_judge_0 rfl rfl ?_
  obtain ⟨x1, ex1, h⟩ := ob h
  refine x_getR C fl_X8_25 dX8_judge_1 ex1 ?_
  obtain ⟨r2, er2, h⟩ := ob h
  refine x_callVr C Z mv_X2_isNone lk_X8_156 (rv_h er2) (ct_X2_isNone er2) (by decide) rfl rfl (Nat.le_of_ble_eq_true rfl) dX8_judge_4 ?_
  refine x_if_eq C (tgt := 13) dX8_judge_7 (by decide) (fun c3 => ?_) (fun c3 => ?_)
  · have h := ifP h c3
    refine x_aload_n C (i := 0) dX8_judge_13 rfl rfl ?_
    refine x_iload_n C (i := 1) dX8_judge_14 rfl rfl ?_
    obtain ⟨r4, er4, h⟩ := ob h
    refine x_callVr C Z mv_X8_rowAt lk_X8_51 (rv_h er4) (ct_X8_rowAt er4) (by decide) rfl rfl (Nat.le_of_ble_eq_true rfl) dX8_judge_15 ?_
    refine x_astoreQ C (i := 4) (lo' := [some (.ref t0), some (.int p1), some (.int p2), some (.int p3), some (va_rf r4), none]) dX8_judge_18 (by decide) rfl rfl ?_
    refine x_aloadQ C (i := 4) dX8_judge_20 rfl ?_
    refine x_ifnull C (tgt := 36) dX8_judge_22 (by decide) (fun hq => ?_) (fun q5 hq => ?_)
    · subst hq
      have h := cQ_n h
      refine x_ldc C kc_X8_55 dX8_judge_36 ?_
      exact x_iret C E dX8_judge_38 (hE ((-1000001), σ) (Option.some.inj h).symm)
    · subst hq
      have h := cQ_s h
      refine x_iload_n C (i := 3) dX8_judge_25 rfl rfl ?_
      refine x_iconst C (v := 1) dX8_judge_26 (by decide) ?_
      refine x_icmp_lt C (tgt := 36) dX8_judge_27 (by decide) (fun c6 => ?_) (fun c6 => ?_)
      · have h := ifP h c6
        refine x_ldc C kc_X8_55 dX8_judge_36 ?_
        exact x_iret C E dX8_judge_38 (hE ((-1000001), σ) (Option.some.inj h).symm)
      · have h := ifN h c6
        refine x_iload_n C (i := 3) dX8_judge_30 rfl rfl ?_
        refine x_bipush C (v := 16) dX8_judge_31 (by decide) ?_
        refine x_icmp_le C (tgt := 39) dX8_judge_33 (by decide) (fun c7 => ?_) (fun c7 => ?_)
        · have h := ifP h c7
          refine x_aload C (i := 4) dX8_judge_39 rfl ?_
          refine x_iload_n C (i := 2) dX8_judge_41 rfl rfl ?_
          refine x_iload_n C (i := 3) dX8_judge_42 rfl rfl ?_
          obtain ⟨r8, er8, h⟩ := ob h
          refine x_callVr C Z mv_X5_flaw lk_X8_67 (rv_h er8) (ct_X5_flaw er8) (by decide) rfl rfl (Nat.le_of_ble_eq_true rfl) dX8_judge_43 ?_
          refine x_istore C (i := 5) (lo' := [some (.ref t0), some (.int p1), some (.int p2), some (.int p3), some (.ref q5), some (.int r8)]) dX8_judge_46 (by decide) rfl rfl ?_
          refine x_iload C (i := 5) dX8_judge_48 rfl ?_
          refine x_if_eq C (tgt := 60) dX8_judge_50 (by decide) (fun c9 => ?_) (fun c9 => ?_)
          · have h := ifP h c9
            refine x_aload_n C (i := 0) dX8_judge_60 rfl rfl ?_
            obtain ⟨x10, ex10, h⟩ := ob h
            refine x_getR C fl_X8_29 dX8_judge_61 ex10 ?_
            refine x_aload_n C (i := 0) dX8_judge_64 rfl rfl ?_
            obtain ⟨x11, ex11, h⟩ := ob h
            refine x_getR C fl_X8_25 dX8_judge_65 ex11 ?_
            obtain ⟨r12, er12, h⟩ := ob h
            refine x_callVn C Z mv_X2_take lk_X8_118 (rv_h er12) (ct_X2_take er12) (by decide) rfl rfl (Nat.le_of_ble_eq_true rfl) dX8_judge_68 ?_
            refine x_aload_n C (i := 0) dX8_judge_71 rfl rfl ?_
            refine x_aload_n C (i := 0) dX8_judge_72 rfl rfl ?_
            obtain ⟨x13, ex13, h⟩ := ob h
            refine x_getR C fl_X8_29 dX8_judge_73 ex13 ?_
            refine x_aload C (i := 4) dX8_judge_76 rfl ?_
            refine x_iload_n C (i := 2) dX8_judge_78 rfl rfl ?_
            refine x_iload_n C (i := 3) dX8_judge_79 rfl rfl ?_
            obtain ⟨r14, er14, h⟩ := ob h
            refine x_callVr C Z mv_X2_firstWrong lk_X8_228 (rv_h er14) (ct_X2_firstWrong er14) (by decide) rfl rfl (Nat.le_of_ble_eq_true rfl) dX8_judge_80 ?_
            obtain ⟨r15, er15, h⟩ := ob h
            refine x_callVr C Z mv_X8_well lk_X8_64 (rv_h er15) (ct_X8_well er15) (by decide) rfl rfl (Nat.le_of_ble_eq_true rfl) dX8_judge_83 ?_
            exact x_iret C E dX8_judge_86 (hE (r15.1, r15.2) (Option.some.inj h).symm)
          · have h := ifN h c9
            refine x_aload_n C (i := 0) dX8_judge_53 rfl rfl ?_
            refine x_iload C (i := 5) dX8_judge_54 rfl ?_
            obtain ⟨r16, er16, h⟩ := ob h
            refine x_callVr C Z mv_X8_found lk_X8_56 (rv_h er16) (ct_X8_found er16) (by decide) rfl rfl (Nat.le_of_ble_eq_true rfl) dX8_judge_56 ?_
            exact x_iret C E dX8_judge_59 (hE (r16.1, r16.2) (Option.some.inj h).symm)
        · have h := ifN h c7
          refine x_ldc C kc_X8_55 dX8_judge_36 ?_
          exact x_iret C E dX8_judge_38 (hE ((-1000001), σ) (Option.some.inj h).symm)
  · have h := ifN h c3
    refine x_ldc C kc_X8_133 dX8_judge_10 ?_
    exact x_iret C E dX8_judge_12 (hE ((-1000002), σ) (Option.some.inj h).symm)
theorem dX8_suppose_0 : decode cX8_suppose 0 = .ok (.aload_n 0, 1) := by decide +kernel
theorem dX8_suppose_1 : decode cX8_suppose 1 = .ok (.getfield 29, 3) := by decide +kernel
theorem dX8_suppose_4 : decode cX8_suppose 4 = .ok (.aload_n 0, 1) := by decide +kernel
theorem dX8_suppose_5 : decode cX8_suppose 5 = .ok (.getfield 25, 3) := by decide +kernel
theorem dX8_suppose_8 : decode cX8_suppose 8 = .ok (.invokevirtual 118, 3) := by decide +kernel
theorem dX8_suppose_11 : decode cX8_suppose 11 = .ok (.iload_n 3, 1) := by decide +kernel
theorem dX8_suppose_12 : decode cX8_suppose 12 = .ok (.lookupswitch 71 #[(0, 28), (1, 53)], 28) := by decide +kernel
theorem dX8_suppose_40 : decode cX8_suppose 40 = .ok (.aload_n 0, 1) := by decide +kernel
theorem dX8_suppose_41 : decode cX8_suppose 41 = .ok (.getfield 29, 3) := by decide +kernel
theorem dX8_suppose_44 : decode cX8_suppose 44 = .ok (.iload_n 1, 1) := by decide +kernel
theorem dX8_suppose_45 : decode cX8_suppose 45 = .ok (.iload_n 2, 1) := by decide +kernel
theorem dX8_suppose_46 : decode cX8_suppose 46 = .ok (.invokevirtual 278, 3) := by decide +kernel
theorem dX8_suppose_49 : decode cX8_suppose 49 = .ok (.iload_n 2, 1) := by decide +kernel
theorem dX8_suppose_50 : decode cX8_suppose 50 = .ok (.iconst 1, 1) := by decide +kernel
theorem dX8_suppose_51 : decode cX8_suppose 51 = .ok (.if_icmp .lt 12, 3) := by decide +kernel
theorem dX8_suppose_54 : decode cX8_suppose 54 = .ok (.iload_n 2, 1) := by decide +kernel
theorem dX8_suppose_55 : decode cX8_suppose 55 = .ok (.iconst 5, 1) := by decide +kernel
theorem dX8_suppose_56 : decode cX8_suppose 56 = .ok (.if_icmp .gt 7, 3) := by decide +kernel
theorem dX8_suppose_59 : decode cX8_suppose 59 = .ok (.iconst 1, 1) := by decide +kernel
theorem dX8_suppose_60 : decode cX8_suppose 60 = .ok (.goto 4, 3) := by decide +kernel
theorem dX8_suppose_63 : decode cX8_suppose 63 = .ok (.iconst 0, 1) := by decide +kernel
theorem dX8_suppose_64 : decode cX8_suppose 64 = .ok (.ireturn, 1) := by decide +kernel
theorem dX8_suppose_65 : decode cX8_suppose 65 = .ok (.aload_n 0, 1) := by decide +kernel
theorem dX8_suppose_66 : decode cX8_suppose 66 = .ok (.getfield 29, 3) := by decide +kernel
theorem dX8_suppose_69 : decode cX8_suppose 69 = .ok (.iload_n 1, 1) := by decide +kernel
theorem dX8_suppose_70 : decode cX8_suppose 70 = .ok (.iload_n 2, 1) := by decide +kernel
theorem dX8_suppose_71 : decode cX8_suppose 71 = .ok (.invokevirtual 153, 3) := by decide +kernel
theorem dX8_suppose_74 : decode cX8_suppose 74 = .ok (.aload_n 0, 1) := by decide +kernel
theorem dX8_suppose_75 : decode cX8_suppose 75 = .ok (.getfield 25, 3) := by decide +kernel
theorem dX8_suppose_78 : decode cX8_suppose 78 = .ok (.iload_n 2, 1) := by decide +kernel
theorem dX8_suppose_79 : decode cX8_suppose 79 = .ok (.invokevirtual 127, 3) := by decide +kernel
theorem dX8_suppose_82 : decode cX8_suppose 82 = .ok (.ireturn, 1) := by decide +kernel
theorem dX8_suppose_83 : decode cX8_suppose 83 = .ok (.aload_n 0, 1) := by decide +kernel
theorem dX8_suppose_84 : decode cX8_suppose 84 = .ok (.getfield 29, 3) := by decide +kernel
theorem dX8_suppose_87 : decode cX8_suppose 87 = .ok (.iload_n 2, 1) := by decide +kernel
theorem dX8_suppose_88 : decode cX8_suppose 88 = .ok (.putfield 159, 3) := by decide +kernel
theorem dX8_suppose_91 : decode cX8_suppose 91 = .ok (.iload_n 2, 1) := by decide +kernel
theorem dX8_suppose_92 : decode cX8_suppose 92 = .ok (.iconst 1, 1) := by decide +kernel
theorem dX8_suppose_93 : decode cX8_suppose 93 = .ok (.if_icmp .lt 7, 3) := by decide +kernel
theorem dX8_suppose_96 : decode cX8_suppose 96 = .ok (.iconst 1, 1) := by decide +kernel
theorem dX8_suppose_97 : decode cX8_suppose 97 = .ok (.goto 4, 3) := by decide +kernel
theorem dX8_suppose_100 : decode cX8_suppose 100 = .ok (.iconst 0, 1) := by decide +kernel
theorem dX8_suppose_101 : decode cX8_suppose 101 = .ok (.ireturn, 1) := by decide +kernel
def m_X8_suppose (N : Nat) (σ : Hp) (t0 : Nat) (p1 : Int32) (p2 : Int32) (p3 : Int32) : Option (Int32 × Hp) :=
  (rv N σ t0 8).bind fun _ =>
  (gR N σ t0 8 3).bind fun x1 =>
  (gR N σ t0 8 2).bind fun x2 =>
  (m_X2_take N σ x1 x2).bind fun r3 =>
  if p3 = 0 then
   (gR N r3 t0 8 3).bind fun x5 =>
  (m_X2_sortAs N r3 x5 p1 p2).bind fun r6 =>
  if p2 < 1 then
   some (0, r6)
  else
   if 5 < p2 then
   some (0, r6)
  else
   some (1, r6)
  else if p3 = 1 then
   (gR N r3 t0 8 3).bind fun x10 =>
  (m_X2_layBy N r3 x10 p1 p2).bind fun r11 =>
  (gR N r11 t0 8 2).bind fun x12 =>
  (m_X2_hasPeg N r11 x12 p2).bind fun r13 =>
  (zb r13).bind fun u14 =>
  some (r13, r11)
  else 
   (gR N r3 t0 8 3).bind fun x15 =>
  (pV N r3 x15 2 2 (.int p2)).bind fun σ16 =>
  if p2 < 1 then
   some (0, σ16)
  else
   some (1, σ16)
set_option maxHeartbeats 4000000 in
set_option maxRecDepth 100000 in
theorem ct_X8_suppose {l : Launch} {D : va_G} {cy : Nat → Nat} {N : Nat} {σ : Hp} {t0 : Nat} {p1 : Int32} {p2 : Int32} {p3 : Int32} {r : Int32 × Hp} (h : m_X8_suppose N σ t0 p1 p2 p3 = some r) : Ct l D cy yX8_suppose cX8_suppose 4 (some .boolean) 1 [.ref t0, .int p1, .int p2, .int p3] N σ (fun v s' => v = (some (.int r.1)) ∧ s' = r.2) := by
  refine Ct.intro [some (.ref t0), some (.int p1), some (.int p2), some (.int p3)] (by decide) rfl (Nat.le_of_ble_eq_true rfl) ?_
  intro κ ω e1 e2 e3 e4 C Z E
  subst e1; subst e2; subst e3; subst e4
  have C : Cx κ 4 1 cX8_suppose RX8 "suppose" := C
  have hE : ∀ x : Int32 × Hp, r = x → ((some (Value.int x.1)) = (some (Value.int r.1)) ∧ x.2 = r.2) := fun x hx => by subst hx; exact ⟨rfl, rfl⟩
  unfold m_X8_suppose at h
  obtain ⟨_, _, h⟩ := ob h
  refine x_aload_n C (i := 0) dX8_suppose_0 rfl rfl ?_
  obtain ⟨x1, ex1, h⟩ := ob h
  refine x_getR C fl_X8_29 dX8_suppose_1 ex1 ?_
  refine x_aload_n C (i := 0) dX8_suppose_4 rfl rfl ?_
  obtain ⟨x2, ex2, h⟩ := ob h
  refine x_getR C fl_X8_25 dX8_suppose_5 ex2 ?_
  obtain ⟨r3, er3, h⟩ := ob h
  refine x_callVn C Z mv_X2_take lk_X8_118 (rv_h er3) (ct_X2_take er3) (by decide) rfl rfl (Nat.le_of_ble_eq_true rfl) dX8_suppose_8 ?_
  refine x_iload_n C (i := 3) dX8_suppose_11 rfl rfl ?_
  by_cases c4 : p3 = 0
  · have h := ifP h c4
    refine x_lookup C (off := 28) (tgt := 40) dX8_suppose_12 (by decide) (by rw [c4]; rfl) (by decide) ?_
    refine x_aload_n C (i := 0) dX8_suppose_40 rfl rfl ?_
    obtain ⟨x5, ex5, h⟩ := ob h
    refine x_getR C fl_X8_29 dX8_suppose_41 ex5 ?_
    refine x_iload_n C (i := 1) dX8_suppose_44 rfl rfl ?_
    refine x_iload_n C (i := 2) dX8_suppose_45 rfl rfl ?_
    obtain ⟨r6, er6, h⟩ := ob h
    refine x_callVn C Z mv_X2_sortAs lk_X8_278 (rv_h er6) (ct_X2_sortAs er6) (by decide) rfl rfl (Nat.le_of_ble_eq_true rfl) dX8_suppose_46 ?_
    refine x_iload_n C (i := 2) dX8_suppose_49 rfl rfl ?_
    refine x_iconst C (v := 1) dX8_suppose_50 (by decide) ?_
    refine x_icmp_lt C (tgt := 63) dX8_suppose_51 (by decide) (fun c7 => ?_) (fun c7 => ?_)
    · have h := ifP h c7
      refine x_iconst C (v := 0) dX8_suppose_63 (by decide) ?_
      exact x_zret C E (by decide +kernel) dX8_suppose_64 (hE (0, r6) (Option.some.inj h).symm)
    · have h := ifN h c7
      refine x_iload_n C (i := 2) dX8_suppose_54 rfl rfl ?_
      refine x_iconst C (v := 5) dX8_suppose_55 (by decide) ?_
      refine x_icmp_gt C (tgt := 63) dX8_suppose_56 (by decide) (fun c8 => ?_) (fun c8 => ?_)
      · have h := ifP h c8
        refine x_iconst C (v := 0) dX8_suppose_63 (by decide) ?_
        exact x_zret C E (by decide +kernel) dX8_suppose_64 (hE (0, r6) (Option.some.inj h).symm)
      · have h := ifN h c8
        refine x_iconst C (v := 1) dX8_suppose_59 (by decide) ?_
        refine x_goto C (tgt := 64) dX8_suppose_60 (by decide) ?_
        exact x_zret C E (by decide +kernel) dX8_suppose_64 (hE (1, r6) (Option.some.inj h).symm)
  · have h := ifN h c4
    by_cases c9 : p3 = 1
    · have h := ifP h c9
      refine x_lookup C (off := 53) (tgt := 65) dX8_suppose_12 (by decide) (by rw [c9]; rfl) (by decide) ?_
      refine x_aload_n C (i := 0) dX8_suppose_65 rfl rfl ?_
      obtain ⟨x10, ex10, h⟩ := ob h
      refine x_getR C fl_X8_29 dX8_suppose_66 ex10 ?_
      refine x_iload_n C (i := 1) dX8_suppose_69 rfl rfl ?_
      refine x_iload_n C (i := 2) dX8_suppose_70 rfl rfl ?_
      obtain ⟨r11, er11, h⟩ := ob h
      refine x_callVn C Z mv_X2_layBy lk_X8_153 (rv_h er11) (ct_X2_layBy er11) (by decide) rfl rfl (Nat.le_of_ble_eq_true rfl) dX8_suppose_71 ?_
      refine x_aload_n C (i := 0) dX8_suppose_74 rfl rfl ?_
      obtain ⟨x12, ex12, h⟩ := ob h
      refine x_getR C fl_X8_25 dX8_suppose_75 ex12 ?_
      refine x_iload_n C (i := 2) dX8_suppose_78 rfl rfl ?_
      obtain ⟨r13, er13, h⟩ := ob h
      refine x_callVr C Z mv_X2_hasPeg lk_X8_127 (rv_h er13) (ct_X2_hasPeg er13) (by decide) rfl rfl (Nat.le_of_ble_eq_true rfl) dX8_suppose_79 ?_
      obtain ⟨u14, eu14, h⟩ := ob h
      exact x_zret C E (zb_n eu14) dX8_suppose_82 (hE (r13, r11) (Option.some.inj h).symm)
    · have h := ifN h c9
      refine x_lookup C (off := 71) (tgt := 83) dX8_suppose_12 (by decide) (by rw [show (#[(0, 28), (1, 53)] : Array (Int × Int)).toList = [(0, 28), (1, 53)] from rfl, lv_osw c4 (by decide), lv_osw c9 (by decide)]; rfl) (by decide) ?_
      refine x_aload_n C (i := 0) dX8_suppose_83 rfl rfl ?_
      obtain ⟨x15, ex15, h⟩ := ob h
      refine x_getR C fl_X8_29 dX8_suppose_84 ex15 ?_
      refine x_iload_n C (i := 2) dX8_suppose_87 rfl rfl ?_
      obtain ⟨σ16, eσ16, h⟩ := ob h
      refine x_put C pl_X8_159 dX8_suppose_88 (fun _ => ⟨rfl, rfl⟩) eσ16 ?_
      refine x_iload_n C (i := 2) dX8_suppose_91 rfl rfl ?_
      refine x_iconst C (v := 1) dX8_suppose_92 (by decide) ?_
      refine x_icmp_lt C (tgt := 100) dX8_suppose_93 (by decide) (fun c17 => ?_) (fun c17 => ?_)
      · have h := ifP h c17
        refine x_iconst C (v := 0) dX8_suppose_100 (by decide) ?_
        exact x_zret C E (by decide +kernel) dX8_suppose_101 (hE (0, σ16) (Option.some.inj h).symm)
      · have h := ifN h c17
        refine x_iconst C (v := 1) dX8_suppose_96 (by decide) ?_
        refine x_goto C (tgt := 101) dX8_suppose_97 (by decide) ?_
        exact x_zret C E (by decide +kernel) dX8_suppose_101 (hE (1, σ16) (Option.some.inj h).symm)
