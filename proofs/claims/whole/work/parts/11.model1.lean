theorem dX9_sortOf_0 : decode cX9_sortOf 0 = .ok (.iload_n 0, 1) := by decide +kernel
theorem dX9_sortOf_1 : decode cX9_sortOf 1 = .ok (.bipush 112, 2) := by decide +kernel
theorem dX9_sortOf_3 : decode cX9_sortOf 3 = .ok (.if_icmp .ne 7, 3) := by decide +kernel
theorem dX9_sortOf_6 : decode cX9_sortOf 6 = .ok (.iconst 1, 1) := by decide +kernel
theorem dX9_sortOf_7 : decode cX9_sortOf 7 = .ok (.goto 44, 3) := by decide +kernel
theorem dX9_sortOf_10 : decode cX9_sortOf 10 = .ok (.iload_n 0, 1) := by decide +kernel
theorem dX9_sortOf_11 : decode cX9_sortOf 11 = .ok (.bipush 115, 2) := by decide +kernel
theorem dX9_sortOf_13 : decode cX9_sortOf 13 = .ok (.if_icmp .ne 7, 3) := by decide +kernel
theorem dX9_sortOf_16 : decode cX9_sortOf 16 = .ok (.iconst 2, 1) := by decide +kernel
theorem dX9_sortOf_17 : decode cX9_sortOf 17 = .ok (.goto 34, 3) := by decide +kernel
theorem dX9_sortOf_20 : decode cX9_sortOf 20 = .ok (.iload_n 0, 1) := by decide +kernel
theorem dX9_sortOf_21 : decode cX9_sortOf 21 = .ok (.bipush 104, 2) := by decide +kernel
theorem dX9_sortOf_23 : decode cX9_sortOf 23 = .ok (.if_icmp .ne 7, 3) := by decide +kernel
theorem dX9_sortOf_26 : decode cX9_sortOf 26 = .ok (.iconst 3, 1) := by decide +kernel
theorem dX9_sortOf_27 : decode cX9_sortOf 27 = .ok (.goto 24, 3) := by decide +kernel
theorem dX9_sortOf_30 : decode cX9_sortOf 30 = .ok (.iload_n 0, 1) := by decide +kernel
theorem dX9_sortOf_31 : decode cX9_sortOf 31 = .ok (.bipush 103, 2) := by decide +kernel
theorem dX9_sortOf_33 : decode cX9_sortOf 33 = .ok (.if_icmp .ne 7, 3) := by decide +kernel
theorem dX9_sortOf_36 : decode cX9_sortOf 36 = .ok (.iconst 4, 1) := by decide +kernel
theorem dX9_sortOf_37 : decode cX9_sortOf 37 = .ok (.goto 14, 3) := by decide +kernel
theorem dX9_sortOf_40 : decode cX9_sortOf 40 = .ok (.iload_n 0, 1) := by decide +kernel
theorem dX9_sortOf_41 : decode cX9_sortOf 41 = .ok (.bipush 102, 2) := by decide +kernel
theorem dX9_sortOf_43 : decode cX9_sortOf 43 = .ok (.if_icmp .ne 7, 3) := by decide +kernel
theorem dX9_sortOf_46 : decode cX9_sortOf 46 = .ok (.iconst 5, 1) := by decide +kernel
theorem dX9_sortOf_47 : decode cX9_sortOf 47 = .ok (.goto 4, 3) := by decide +kernel
theorem dX9_sortOf_50 : decode cX9_sortOf 50 = .ok (.iconst 0, 1) := by decide +kernel
theorem dX9_sortOf_51 : decode cX9_sortOf 51 = .ok (.ireturn, 1) := by decide +kernel
def m_X9_sortOf (p0 : Int32) : Option (Int32) :=
  if p0 = 112 then
   some 1
  else
   if p0 = 115 then
   some 2
  else
   if p0 = 104 then
   some 3
  else
   if p0 = 103 then
   some 4
  else
   if p0 = 102 then
   some 5
  else
   some 0
set_option maxHeartbeats 4000000 in
set_option maxRecDepth 100000 in
theorem ct_X9_sortOf {l : Launch} {D : va_G} {cy : Nat → Nat} {N : Nat} {σ : Hp} {p0 : Int32} {r : Int32} (h : m_X9_sortOf p0 = some r) : Ct l D cy yX9_sortOf cX9_sortOf 1 (some .int) 0 [.int p0] N σ (fun v s' => v = (some (.int r)) ∧ s' = σ) := by
  refine Ct.intro [some (.int p0)] (by decide) rfl (Nat.le_of_ble_eq_true rfl) ?_
  intro κ ω e1 e2 e3 e4 C Z E
  subst e1; subst e2; subst e3; subst e4
  have C : Cx κ 1 0 cX9_sortOf RX9 "sortOf" := C
  have hE : ∀ x : Int32, r = x → ((some (Value.int x)) = (some (Value.int r)) ∧ σ = σ) := fun x hx => by subst hx; exact ⟨rfl, rfl⟩
  unfold m_X9_sortOf at h
  refine x_iload_n C (i := 0) dX9_sortOf_0 rfl rfl ?_
  refine x_bipush C (v := 112) dX9_sortOf_1 (by decide) ?_
  refine x_icmp_ne C (tgt := 10) dX9_sortOf_3 (by decide) (fun c1 => ?_) (fun c1 => ?_)
  · have h := ifN h c1
    refine x_iload_n C (i := 0) dX9_sortOf_10 rfl rfl ?_
    refine x_bipush C (v := 115) dX9_sortOf_11 (by decide) ?_
    refine x_icmp_ne C (tgt := 20) dX9_sortOf_13 (by decide) (fun c2 => ?_) (fun c2 => ?_)
    · have h := ifN h c2
      refine x_iload_n C (i := 0) dX9_sortOf_20 rfl rfl ?_
      refine x_bipush C (v := 104) dX9_sortOf_21 (by decide) ?_
      refine x_icmp_ne C (tgt := 30) dX9_sortOf_23 (by decide) (fun c3 => ?_) (fun c3 => ?_)
      · have h := ifN h c3
        refine x_iload_n C (i := 0) dX9_sortOf_30 rfl rfl ?_
        refine x_bipush C (v := 103) dX9_sortOf_31 (by decide) ?_
        refine x_icmp_ne C (tgt := 40) dX9_sortOf_33 (by decide) (fun c4 => ?_) (fun c4 => ?_)
        · have h := ifN h c4
          refine x_iload_n C (i := 0) dX9_sortOf_40 rfl rfl ?_
          refine x_bipush C (v := 102) dX9_sortOf_41 (by decide) ?_
          refine x_icmp_ne C (tgt := 50) dX9_sortOf_43 (by decide) (fun c5 => ?_) (fun c5 => ?_)
          · have h := ifN h c5
            refine x_iconst C (v := 0) dX9_sortOf_50 (by decide) ?_
            exact x_iret C E dX9_sortOf_51 (hE 0 (Option.some.inj h).symm)
          · have h := ifP h c5
            refine x_iconst C (v := 5) dX9_sortOf_46 (by decide) ?_
            refine x_goto C (tgt := 51) dX9_sortOf_47 (by decide) ?_
            exact x_iret C E dX9_sortOf_51 (hE 5 (Option.some.inj h).symm)
        · have h := ifP h c4
          refine x_iconst C (v := 4) dX9_sortOf_36 (by decide) ?_
          refine x_goto C (tgt := 51) dX9_sortOf_37 (by decide) ?_
          exact x_iret C E dX9_sortOf_51 (hE 4 (Option.some.inj h).symm)
      · have h := ifP h c3
        refine x_iconst C (v := 3) dX9_sortOf_26 (by decide) ?_
        refine x_goto C (tgt := 51) dX9_sortOf_27 (by decide) ?_
        exact x_iret C E dX9_sortOf_51 (hE 3 (Option.some.inj h).symm)
    · have h := ifP h c2
      refine x_iconst C (v := 2) dX9_sortOf_16 (by decide) ?_
      refine x_goto C (tgt := 51) dX9_sortOf_17 (by decide) ?_
      exact x_iret C E dX9_sortOf_51 (hE 2 (Option.some.inj h).symm)
  · have h := ifP h c1
    refine x_iconst C (v := 1) dX9_sortOf_6 (by decide) ?_
    refine x_goto C (tgt := 51) dX9_sortOf_7 (by decide) ?_
    exact x_iret C E dX9_sortOf_51 (hE 1 (Option.some.inj h).symm)
theorem dX9_discItem_0 : decode cX9_discItem 0 = .ok (.aload_n 0, 1) := by decide +kernel
theorem dX9_discItem_1 : decode cX9_discItem 1 = .ok (.getfield 94, 3) := by decide +kernel
theorem dX9_discItem_4 : decode cX9_discItem 4 = .ok (.istore_n 2, 1) := by decide +kernel
theorem dX9_discItem_5 : decode cX9_discItem 5 = .ok (.aload_n 0, 1) := by decide +kernel
theorem dX9_discItem_6 : decode cX9_discItem 6 = .ok (.aload_n 0, 1) := by decide +kernel
theorem dX9_discItem_7 : decode cX9_discItem 7 = .ok (.getfield 94, 3) := by decide +kernel
theorem dX9_discItem_10 : decode cX9_discItem 10 = .ok (.invokevirtual 97, 3) := by decide +kernel
theorem dX9_discItem_13 : decode cX9_discItem 13 = .ok (.invokestatic 108, 3) := by decide +kernel
theorem dX9_discItem_16 : decode cX9_discItem 16 = .ok (.istore_n 3, 1) := by decide +kernel
theorem dX9_discItem_17 : decode cX9_discItem 17 = .ok (.aload_n 0, 1) := by decide +kernel
theorem dX9_discItem_18 : decode cX9_discItem 18 = .ok (.dup, 1) := by decide +kernel
theorem dX9_discItem_19 : decode cX9_discItem 19 = .ok (.getfield 94, 3) := by decide +kernel
theorem dX9_discItem_22 : decode cX9_discItem 22 = .ok (.iconst 1, 1) := by decide +kernel
theorem dX9_discItem_23 : decode cX9_discItem 23 = .ok (.iadd, 1) := by decide +kernel
theorem dX9_discItem_24 : decode cX9_discItem 24 = .ok (.putfield 94, 3) := by decide +kernel
theorem dX9_discItem_27 : decode cX9_discItem 27 = .ok (.iload_n 3, 1) := by decide +kernel
theorem dX9_discItem_28 : decode cX9_discItem 28 = .ok (.ifCond .ne 9, 3) := by decide +kernel
theorem dX9_discItem_31 : decode cX9_discItem 31 = .ok (.aload_n 0, 1) := by decide +kernel
theorem dX9_discItem_32 : decode cX9_discItem 32 = .ok (.iload_n 2, 1) := by decide +kernel
theorem dX9_discItem_33 : decode cX9_discItem 33 = .ok (.iconst 1, 1) := by decide +kernel
theorem dX9_discItem_34 : decode cX9_discItem 34 = .ok (.invokevirtual 100, 3) := by decide +kernel
theorem dX9_discItem_37 : decode cX9_discItem 37 = .ok (.aload_n 0, 1) := by decide +kernel
theorem dX9_discItem_38 : decode cX9_discItem 38 = .ok (.getfield 23, 3) := by decide +kernel
theorem dX9_discItem_41 : decode cX9_discItem 41 = .ok (.iload_n 1, 1) := by decide +kernel
theorem dX9_discItem_42 : decode cX9_discItem 42 = .ok (.iconst 2, 1) := by decide +kernel
theorem dX9_discItem_43 : decode cX9_discItem 43 = .ok (.iadd, 1) := by decide +kernel
theorem dX9_discItem_44 : decode cX9_discItem 44 = .ok (.iaload, 1) := by decide +kernel
theorem dX9_discItem_45 : decode cX9_discItem 45 = .ok (.bipush 6, 2) := by decide +kernel
theorem dX9_discItem_47 : decode cX9_discItem 47 = .ok (.if_icmp .ne 9, 3) := by decide +kernel
theorem dX9_discItem_50 : decode cX9_discItem 50 = .ok (.aload_n 0, 1) := by decide +kernel
theorem dX9_discItem_51 : decode cX9_discItem 51 = .ok (.iload_n 2, 1) := by decide +kernel
theorem dX9_discItem_52 : decode cX9_discItem 52 = .ok (.iconst 3, 1) := by decide +kernel
theorem dX9_discItem_53 : decode cX9_discItem 53 = .ok (.invokevirtual 100, 3) := by decide +kernel
theorem dX9_discItem_56 : decode cX9_discItem 56 = .ok (.aload_n 0, 1) := by decide +kernel
theorem dX9_discItem_57 : decode cX9_discItem 57 = .ok (.getfield 88, 3) := by decide +kernel
theorem dX9_discItem_60 : decode cX9_discItem 60 = .ok (.ifCond .eq 4, 3) := by decide +kernel
theorem dX9_discItem_63 : decode cX9_discItem 63 = .ok (.return_, 1) := by decide +kernel
theorem dX9_discItem_64 : decode cX9_discItem 64 = .ok (.aload_n 0, 1) := by decide +kernel
theorem dX9_discItem_65 : decode cX9_discItem 65 = .ok (.iconst 0, 1) := by decide +kernel
theorem dX9_discItem_66 : decode cX9_discItem 66 = .ok (.aload_n 0, 1) := by decide +kernel
theorem dX9_discItem_67 : decode cX9_discItem 67 = .ok (.getfield 23, 3) := by decide +kernel
theorem dX9_discItem_70 : decode cX9_discItem 70 = .ok (.iload_n 1, 1) := by decide +kernel
theorem dX9_discItem_71 : decode cX9_discItem 71 = .ok (.iaload, 1) := by decide +kernel
theorem dX9_discItem_72 : decode cX9_discItem 72 = .ok (.iconst 1, 1) := by decide +kernel
theorem dX9_discItem_73 : decode cX9_discItem 73 = .ok (.isub, 1) := by decide +kernel
theorem dX9_discItem_74 : decode cX9_discItem 74 = .ok (.iconst (-1), 1) := by decide +kernel
theorem dX9_discItem_75 : decode cX9_discItem 75 = .ok (.invokevirtual 111, 3) := by decide +kernel
theorem dX9_discItem_78 : decode cX9_discItem 78 = .ok (.istore 4, 2) := by decide +kernel
theorem dX9_discItem_80 : decode cX9_discItem 80 = .ok (.aload_n 0, 1) := by decide +kernel
theorem dX9_discItem_81 : decode cX9_discItem 81 = .ok (.bipush 59, 2) := by decide +kernel
theorem dX9_discItem_83 : decode cX9_discItem 83 = .ok (.invokevirtual 115, 3) := by decide +kernel
theorem dX9_discItem_86 : decode cX9_discItem 86 = .ok (.aload_n 0, 1) := by decide +kernel
theorem dX9_discItem_87 : decode cX9_discItem 87 = .ok (.getfield 88, 3) := by decide +kernel
theorem dX9_discItem_90 : decode cX9_discItem 90 = .ok (.ifCond .ne 53, 3) := by decide +kernel
theorem dX9_discItem_93 : decode cX9_discItem 93 = .ok (.aload_n 0, 1) := by decide +kernel
theorem dX9_discItem_94 : decode cX9_discItem 94 = .ok (.getfield 23, 3) := by decide +kernel
theorem dX9_discItem_97 : decode cX9_discItem 97 = .ok (.iload_n 1, 1) := by decide +kernel
theorem dX9_discItem_98 : decode cX9_discItem 98 = .ok (.iconst 4, 1) := by decide +kernel
theorem dX9_discItem_99 : decode cX9_discItem 99 = .ok (.iadd, 1) := by decide +kernel
theorem dX9_discItem_100 : decode cX9_discItem 100 = .ok (.aload_n 0, 1) := by decide +kernel
theorem dX9_discItem_101 : decode cX9_discItem 101 = .ok (.getfield 23, 3) := by decide +kernel
theorem dX9_discItem_104 : decode cX9_discItem 104 = .ok (.iload_n 1, 1) := by decide +kernel
theorem dX9_discItem_105 : decode cX9_discItem 105 = .ok (.iconst 2, 1) := by decide +kernel
theorem dX9_discItem_106 : decode cX9_discItem 106 = .ok (.iadd, 1) := by decide +kernel
theorem dX9_discItem_107 : decode cX9_discItem 107 = .ok (.iaload, 1) := by decide +kernel
theorem dX9_discItem_108 : decode cX9_discItem 108 = .ok (.iadd, 1) := by decide +kernel
theorem dX9_discItem_109 : decode cX9_discItem 109 = .ok (.iload_n 3, 1) := by decide +kernel
theorem dX9_discItem_110 : decode cX9_discItem 110 = .ok (.iastore, 1) := by decide +kernel
theorem dX9_discItem_111 : decode cX9_discItem 111 = .ok (.aload_n 0, 1) := by decide +kernel
theorem dX9_discItem_112 : decode cX9_discItem 112 = .ok (.getfield 23, 3) := by decide +kernel
theorem dX9_discItem_115 : decode cX9_discItem 115 = .ok (.iload_n 1, 1) := by decide +kernel
theorem dX9_discItem_116 : decode cX9_discItem 116 = .ok (.bipush 10, 2) := by decide +kernel
theorem dX9_discItem_118 : decode cX9_discItem 118 = .ok (.iadd, 1) := by decide +kernel
theorem dX9_discItem_119 : decode cX9_discItem 119 = .ok (.aload_n 0, 1) := by decide +kernel
theorem dX9_discItem_120 : decode cX9_discItem 120 = .ok (.getfield 23, 3) := by decide +kernel
theorem dX9_discItem_123 : decode cX9_discItem 123 = .ok (.iload_n 1, 1) := by decide +kernel
theorem dX9_discItem_124 : decode cX9_discItem 124 = .ok (.iconst 2, 1) := by decide +kernel
theorem dX9_discItem_125 : decode cX9_discItem 125 = .ok (.iadd, 1) := by decide +kernel
theorem dX9_discItem_126 : decode cX9_discItem 126 = .ok (.iaload, 1) := by decide +kernel
theorem dX9_discItem_127 : decode cX9_discItem 127 = .ok (.iadd, 1) := by decide +kernel
theorem dX9_discItem_128 : decode cX9_discItem 128 = .ok (.iload 4, 2) := by decide +kernel
theorem dX9_discItem_130 : decode cX9_discItem 130 = .ok (.iastore, 1) := by decide +kernel
theorem dX9_discItem_131 : decode cX9_discItem 131 = .ok (.aload_n 0, 1) := by decide +kernel
theorem dX9_discItem_132 : decode cX9_discItem 132 = .ok (.getfield 23, 3) := by decide +kernel
theorem dX9_discItem_135 : decode cX9_discItem 135 = .ok (.iload_n 1, 1) := by decide +kernel
theorem dX9_discItem_136 : decode cX9_discItem 136 = .ok (.iconst 2, 1) := by decide +kernel
theorem dX9_discItem_137 : decode cX9_discItem 137 = .ok (.iadd, 1) := by decide +kernel
theorem dX9_discItem_138 : decode cX9_discItem 138 = .ok (.dup2, 1) := by decide +kernel
theorem dX9_discItem_139 : decode cX9_discItem 139 = .ok (.iaload, 1) := by decide +kernel
theorem dX9_discItem_140 : decode cX9_discItem 140 = .ok (.iconst 1, 1) := by decide +kernel
theorem dX9_discItem_141 : decode cX9_discItem 141 = .ok (.iadd, 1) := by decide +kernel
theorem dX9_discItem_142 : decode cX9_discItem 142 = .ok (.iastore, 1) := by decide +kernel
theorem dX9_discItem_143 : decode cX9_discItem 143 = .ok (.return_, 1) := by decide +kernel
def m_X9_discItem (N : Nat) (σ : Hp) (t0 : Nat) (p1 : Int32) : Option (Hp) :=
  (rv N σ t0 9).bind fun _ =>
  (gI N σ t0 9 7).bind fun x1 =>
  (gI N σ t0 9 7).bind fun x2 =>
  (m_X9_byteAt N σ t0 x2).bind fun r3 =>
  (m_X9_sortOf r3).bind fun r4 =>
  (gI N σ t0 9 7).bind fun x5 =>
  (pV N σ t0 9 7 (.int (x5 + 1))).bind fun σ6 =>
  ((if r4 = 0 then
   (m_X9_fails N σ6 t0 x1 1).bind fun r37 =>
  some r37
  else
   some σ6) : Option (Hp)).bind fun z7 =>
  (gR N z7 t0 9 10).bind fun x8 =>
  (aI 0 N z7 x8 (p1 + 2)).bind fun x9 =>
  ((if x9 = 6 then
   (m_X9_fails N z7 t0 x1 3).bind fun r33 =>
  some r33
  else
   some z7) : Option (Hp)).bind fun z10 =>
  (gI N z10 t0 9 9).bind fun x11 =>
  if x11 = 0 then
   (gR N z10 t0 9 10).bind fun x13 =>
  (aI 0 N z10 x13 p1).bind fun x14 =>
  (m_X9_number N z10 t0 0 (x14 - 1) (-1)).bind fun r15 =>
  (m_X9_sign N r15.2 t0 59).bind fun r16 =>
  (gI N r16 t0 9 9).bind fun x17 =>
  if x17 = 0 then
   (gR N r16 t0 9 10).bind fun x19 =>
  (gR N r16 t0 9 10).bind fun x20 =>
  (aI 0 N r16 x20 (p1 + 2)).bind fun x21 =>
  (sI 0 N r16 x19 ((p1 + 4) + x21) r4).bind fun σ22 =>
  (gR N σ22 t0 9 10).bind fun x23 =>
  (gR N σ22 t0 9 10).bind fun x24 =>
  (aI 0 N σ22 x24 (p1 + 2)).bind fun x25 =>
  (sI 0 N σ22 x23 ((p1 + 10) + x25) r15.1).bind fun σ26 =>
  (gR N σ26 t0 9 10).bind fun x27 =>
  (aI 0 N σ26 x27 (p1 + 2)).bind fun x28 =>
  (sI 0 N σ26 x27 (p1 + 2) (x28 + 1)).bind fun σ29 =>
  some σ29
  else
   some r16
  else
   some z10
set_option maxHeartbeats 4000000 in
set_option maxRecDepth 100000 in
theorem ct_X9_discItem {l : Launch} {D : va_G} {cy : Nat → Nat} {N : Nat} {σ : Hp} {t0 : Nat} {p1 : Int32} {r : Hp} (h : m_X9_discItem N σ t0 p1 = some r) : Ct l D cy yX9_discItem cX9_discItem 5 none 2 [.ref t0, .int p1] N σ (fun v s' => v = none ∧ s' = r) := by
  refine Ct.intro [some (.ref t0), some (.int p1), none, none, none] (by decide) rfl (Nat.le_of_ble_eq_true rfl) ?_
  intro κ ω e1 e2 e3 e4 C Z E
  subst e1; subst e2; subst e3; subst e4
  have C : Cx κ 5 2 cX9_discItem RX9 "discItem" := C
  have hE : ∀ x : Hp, r = x → ((none : Option Value) = none ∧ x = r) := fun x hx => by subst hx; exact ⟨rfl, rfl⟩
  unfold m_X9_discItem at h
  obtain ⟨_, _, h⟩ := ob h
  refine x_aload_n C (i := 0) dX9_discItem_0 rfl rfl ?_
  obtain ⟨x1, ex1, h⟩ := ob h
  refine x_getI C fl_X9_94 dX9_discItem_1 ex1 ?_
  refine x_istore_n C (i := 2) (lo' := [some (.ref t0), some (.int p1), some (.int x1), none, none]) dX9_discItem_4 rfl (by decide) rfl rfl ?_
  refine x_aload_n C (i := 0) dX9_discItem_5 rfl rfl ?_
  refine x_aload_n C (i := 0) dX9_discItem_6 rfl rfl ?_
  obtain ⟨x2, ex2, h⟩ := ob h
  refine x_getI C fl_X9_94 dX9_discItem_7 ex2 ?_
  obtain ⟨r3, er3, h⟩ := ob h
  refine x_callVr C Z mv_X9_byteAt lk_X9_97 (rv_h er3) (ct_X9_byteAt er3) (by decide) rfl rfl (Nat.le_of_ble_eq_true rfl) dX9_discItem_10 ?_
  obtain ⟨r4, er4, h⟩ := ob h
  refine x_callSr C Z ms_X9_sortOf lk_X9_108 (ct_X9_sortOf (N := ω.1) (σ := σ) er4) (by decide) rfl rfl (Nat.le_of_ble_eq_true rfl) dX9_discItem_13 ?_
  refine x_istore_n C (i := 3) (lo' := [some (.ref t0), some (.int p1), some (.int x1), some (.int r4), none]) dX9_discItem_16 rfl (by decide) rfl rfl ?_
  refine x_aload_n C (i := 0) dX9_discItem_17 rfl rfl ?_
  refine x_dup C dX9_discItem_18 rfl ?_
  obtain ⟨x5, ex5, h⟩ := ob h
  refine x_getI C fl_X9_94 dX9_discItem_19 ex5 ?_
  refine x_iconst C (v := 1) dX9_discItem_22 (by decide) ?_
  refine x_iadd C dX9_discItem_23 ?_
  obtain ⟨σ6, eσ6, h⟩ := ob h
  refine x_put C pl_X9_94 dX9_discItem_24 (fun _ => ⟨rfl, rfl⟩) eσ6 ?_
  refine x_iload_n C (i := 3) dX9_discItem_27 rfl rfl ?_
  obtain ⟨z7, hz7, h⟩ := ob h
  have hJ34 : X κ 5 ω 37 [some (.ref t0), some (.int p1), some (.int x1), some (.int r4), none] [] z7 := by
    refine x_aload_n C (i := 0) dX9_discItem_37 rfl rfl ?_
    obtain ⟨x8, ex8, h⟩ := ob h
    refine x_getR C fl_X9_23 dX9_discItem_38 ex8 ?_
    refine x_iload_n C (i := 1) dX9_discItem_41 rfl rfl ?_
    refine x_iconst C (v := 2) dX9_discItem_42 (by decide) ?_
    refine x_iadd C dX9_discItem_43 ?_
    obtain ⟨x9, ex9, h⟩ := ob h
    refine x_iald C dX9_discItem_44 ex9 ?_
    refine x_bipush C (v := 6) dX9_discItem_45 (by decide) ?_
    obtain ⟨z10, hz10, h⟩ := ob h
    have hJ30 : X κ 5 ω 56 [some (.ref t0), some (.int p1), none, some (.int r4), none] [] z10 := by
      refine x_aload_n C (i := 0) dX9_discItem_56 rfl rfl ?_
      obtain ⟨x11, ex11, h⟩ := ob h
      refine x_getI C fl_X9_88 dX9_discItem_57 ex11 ?_
      refine x_if_eq C (tgt := 64) dX9_discItem_60 (by decide) (fun c12 => ?_) (fun c12 => ?_)
      · have h := ifP h c12
        refine x_aload_n C (i := 0) dX9_discItem_64 rfl rfl ?_
        refine x_iconst C (v := 0) dX9_discItem_65 (by decide) ?_
        refine x_aload_n C (i := 0) dX9_discItem_66 rfl rfl ?_
        obtain ⟨x13, ex13, h⟩ := ob h
        refine x_getR C fl_X9_23 dX9_discItem_67 ex13 ?_
        refine x_iload_n C (i := 1) dX9_discItem_70 rfl rfl ?_
        obtain ⟨x14, ex14, h⟩ := ob h
        refine x_iald C dX9_discItem_71 ex14 ?_
        refine x_iconst C (v := 1) dX9_discItem_72 (by decide) ?_
        refine x_isub C dX9_discItem_73 ?_
        refine x_iconst C (v := (-1)) dX9_discItem_74 (by decide) ?_
        obtain ⟨r15, er15, h⟩ := ob h
        refine x_callVr C Z mv_X9_number lk_X9_111 (rv_h er15) (ct_X9_number er15) (by decide) rfl rfl (Nat.le_of_ble_eq_true rfl) dX9_discItem_75 ?_
        refine x_istore C (i := 4) (lo' := [some (.ref t0), some (.int p1), none, some (.int r4), some (.int r15.1)]) dX9_discItem_78 (by decide) rfl rfl ?_
        refine x_aload_n C (i := 0) dX9_discItem_80 rfl rfl ?_
        refine x_bipush C (v := 59) dX9_discItem_81 (by decide) ?_
        obtain ⟨r16, er16, h⟩ := ob h
        refine x_callVn C Z mv_X9_sign lk_X9_115 (rv_h er16) (ct_X9_sign er16) (by decide) rfl rfl (Nat.le_of_ble_eq_true rfl) dX9_discItem_83 ?_
        refine x_aload_n C (i := 0) dX9_discItem_86 rfl rfl ?_
        obtain ⟨x17, ex17, h⟩ := ob h
        refine x_getI C fl_X9_88 dX9_discItem_87 ex17 ?_
        refine x_if_ne C (tgt := 143) dX9_discItem_90 (by decide) (fun c18 => ?_) (fun c18 => ?_)
        · have h := ifN h c18
          exact x_vret C E dX9_discItem_143 (hE r16 (Option.some.inj h).symm)
        · have h := ifP h c18
          refine x_aload_n C (i := 0) dX9_discItem_93 rfl rfl ?_
          obtain ⟨x19, ex19, h⟩ := ob h
          refine x_getR C fl_X9_23 dX9_discItem_94 ex19 ?_
          refine x_iload_n C (i := 1) dX9_discItem_97 rfl rfl ?_
          refine x_iconst C (v := 4) dX9_discItem_98 (by decide) ?_
          refine x_iadd C dX9_discItem_99 ?_
          refine x_aload_n C (i := 0) dX9_discItem_100 rfl rfl ?_
          obtain ⟨x20, ex20, h⟩ := ob h
          refine x_getR C fl_X9_23 dX9_discItem_101 ex20 ?_
          refine x_iload_n C (i := 1) dX9_discItem_104 rfl rfl ?_
          refine x_iconst C (v := 2) dX9_discItem_105 (by decide) ?_
          refine x_iadd C dX9_discItem_106 ?_
          obtain ⟨x21, ex21, h⟩ := ob h
          refine x_iald C dX9_discItem_107 ex21 ?_
          refine x_iadd C dX9_discItem_108 ?_
          refine x_iload_n C (i := 3) dX9_discItem_109 rfl rfl ?_
          obtain ⟨σ22, eσ22, h⟩ := ob h
          refine x_iast C dX9_discItem_110 eσ22 ?_
          refine x_aload_n C (i := 0) dX9_discItem_111 rfl rfl ?_
          obtain ⟨x23, ex23, h⟩ := ob h
          refine x_getR C fl_X9_23 dX9_discItem_112 ex23 ?_
          refine x_iload_n C (i := 1) dX9_discItem_115 rfl rfl ?_
          refine x_bipush C (v := 10) dX9_discItem_116 (by decide) ?_
          refine x_iadd C dX9_discItem_118 ?_
          refine x_aload_n C (i := 0) dX9_discItem_119 rfl rfl ?_
          obtain ⟨x24, ex24, h⟩ := ob h
          refine x_getR C fl_X9_23 dX9_discItem_120 ex24 ?_
          refine x_iload_n C (i := 1) dX9_discItem_123 rfl rfl ?_
          refine x_iconst C (v := 2) dX9_discItem_124 (by decide) ?_
          refine x_iadd C dX9_discItem_125 ?_
          obtain ⟨x25, ex25, h⟩ := ob h
          refine x_iald C dX9_discItem_126 ex25 ?_
          refine x_iadd C dX9_discItem_127 ?_
          refine x_iload C (i := 4) dX9_discItem_128 rfl ?_
          obtain ⟨σ26, eσ26, h⟩ := ob h
          refine x_iast C dX9_discItem_130 eσ26 ?_
          refine x_aload_n C (i := 0) dX9_discItem_131 rfl rfl ?_
          obtain ⟨x27, ex27, h⟩ := ob h
          refine x_getR C fl_X9_23 dX9_discItem_132 ex27 ?_
          refine x_iload_n C (i := 1) dX9_discItem_135 rfl rfl ?_
          refine x_iconst C (v := 2) dX9_discItem_136 (by decide) ?_
          refine x_iadd C dX9_discItem_137 ?_
          refine x_dup2 C dX9_discItem_138 rfl rfl ?_
          obtain ⟨x28, ex28, h⟩ := ob h
          refine x_iald C dX9_discItem_139 ex28 ?_
          refine x_iconst C (v := 1) dX9_discItem_140 (by decide) ?_
          refine x_iadd C dX9_discItem_141 ?_
          obtain ⟨σ29, eσ29, h⟩ := ob h
          refine x_iast C dX9_discItem_142 eσ29 ?_
          exact x_vret C E dX9_discItem_143 (hE σ29 (Option.some.inj h).symm)
      · have h := ifN h c12
        exact x_vret C E dX9_discItem_63 (hE z10 (Option.some.inj h).symm)
    clear h
    have h := hz10
    refine x_icmp_ne C (tgt := 56) dX9_discItem_47 (by decide) (fun c32 => ?_) (fun c32 => ?_)
    · have h := ifN h c32
      refine x_wk [true, true, false, true, false] (lo' := [some (.ref t0), some (.int p1), none, some (.int r4), none]) rfl ?_
      obtain rfl := Option.some.inj h
      exact hJ30
    · have h := ifP h c32
      refine x_aload_n C (i := 0) dX9_discItem_50 rfl rfl ?_
      refine x_iload_n C (i := 2) dX9_discItem_51 rfl rfl ?_
      refine x_iconst C (v := 3) dX9_discItem_52 (by decide) ?_
      obtain ⟨r33, er33, h⟩ := ob h
      refine x_callVn C Z mv_X9_fails lk_X9_100 (rv_h er33) (ct_X9_fails er33) (by decide) rfl rfl (Nat.le_of_ble_eq_true rfl) dX9_discItem_53 ?_
      refine x_wk [true, true, false, true, false] (lo' := [some (.ref t0), some (.int p1), none, some (.int r4), none]) rfl ?_
      obtain rfl := Option.some.inj h
      exact hJ30
  clear h
  have h := hz7
  refine x_if_ne C (tgt := 37) dX9_discItem_28 (by decide) (fun c36 => ?_) (fun c36 => ?_)
  · have h := ifN h c36
    refine x_wk [true, true, true, true, false] (lo' := [some (.ref t0), some (.int p1), some (.int x1), some (.int r4), none]) rfl ?_
    obtain rfl := Option.some.inj h
    exact hJ34
  · have h := ifP h c36
    refine x_aload_n C (i := 0) dX9_discItem_31 rfl rfl ?_
    refine x_iload_n C (i := 2) dX9_discItem_32 rfl rfl ?_
    refine x_iconst C (v := 1) dX9_discItem_33 (by decide) ?_
    obtain ⟨r37, er37, h⟩ := ob h
    refine x_callVn C Z mv_X9_fails lk_X9_100 (rv_h er37) (ct_X9_fails er37) (by decide) rfl rfl (Nat.le_of_ble_eq_true rfl) dX9_discItem_34 ?_
    refine x_wk [true, true, true, true, false] (lo' := [some (.ref t0), some (.int p1), some (.int x1), some (.int r4), none]) rfl ?_
    obtain rfl := Option.some.inj h
    exact hJ34
theorem dX9_copies_0 : decode cX9_copies 0 = .ok (.iconst 0, 1) := by decide +kernel
theorem dX9_copies_1 : decode cX9_copies 1 = .ok (.istore_n 3, 1) := by decide +kernel
theorem dX9_copies_2 : decode cX9_copies 2 = .ok (.iload_n 3, 1) := by decide +kernel
theorem dX9_copies_3 : decode cX9_copies 3 = .ok (.bipush 16, 2) := by decide +kernel
theorem dX9_copies_5 : decode cX9_copies 5 = .ok (.if_icmp .ge 25, 3) := by decide +kernel
theorem dX9_copies_8 : decode cX9_copies 8 = .ok (.aload_n 0, 1) := by decide +kernel
theorem dX9_copies_9 : decode cX9_copies 9 = .ok (.getfield 23, 3) := by decide +kernel
theorem dX9_copies_12 : decode cX9_copies 12 = .ok (.iload_n 2, 1) := by decide +kernel
theorem dX9_copies_13 : decode cX9_copies 13 = .ok (.iload_n 3, 1) := by decide +kernel
theorem dX9_copies_14 : decode cX9_copies 14 = .ok (.iadd, 1) := by decide +kernel
theorem dX9_copies_15 : decode cX9_copies 15 = .ok (.aload_n 0, 1) := by decide +kernel
theorem dX9_copies_16 : decode cX9_copies 16 = .ok (.getfield 23, 3) := by decide +kernel
theorem dX9_copies_19 : decode cX9_copies 19 = .ok (.iload_n 1, 1) := by decide +kernel
theorem dX9_copies_20 : decode cX9_copies 20 = .ok (.iload_n 3, 1) := by decide +kernel
theorem dX9_copies_21 : decode cX9_copies 21 = .ok (.iadd, 1) := by decide +kernel
theorem dX9_copies_22 : decode cX9_copies 22 = .ok (.iaload, 1) := by decide +kernel
theorem dX9_copies_23 : decode cX9_copies 23 = .ok (.iastore, 1) := by decide +kernel
theorem dX9_copies_24 : decode cX9_copies 24 = .ok (.iinc 3 1, 3) := by decide +kernel
theorem dX9_copies_27 : decode cX9_copies 27 = .ok (.goto (-25), 3) := by decide +kernel
theorem dX9_copies_30 : decode cX9_copies 30 = .ok (.return_, 1) := by decide +kernel
def L_X9_copies_2 (N : Nat) (v0 : Nat) (v1 : Int32) (v2 : Int32) : Nat → Hp → Int32 → Option (Hp)
  | 0, _, _ => none
  | n + 1, σ, v3 =>
  if 16 ≤ v3 then
   some σ
  else
   (gR N σ v0 9 10).bind fun x2 =>
  (gR N σ v0 9 10).bind fun x3 =>
  (aI 0 N σ x3 (v1 + v3)).bind fun x4 =>
  (sI 0 N σ x2 (v2 + v3) x4).bind fun σ5 =>
  L_X9_copies_2 N v0 v1 v2 n σ5 (v3 + 1)
def m_X9_copies (N : Nat) (σ : Hp) (t0 : Nat) (p1 : Int32) (p2 : Int32) : Option (Hp) :=
  (rv N σ t0 9).bind fun _ =>
  (L_X9_copies_2 N t0 p1 p2 fu σ 0).bind fun z6 =>
  some z6
set_option maxHeartbeats 4000000 in
set_option maxRecDepth 100000 in
theorem lp_X9_copies_2 {κ : Kx} {ω : Om} (C : Cx κ 4 0 cX9_copies RX9 "copies") (Z : Zx κ ω) (v0 : Nat) (v1 : Int32) (v2 : Int32) {r : Hp} (hk : X κ 4 ω 30 [none, none, none, none] [] r) : ∀ (n : Nat) (σ : Hp) (v3 : Int32), L_X9_copies_2 ω.1 v0 v1 v2 n σ v3 = some r → X κ 4 ω 2 [some (.ref v0), some (.int v1), some (.int v2), some (.int v3)] [] σ := by
  intro n
  induction n with
  | zero => intro σ v3 h; cases h
  | succ n ih =>
    intro σ v3 h
    rw [L_X9_copies_2.eq_2] at h
    refine x_iload_n C (i := 3) dX9_copies_2 rfl rfl ?_
    refine x_bipush C (v := 16) dX9_copies_3 (by decide) ?_
    refine x_icmp_ge C (tgt := 30) dX9_copies_5 (by decide) (fun c1 => ?_) (fun c1 => ?_)
    · have h := ifP h c1
      refine x_wk [false, false, false, false] (lo' := [none, none, none, none]) rfl ?_
      obtain rfl := Option.some.inj h
      exact hk
    · have h := ifN h c1
      refine x_aload_n C (i := 0) dX9_copies_8 rfl rfl ?_
      obtain ⟨x2, ex2, h⟩ := ob h
      refine x_getR C fl_X9_23 dX9_copies_9 ex2 ?_
      refine x_iload_n C (i := 2) dX9_copies_12 rfl rfl ?_
      refine x_iload_n C (i := 3) dX9_copies_13 rfl rfl ?_
      refine x_iadd C dX9_copies_14 ?_
      refine x_aload_n C (i := 0) dX9_copies_15 rfl rfl ?_
      obtain ⟨x3, ex3, h⟩ := ob h
      refine x_getR C fl_X9_23 dX9_copies_16 ex3 ?_
      refine x_iload_n C (i := 1) dX9_copies_19 rfl rfl ?_
      refine x_iload_n C (i := 3) dX9_copies_20 rfl rfl ?_
      refine x_iadd C dX9_copies_21 ?_
      obtain ⟨x4, ex4, h⟩ := ob h
      refine x_iald C dX9_copies_22 ex4 ?_
      obtain ⟨σ5, eσ5, h⟩ := ob h
      refine x_iast C dX9_copies_23 eσ5 ?_
      refine x_iinc C (i := 3) (y := v3 + 1) (lo' := [some (.ref v0), some (.int v1), some (.int v2), some (.int (v3 + 1))]) dX9_copies_24 rfl rfl (by decide) rfl rfl ?_
      refine x_goto C (tgt := 2) dX9_copies_27 (by decide) ?_
      refine x_wk [true, true, true, true] (lo' := [some (.ref v0), some (.int v1), some (.int v2), some (.int (v3 + 1))]) rfl ?_
      exact ih σ5 (v3 + 1) h
set_option maxHeartbeats 4000000 in
set_option maxRecDepth 100000 in
theorem ct_X9_copies {l : Launch} {D : va_G} {cy : Nat → Nat} {N : Nat} {σ : Hp} {t0 : Nat} {p1 : Int32} {p2 : Int32} {r : Hp} (h : m_X9_copies N σ t0 p1 p2 = some r) : Ct l D cy yX9_copies cX9_copies 4 none 0 [.ref t0, .int p1, .int p2] N σ (fun v s' => v = none ∧ s' = r) := by
  refine Ct.intro [some (.ref t0), some (.int p1), some (.int p2), none] (by decide) rfl (Nat.le_of_ble_eq_true rfl) ?_
  intro κ ω e1 e2 e3 e4 C Z E
  subst e1; subst e2; subst e3; subst e4
  have C : Cx κ 4 0 cX9_copies RX9 "copies" := C
  have hE : ∀ x : Hp, r = x → ((none : Option Value) = none ∧ x = r) := fun x hx => by subst hx; exact ⟨rfl, rfl⟩
  unfold m_X9_copies at h
  obtain ⟨_, _, h⟩ := ob h
  refine x_iconst C (v := 0) dX9_copies_0 (by decide) ?_
  refine x_istore_n C (i := 3) (lo' := [some (.ref t0), some (.int p1), some (.int p2), some (.int 0)]) dX9_copies_1 rfl (by decide) rfl rfl ?_
  obtain ⟨z6, ez6, h⟩ := ob h
  refine x_wk [true, true, true, true] (lo' := [some (.ref t0), some (.int p1), some (.int p2), some (.int 0)]) rfl ?_
  refine lp_X9_copies_2 C Z t0 p1 p2 ?_ _ σ 0 ez6
  exact x_vret C E dX9_copies_30 (hE z6 (Option.some.inj h).symm)
theorem dX9_board_0 : decode cX9_board 0 = .ok (.sipush 432, 3) := by decide +kernel
theorem dX9_board_3 : decode cX9_board 3 = .ok (.istore_n 1, 1) := by decide +kernel
theorem dX9_board_4 : decode cX9_board 4 = .ok (.iconst 0, 1) := by decide +kernel
theorem dX9_board_5 : decode cX9_board 5 = .ok (.istore_n 2, 1) := by decide +kernel
theorem dX9_board_6 : decode cX9_board 6 = .ok (.iload_n 2, 1) := by decide +kernel
theorem dX9_board_7 : decode cX9_board 7 = .ok (.bipush 16, 2) := by decide +kernel
theorem dX9_board_9 : decode cX9_board 9 = .ok (.if_icmp .ge 18, 3) := by decide +kernel
theorem dX9_board_12 : decode cX9_board 12 = .ok (.aload_n 0, 1) := by decide +kernel
theorem dX9_board_13 : decode cX9_board 13 = .ok (.getfield 23, 3) := by decide +kernel
theorem dX9_board_16 : decode cX9_board 16 = .ok (.iload_n 1, 1) := by decide +kernel
theorem dX9_board_17 : decode cX9_board 17 = .ok (.iload_n 2, 1) := by decide +kernel
theorem dX9_board_18 : decode cX9_board 18 = .ok (.iadd, 1) := by decide +kernel
theorem dX9_board_19 : decode cX9_board 19 = .ok (.iconst 0, 1) := by decide +kernel
theorem dX9_board_20 : decode cX9_board 20 = .ok (.iastore, 1) := by decide +kernel
theorem dX9_board_21 : decode cX9_board 21 = .ok (.iinc 2 1, 3) := by decide +kernel
theorem dX9_board_24 : decode cX9_board 24 = .ok (.goto (-18), 3) := by decide +kernel
theorem dX9_board_27 : decode cX9_board 27 = .ok (.aload_n 0, 1) := by decide +kernel
theorem dX9_board_28 : decode cX9_board 28 = .ok (.iconst 0, 1) := by decide +kernel
theorem dX9_board_29 : decode cX9_board 29 = .ok (.putfield 94, 3) := by decide +kernel
theorem dX9_board_32 : decode cX9_board 32 = .ok (.aload_n 0, 1) := by decide +kernel
theorem dX9_board_33 : decode cX9_board 33 = .ok (.iconst 0, 1) := by decide +kernel
theorem dX9_board_34 : decode cX9_board 34 = .ok (.putfield 88, 3) := by decide +kernel
theorem dX9_board_37 : decode cX9_board 37 = .ok (.aload_n 0, 1) := by decide +kernel
theorem dX9_board_38 : decode cX9_board 38 = .ok (.bipush 116, 2) := by decide +kernel
theorem dX9_board_40 : decode cX9_board 40 = .ok (.invokevirtual 115, 3) := by decide +kernel
theorem dX9_board_43 : decode cX9_board 43 = .ok (.aload_n 0, 1) := by decide +kernel
theorem dX9_board_44 : decode cX9_board 44 = .ok (.getfield 23, 3) := by decide +kernel
theorem dX9_board_47 : decode cX9_board 47 = .ok (.iload_n 1, 1) := by decide +kernel
theorem dX9_board_48 : decode cX9_board 48 = .ok (.aload_n 0, 1) := by decide +kernel
theorem dX9_board_49 : decode cX9_board 49 = .ok (.getfield 88, 3) := by decide +kernel
theorem dX9_board_52 : decode cX9_board 52 = .ok (.ifCond .ne 13, 3) := by decide +kernel
theorem dX9_board_55 : decode cX9_board 55 = .ok (.aload_n 0, 1) := by decide +kernel
theorem dX9_board_56 : decode cX9_board 56 = .ok (.iconst 3, 1) := by decide +kernel
theorem dX9_board_57 : decode cX9_board 57 = .ok (.iconst 4, 1) := by decide +kernel
theorem dX9_board_58 : decode cX9_board 58 = .ok (.iconst (-1), 1) := by decide +kernel
theorem dX9_board_59 : decode cX9_board 59 = .ok (.invokevirtual 111, 3) := by decide +kernel
theorem dX9_board_62 : decode cX9_board 62 = .ok (.goto 4, 3) := by decide +kernel
theorem dX9_board_65 : decode cX9_board 65 = .ok (.iconst 0, 1) := by decide +kernel
theorem dX9_board_66 : decode cX9_board 66 = .ok (.iastore, 1) := by decide +kernel
theorem dX9_board_67 : decode cX9_board 67 = .ok (.aload_n 0, 1) := by decide +kernel
theorem dX9_board_68 : decode cX9_board 68 = .ok (.getfield 88, 3) := by decide +kernel
theorem dX9_board_71 : decode cX9_board 71 = .ok (.ifCond .ne 9, 3) := by decide +kernel
theorem dX9_board_74 : decode cX9_board 74 = .ok (.aload_n 0, 1) := by decide +kernel
theorem dX9_board_75 : decode cX9_board 75 = .ok (.bipush 44, 2) := by decide +kernel
theorem dX9_board_77 : decode cX9_board 77 = .ok (.invokevirtual 115, 3) := by decide +kernel
theorem dX9_board_80 : decode cX9_board 80 = .ok (.aload_n 0, 1) := by decide +kernel
theorem dX9_board_81 : decode cX9_board 81 = .ok (.getfield 23, 3) := by decide +kernel
theorem dX9_board_84 : decode cX9_board 84 = .ok (.iload_n 1, 1) := by decide +kernel
theorem dX9_board_85 : decode cX9_board 85 = .ok (.iconst 1, 1) := by decide +kernel
theorem dX9_board_86 : decode cX9_board 86 = .ok (.iadd, 1) := by decide +kernel
theorem dX9_board_87 : decode cX9_board 87 = .ok (.aload_n 0, 1) := by decide +kernel
theorem dX9_board_88 : decode cX9_board 88 = .ok (.getfield 88, 3) := by decide +kernel
theorem dX9_board_91 : decode cX9_board 91 = .ok (.ifCond .ne 14, 3) := by decide +kernel
theorem dX9_board_94 : decode cX9_board 94 = .ok (.aload_n 0, 1) := by decide +kernel
theorem dX9_board_95 : decode cX9_board 95 = .ok (.iconst 1, 1) := by decide +kernel
theorem dX9_board_96 : decode cX9_board 96 = .ok (.bipush 6, 2) := by decide +kernel
theorem dX9_board_98 : decode cX9_board 98 = .ok (.iconst (-1), 1) := by decide +kernel
theorem dX9_board_99 : decode cX9_board 99 = .ok (.invokevirtual 111, 3) := by decide +kernel
theorem dX9_board_102 : decode cX9_board 102 = .ok (.goto 4, 3) := by decide +kernel
theorem dX9_board_105 : decode cX9_board 105 = .ok (.iconst 0, 1) := by decide +kernel
theorem dX9_board_106 : decode cX9_board 106 = .ok (.iastore, 1) := by decide +kernel
theorem dX9_board_107 : decode cX9_board 107 = .ok (.aload_n 0, 1) := by decide +kernel
theorem dX9_board_108 : decode cX9_board 108 = .ok (.getfield 88, 3) := by decide +kernel
theorem dX9_board_111 : decode cX9_board 111 = .ok (.ifCond .ne 9, 3) := by decide +kernel
theorem dX9_board_114 : decode cX9_board 114 = .ok (.aload_n 0, 1) := by decide +kernel
theorem dX9_board_115 : decode cX9_board 115 = .ok (.bipush 59, 2) := by decide +kernel
theorem dX9_board_117 : decode cX9_board 117 = .ok (.invokevirtual 115, 3) := by decide +kernel
theorem dX9_board_120 : decode cX9_board 120 = .ok (.aload_n 0, 1) := by decide +kernel
theorem dX9_board_121 : decode cX9_board 121 = .ok (.getfield 88, 3) := by decide +kernel
theorem dX9_board_124 : decode cX9_board 124 = .ok (.ifCond .ne 33, 3) := by decide +kernel
theorem dX9_board_127 : decode cX9_board 127 = .ok (.aload_n 0, 1) := by decide +kernel
theorem dX9_board_128 : decode cX9_board 128 = .ok (.getfield 94, 3) := by decide +kernel
theorem dX9_board_131 : decode cX9_board 131 = .ok (.aload_n 0, 1) := by decide +kernel
theorem dX9_board_132 : decode cX9_board 132 = .ok (.getfield 84, 3) := by decide +kernel
theorem dX9_board_135 : decode cX9_board 135 = .ok (.if_icmp .lt 14, 3) := by decide +kernel
theorem dX9_board_138 : decode cX9_board 138 = .ok (.aload_n 0, 1) := by decide +kernel
theorem dX9_board_139 : decode cX9_board 139 = .ok (.getfield 23, 3) := by decide +kernel
theorem dX9_board_142 : decode cX9_board 142 = .ok (.iload_n 1, 1) := by decide +kernel
theorem dX9_board_143 : decode cX9_board 143 = .ok (.iconst 2, 1) := by decide +kernel
theorem dX9_board_144 : decode cX9_board 144 = .ok (.iadd, 1) := by decide +kernel
theorem dX9_board_145 : decode cX9_board 145 = .ok (.iaload, 1) := by decide +kernel
theorem dX9_board_146 : decode cX9_board 146 = .ok (.ifCond .ne 11, 3) := by decide +kernel
theorem dX9_board_149 : decode cX9_board 149 = .ok (.aload_n 0, 1) := by decide +kernel
theorem dX9_board_150 : decode cX9_board 150 = .ok (.iload_n 1, 1) := by decide +kernel
theorem dX9_board_151 : decode cX9_board 151 = .ok (.invokevirtual 119, 3) := by decide +kernel
theorem dX9_board_154 : decode cX9_board 154 = .ok (.goto (-34), 3) := by decide +kernel
theorem dX9_board_157 : decode cX9_board 157 = .ok (.aload_n 0, 1) := by decide +kernel
theorem dX9_board_158 : decode cX9_board 158 = .ok (.getfield 91, 3) := by decide +kernel
theorem dX9_board_161 : decode cX9_board 161 = .ok (.aload_n 0, 1) := by decide +kernel
theorem dX9_board_162 : decode cX9_board 162 = .ok (.getfield 84, 3) := by decide +kernel
theorem dX9_board_165 : decode cX9_board 165 = .ok (.invokestatic 122, 3) := by decide +kernel
theorem dX9_board_168 : decode cX9_board 168 = .ok (.istore_n 2, 1) := by decide +kernel
theorem dX9_board_169 : decode cX9_board 169 = .ok (.aload_n 0, 1) := by decide +kernel
theorem dX9_board_170 : decode cX9_board 170 = .ok (.iconst 0, 1) := by decide +kernel
theorem dX9_board_171 : decode cX9_board 171 = .ok (.putfield 84, 3) := by decide +kernel
theorem dX9_board_174 : decode cX9_board 174 = .ok (.aload_n 0, 1) := by decide +kernel
theorem dX9_board_175 : decode cX9_board 175 = .ok (.getfield 88, 3) := by decide +kernel
theorem dX9_board_178 : decode cX9_board 178 = .ok (.ifCond .eq 16, 3) := by decide +kernel
theorem dX9_board_181 : decode cX9_board 181 = .ok (.aload_n 0, 1) := by decide +kernel
theorem dX9_board_182 : decode cX9_board 182 = .ok (.aload_n 0, 1) := by decide +kernel
theorem dX9_board_183 : decode cX9_board 183 = .ok (.getfield 88, 3) := by decide +kernel
theorem dX9_board_186 : decode cX9_board 186 = .ok (.putfield 125, 3) := by decide +kernel
theorem dX9_board_189 : decode cX9_board 189 = .ok (.ldc 128, 2) := by decide +kernel
theorem dX9_board_191 : decode cX9_board 191 = .ok (.iload_n 2, 1) := by decide +kernel
theorem dX9_board_192 : decode cX9_board 192 = .ok (.isub, 1) := by decide +kernel
theorem dX9_board_193 : decode cX9_board 193 = .ok (.ireturn, 1) := by decide +kernel
theorem dX9_board_194 : decode cX9_board 194 = .ok (.aload_n 0, 1) := by decide +kernel
theorem dX9_board_195 : decode cX9_board 195 = .ok (.iload_n 1, 1) := by decide +kernel
theorem dX9_board_196 : decode cX9_board 196 = .ok (.iconst 0, 1) := by decide +kernel
theorem dX9_board_197 : decode cX9_board 197 = .ok (.invokevirtual 129, 3) := by decide +kernel
theorem dX9_board_200 : decode cX9_board 200 = .ok (.aload_n 0, 1) := by decide +kernel
theorem dX9_board_201 : decode cX9_board 201 = .ok (.iconst 0, 1) := by decide +kernel
theorem dX9_board_202 : decode cX9_board 202 = .ok (.putfield 132, 3) := by decide +kernel
theorem dX9_board_205 : decode cX9_board 205 = .ok (.aload_n 0, 1) := by decide +kernel
theorem dX9_board_206 : decode cX9_board 206 = .ok (.getfield 23, 3) := by decide +kernel
theorem dX9_board_209 : decode cX9_board 209 = .ok (.iconst 2, 1) := by decide +kernel
theorem dX9_board_210 : decode cX9_board 210 = .ok (.iaload, 1) := by decide +kernel
theorem dX9_board_211 : decode cX9_board 211 = .ok (.ireturn, 1) := by decide +kernel
def L_X9_board_6 (N : Nat) (v0 : Nat) (v1 : Int32) : Nat → Hp → Int32 → Option (Hp)
  | 0, _, _ => none
  | n + 1, σ, v2 =>
  if 16 ≤ v2 then
   some σ
  else
   (gR N σ v0 9 10).bind fun x2 =>
  (sI 0 N σ x2 (v1 + v2) 0).bind fun σ3 =>
  L_X9_board_6 N v0 v1 n σ3 (v2 + 1)
def L_X9_board_120 (N : Nat) (v0 : Nat) (v1 : Int32) : Nat → Hp → Option (Hp)
  | 0, _ => none
  | n + 1, σ =>
  (gI N σ v0 9 9).bind fun x20 =>
  if x20 = 0 then
   (gI N σ v0 9 7).bind fun x22 =>
  (gI N σ v0 9 4).bind fun x23 =>
  if x22 < x23 then
   (m_X9_discItem N σ v0 v1).bind fun r25 =>
  L_X9_board_120 N v0 v1 n r25
  else
   (gR N σ v0 9 10).bind fun x26 =>
  (aI 0 N σ x26 (v1 + 2)).bind fun x27 =>
  if x27 = 0 then
   (m_X9_discItem N σ v0 v1).bind fun r29 =>
  L_X9_board_120 N v0 v1 n r29
  else
   some σ
  else
   some σ
def m_X9_board (N : Nat) (σ : Hp) (t0 : Nat) : Option (Int32 × Hp) :=
  (rv N σ t0 9).bind fun _ =>
  (L_X9_board_6 N t0 432 fu σ 0).bind fun z4 =>
  (pV N z4 t0 9 7 (.int 0)).bind fun σ5 =>
  (pV N σ5 t0 9 9 (.int 0)).bind fun σ6 =>
  (m_X9_sign N σ6 t0 116).bind fun r7 =>
  (gR N r7 t0 9 10).bind fun x8 =>
  (gI N r7 t0 9 9).bind fun x9 =>
  ((if x9 = 0 then
   (m_X9_number N r7 t0 3 4 (-1)).bind fun r58 =>
  some (r58.1, r58.2)
  else
   some (0, r7)) : Option (Int32 × Hp)).bind fun z10 =>
  (sI 0 N z10.2 x8 432 z10.1).bind fun σ11 =>
  (gI N σ11 t0 9 9).bind fun x12 =>
  ((if x12 = 0 then
   (m_X9_sign N σ11 t0 44).bind fun r54 =>
  some r54
  else
   some σ11) : Option (Hp)).bind fun z13 =>
  (gR N z13 t0 9 10).bind fun x14 =>
  (gI N z13 t0 9 9).bind fun x15 =>
  ((if x15 = 0 then
   (m_X9_number N z13 t0 1 6 (-1)).bind fun r50 =>
  some (r50.1, r50.2)
  else
   some (0, z13)) : Option (Int32 × Hp)).bind fun z16 =>
  (sI 0 N z16.2 x14 ((432 : Int32) + 1) z16.1).bind fun σ17 =>
  (gI N σ17 t0 9 9).bind fun x18 =>
  ((if x18 = 0 then
   (m_X9_sign N σ17 t0 59).bind fun r46 =>
  some r46
  else
   some σ17) : Option (Hp)).bind fun z19 =>
  (L_X9_board_120 N t0 432 fu z19).bind fun z30 =>
  (gI N z30 t0 9 8).bind fun x31 =>
  (gI N z30 t0 9 4).bind fun x32 =>
  (m_X9_smaller x31 x32).bind fun r33 =>
  (pV N z30 t0 9 4 (.int 0)).bind fun σ34 =>
  (gI N σ34 t0 9 9).bind fun x35 =>
  if x35 = 0 then
   (m_X9_copies N σ34 t0 432 0).bind fun r37 =>
  (pV N r37 t0 9 11 (.int 0)).bind fun σ38 =>
  (gR N σ38 t0 9 10).bind fun x39 =>
  (aI 0 N σ38 x39 2).bind fun x40 =>
  some (x40, σ38)
  else
   (gI N σ34 t0 9 9).bind fun x41 =>
  (pV N σ34 t0 9 6 (.int x41)).bind fun σ42 =>
  some (((-1000100) : Int32) - r33, σ42)
set_option maxHeartbeats 4000000 in
set_option maxRecDepth 100000 in
theorem lp_X9_board_6 {κ : Kx} {ω : Om} (C : Cx κ 3 3 cX9_board RX9 "board") (Z : Zx κ ω) (v0 : Nat) (v1 : Int32) {r : Hp} (hk : X κ 3 ω 27 [some (.ref v0), some (.int v1), none] [] r) : ∀ (n : Nat) (σ : Hp) (v2 : Int32), L_X9_board_6 ω.1 v0 v1 n σ v2 = some r → X κ 3 ω 6 [some (.ref v0), some (.int v1), some (.int v2)] [] σ := by
  intro n
  induction n with
  | zero => intro σ v2 h; cases h
  | succ n ih =>
    intro σ v2 h
    rw [L_X9_board_6.eq_2] at h
    refine x_iload_n C (i := 2) dX9_board_6 rfl rfl ?_
    refine x_bipush C (v := 16) dX9_board_7 (by decide) ?_
    refine x_icmp_ge C (tgt := 27) dX9_board_9 (by decide) (fun c1 => ?_) (fun c1 => ?_)
    · have h := ifP h c1
      refine x_wk [true, true, false] (lo' := [some (.ref v0), some (.int v1), none]) rfl ?_
      obtain rfl := Option.some.inj h
      exact hk
    · have h := ifN h c1
      refine x_aload_n C (i := 0) dX9_board_12 rfl rfl ?_
      obtain ⟨x2, ex2, h⟩ := ob h
      refine x_getR C fl_X9_23 dX9_board_13 ex2 ?_
      refine x_iload_n C (i := 1) dX9_board_16 rfl rfl ?_
      refine x_iload_n C (i := 2) dX9_board_17 rfl rfl ?_
      refine x_iadd C dX9_board_18 ?_
      refine x_iconst C (v := 0) dX9_board_19 (by decide) ?_
      obtain ⟨σ3, eσ3, h⟩ := ob h
      refine x_iast C dX9_board_20 eσ3 ?_
      refine x_iinc C (i := 2) (y := v2 + 1) (lo' := [some (.ref v0), some (.int v1), some (.int (v2 + 1))]) dX9_board_21 rfl rfl (by decide) rfl rfl ?_
      refine x_goto C (tgt := 6) dX9_board_24 (by decide) ?_
      refine x_wk [true, true, true] (lo' := [some (.ref v0), some (.int v1), some (.int (v2 + 1))]) rfl ?_
      exact ih σ3 (v2 + 1) h
set_option maxHeartbeats 4000000 in
set_option maxRecDepth 100000 in
theorem lp_X9_board_120 {κ : Kx} {ω : Om} (C : Cx κ 3 3 cX9_board RX9 "board") (Z : Zx κ ω) (v0 : Nat) (v1 : Int32) {r : Hp} (hk : X κ 3 ω 157 [some (.ref v0), some (.int v1), none] [] r) : ∀ (n : Nat) (σ : Hp), L_X9_board_120 ω.1 v0 v1 n σ = some r → X κ 3 ω 120 [some (.ref v0), some (.int v1), none] [] σ := by
  intro n
  induction n with
  | zero => intro σ h; cases h
  | succ n ih =>
    intro σ h
    rw [L_X9_board_120.eq_2] at h
    refine x_aload_n C (i := 0) dX9_board_120 rfl rfl ?_
    obtain ⟨x20, ex20, h⟩ := ob h
    refine x_getI C fl_X9_88 dX9_board_121 ex20 ?_
    refine x_if_ne C (tgt := 157) dX9_board_124 (by decide) (fun c21 => ?_) (fun c21 => ?_)
    · have h := ifN h c21
      refine x_wk [true, true, false] (lo' := [some (.ref v0), some (.int v1), none]) rfl ?_
      obtain rfl := Option.some.inj h
      exact hk
    · have h := ifP h c21
      refine x_aload_n C (i := 0) dX9_board_127 rfl rfl ?_
      obtain ⟨x22, ex22, h⟩ := ob h
      refine x_getI C fl_X9_94 dX9_board_128 ex22 ?_
      refine x_aload_n C (i := 0) dX9_board_131 rfl rfl ?_
      obtain ⟨x23, ex23, h⟩ := ob h
      refine x_getI C fl_X9_84 dX9_board_132 ex23 ?_
      refine x_icmp_lt C (tgt := 149) dX9_board_135 (by decide) (fun c24 => ?_) (fun c24 => ?_)
      · have h := ifP h c24
        refine x_aload_n C (i := 0) dX9_board_149 rfl rfl ?_
        refine x_iload_n C (i := 1) dX9_board_150 rfl rfl ?_
        obtain ⟨r25, er25, h⟩ := ob h
        refine x_callVn C Z mv_X9_discItem lk_X9_119 (rv_h er25) (ct_X9_discItem er25) (by decide) rfl rfl (Nat.le_of_ble_eq_true rfl) dX9_board_151 ?_
        refine x_goto C (tgt := 120) dX9_board_154 (by decide) ?_
        refine x_wk [true, true, false] (lo' := [some (.ref v0), some (.int v1), none]) rfl ?_
        exact ih r25 h
      · have h := ifN h c24
        refine x_aload_n C (i := 0) dX9_board_138 rfl rfl ?_
        obtain ⟨x26, ex26, h⟩ := ob h
        refine x_getR C fl_X9_23 dX9_board_139 ex26 ?_
        refine x_iload_n C (i := 1) dX9_board_142 rfl rfl ?_
        refine x_iconst C (v := 2) dX9_board_143 (by decide) ?_
        refine x_iadd C dX9_board_144 ?_
        obtain ⟨x27, ex27, h⟩ := ob h
        refine x_iald C dX9_board_145 ex27 ?_
        refine x_if_ne C (tgt := 157) dX9_board_146 (by decide) (fun c28 => ?_) (fun c28 => ?_)
        · have h := ifN h c28
          refine x_wk [true, true, false] (lo' := [some (.ref v0), some (.int v1), none]) rfl ?_
          obtain rfl := Option.some.inj h
          exact hk
        · have h := ifP h c28
          refine x_aload_n C (i := 0) dX9_board_149 rfl rfl ?_
          refine x_iload_n C (i := 1) dX9_board_150 rfl rfl ?_
          obtain ⟨r29, er29, h⟩ := ob h
          refine x_callVn C Z mv_X9_discItem lk_X9_119 (rv_h er29) (ct_X9_discItem er29) (by decide) rfl rfl (Nat.le_of_ble_eq_true rfl) dX9_board_151 ?_
          refine x_goto C (tgt := 120) dX9_board_154 (by decide) ?_
          refine x_wk [true, true, false] (lo' := [some (.ref v0), some (.int v1), none]) rfl ?_
          exact ih r29 h
set_option maxHeartbeats 4000000 in
set_option maxRecDepth 100000 in
theorem ct_X9_board {l : Launch} {D : va_G} {cy : Nat → Nat} {N : Nat} {σ : Hp} {t0 : Nat} {r : Int32 × Hp} (h : m_X9_board N σ t0 = some r) : Ct l D cy yX9_board cX9_board 3 (some .int) 3 [.ref t0] N σ (fun v s' => v = (some (.int r.1)) ∧ s' = r.2) := by
  refine Ct.intro [some (.ref t0), none, none] (by decide) rfl (Nat.le_of_ble_eq_true rfl) ?_
  intro κ ω e1 e2 e3 e4 C Z E
  subst e1; subst e2; subst e3; subst e4
  have C : Cx κ 3 3 cX9_board RX9 "board" := C
  have hE : ∀ x : Int32 × Hp, r = x → ((some (Value.int x.1)) = (some (Value.int r.1)) ∧ x.2 = r.2) := fun x hx => by subst hx; exact ⟨rfl, rfl⟩
  unfold m_X9_board at h
  obtain ⟨_, _, h⟩ := ob h
  refine x_sipush C (v := 432) dX9_board_0 (by decide) ?_
  refine x_istore_n C (i := 1) (lo' := [some (.ref t0), some (.int 432), none]) dX9_board_3 rfl (by decide) rfl rfl ?_
  refine x_iconst C (v := 0) dX9_board_4 (by decide) ?_
  refine x_istore_n C (i := 2) (lo' := [some (.ref t0), some (.int 432), some (.int 0)]) dX9_board_5 rfl (by decide) rfl rfl ?_
  obtain ⟨z4, ez4, h⟩ := ob h
  refine x_wk [true, true, true] (lo' := [some (.ref t0), some (.int 432), some (.int 0)]) rfl ?_
  refine lp_X9_board_6 C Z t0 432 ?_ _ σ 0 ez4
  refine x_aload_n C (i := 0) dX9_board_27 rfl rfl ?_
  refine x_iconst C (v := 0) dX9_board_28 (by decide) ?_
  obtain ⟨σ5, eσ5, h⟩ := ob h
  refine x_put C pl_X9_94 dX9_board_29 (fun _ => ⟨rfl, rfl⟩) eσ5 ?_
  refine x_aload_n C (i := 0) dX9_board_32 rfl rfl ?_
  refine x_iconst C (v := 0) dX9_board_33 (by decide) ?_
  obtain ⟨σ6, eσ6, h⟩ := ob h
  refine x_put C pl_X9_88 dX9_board_34 (fun _ => ⟨rfl, rfl⟩) eσ6 ?_
  refine x_aload_n C (i := 0) dX9_board_37 rfl rfl ?_
  refine x_bipush C (v := 116) dX9_board_38 (by decide) ?_
  obtain ⟨r7, er7, h⟩ := ob h
  refine x_callVn C Z mv_X9_sign lk_X9_115 (rv_h er7) (ct_X9_sign er7) (by decide) rfl rfl (Nat.le_of_ble_eq_true rfl) dX9_board_40 ?_
  refine x_aload_n C (i := 0) dX9_board_43 rfl rfl ?_
  obtain ⟨x8, ex8, h⟩ := ob h
  refine x_getR C fl_X9_23 dX9_board_44 ex8 ?_
  refine x_iload_n C (i := 1) dX9_board_47 rfl rfl ?_
  refine x_aload_n C (i := 0) dX9_board_48 rfl rfl ?_
  obtain ⟨x9, ex9, h⟩ := ob h
  refine x_getI C fl_X9_88 dX9_board_49 ex9 ?_
  obtain ⟨z10, hz10, h⟩ := ob h
  have hJ55 : X κ 3 ω 66 [some (.ref t0), some (.int 432), none] [.int z10.1, .int 432, .ref x8] z10.2 := by
    obtain ⟨σ11, eσ11, h⟩ := ob h
    refine x_iast C dX9_board_66 eσ11 ?_
    refine x_aload_n C (i := 0) dX9_board_67 rfl rfl ?_
    obtain ⟨x12, ex12, h⟩ := ob h
    refine x_getI C fl_X9_88 dX9_board_68 ex12 ?_
    obtain ⟨z13, hz13, h⟩ := ob h
    have hJ51 : X κ 3 ω 80 [some (.ref t0), some (.int 432), none] [] z13 := by
      refine x_aload_n C (i := 0) dX9_board_80 rfl rfl ?_
      obtain ⟨x14, ex14, h⟩ := ob h
      refine x_getR C fl_X9_23 dX9_board_81 ex14 ?_
      refine x_iload_n C (i := 1) dX9_board_84 rfl rfl ?_
      refine x_iconst C (v := 1) dX9_board_85 (by decide) ?_
      refine x_iadd C dX9_board_86 ?_
      refine x_aload_n C (i := 0) dX9_board_87 rfl rfl ?_
      obtain ⟨x15, ex15, h⟩ := ob h
      refine x_getI C fl_X9_88 dX9_board_88 ex15 ?_
      obtain ⟨z16, hz16, h⟩ := ob h
      have hJ47 : X κ 3 ω 106 [some (.ref t0), some (.int 432), none] [.int z16.1, .int ((432 : Int32) + 1), .ref x14] z16.2 := by
        obtain ⟨σ17, eσ17, h⟩ := ob h
        refine x_iast C dX9_board_106 eσ17 ?_
        refine x_aload_n C (i := 0) dX9_board_107 rfl rfl ?_
        obtain ⟨x18, ex18, h⟩ := ob h
        refine x_getI C fl_X9_88 dX9_board_108 ex18 ?_
        obtain ⟨z19, hz19, h⟩ := ob h
        have hJ43 : X κ 3 ω 120 [some (.ref t0), some (.int 432), none] [] z19 := by
          obtain ⟨z30, ez30, h⟩ := ob h
          refine x_wk [true, true, false] (lo' := [some (.ref t0), some (.int 432), none]) rfl ?_
          refine lp_X9_board_120 C Z t0 432 ?_ _ z19 ez30
          refine x_aload_n C (i := 0) dX9_board_157 rfl rfl ?_
          obtain ⟨x31, ex31, h⟩ := ob h
          refine x_getI C fl_X9_91 dX9_board_158 ex31 ?_
          refine x_aload_n C (i := 0) dX9_board_161 rfl rfl ?_
          obtain ⟨x32, ex32, h⟩ := ob h
          refine x_getI C fl_X9_84 dX9_board_162 ex32 ?_
          obtain ⟨r33, er33, h⟩ := ob h
          refine x_callSr C Z ms_X9_smaller lk_X9_122 (ct_X9_smaller (N := ω.1) (σ := z30) er33) (by decide) rfl rfl (Nat.le_of_ble_eq_true rfl) dX9_board_165 ?_
          refine x_istore_n C (i := 2) (lo' := [some (.ref t0), some (.int 432), some (.int r33)]) dX9_board_168 rfl (by decide) rfl rfl ?_
          refine x_aload_n C (i := 0) dX9_board_169 rfl rfl ?_
          refine x_iconst C (v := 0) dX9_board_170 (by decide) ?_
          obtain ⟨σ34, eσ34, h⟩ := ob h
          refine x_put C pl_X9_84 dX9_board_171 (fun _ => ⟨rfl, rfl⟩) eσ34 ?_
          refine x_aload_n C (i := 0) dX9_board_174 rfl rfl ?_
          obtain ⟨x35, ex35, h⟩ := ob h
          refine x_getI C fl_X9_88 dX9_board_175 ex35 ?_
          refine x_if_eq C (tgt := 194) dX9_board_178 (by decide) (fun c36 => ?_) (fun c36 => ?_)
          · have h := ifP h c36
            refine x_aload_n C (i := 0) dX9_board_194 rfl rfl ?_
            refine x_iload_n C (i := 1) dX9_board_195 rfl rfl ?_
            refine x_iconst C (v := 0) dX9_board_196 (by decide) ?_
            obtain ⟨r37, er37, h⟩ := ob h
            refine x_callVn C Z mv_X9_copies lk_X9_129 (rv_h er37) (ct_X9_copies er37) (by decide) rfl rfl (Nat.le_of_ble_eq_true rfl) dX9_board_197 ?_
            refine x_aload_n C (i := 0) dX9_board_200 rfl rfl ?_
            refine x_iconst C (v := 0) dX9_board_201 (by decide) ?_
            obtain ⟨σ38, eσ38, h⟩ := ob h
            refine x_put C pl_X9_132 dX9_board_202 (fun _ => ⟨rfl, rfl⟩) eσ38 ?_
            refine x_aload_n C (i := 0) dX9_board_205 rfl rfl ?_
            obtain ⟨x39, ex39, h⟩ := ob h
            refine x_getR C fl_X9_23 dX9_board_206 ex39 ?_
            refine x_iconst C (v := 2) dX9_board_209 (by decide) ?_
            obtain ⟨x40, ex40, h⟩ := ob h
            refine x_iald C dX9_board_210 ex40 ?_
            exact x_iret C E dX9_board_211 (hE (x40, σ38) (Option.some.inj h).symm)
          · have h := ifN h c36
            refine x_aload_n C (i := 0) dX9_board_181 rfl rfl ?_
            refine x_aload_n C (i := 0) dX9_board_182 rfl rfl ?_
            obtain ⟨x41, ex41, h⟩ := ob h
            refine x_getI C fl_X9_88 dX9_board_183 ex41 ?_
            obtain ⟨σ42, eσ42, h⟩ := ob h
            refine x_put C pl_X9_125 dX9_board_186 (fun _ => ⟨rfl, rfl⟩) eσ42 ?_
            refine x_ldc C kc_X9_128 dX9_board_189 ?_
            refine x_iload_n C (i := 2) dX9_board_191 rfl rfl ?_
            refine x_isub C dX9_board_192 ?_
            exact x_iret C E dX9_board_193 (hE (((-1000100) : Int32) - r33, σ42) (Option.some.inj h).symm)
        clear h
        have h := hz19
        refine x_if_ne C (tgt := 120) dX9_board_111 (by decide) (fun c45 => ?_) (fun c45 => ?_)
        · have h := ifN h c45
          refine x_wk [true, true, false] (lo' := [some (.ref t0), some (.int 432), none]) rfl ?_
          obtain rfl := Option.some.inj h
          exact hJ43
        · have h := ifP h c45
          refine x_aload_n C (i := 0) dX9_board_114 rfl rfl ?_
          refine x_bipush C (v := 59) dX9_board_115 (by decide) ?_
          obtain ⟨r46, er46, h⟩ := ob h
          refine x_callVn C Z mv_X9_sign lk_X9_115 (rv_h er46) (ct_X9_sign er46) (by decide) rfl rfl (Nat.le_of_ble_eq_true rfl) dX9_board_117 ?_
          refine x_wk [true, true, false] (lo' := [some (.ref t0), some (.int 432), none]) rfl ?_
          obtain rfl := Option.some.inj h
          exact hJ43
      clear h
      have h := hz16
      refine x_if_ne C (tgt := 105) dX9_board_91 (by decide) (fun c49 => ?_) (fun c49 => ?_)
      · have h := ifN h c49
        refine x_iconst C (v := 0) dX9_board_105 (by decide) ?_
        refine x_wk [true, true, false] (lo' := [some (.ref t0), some (.int 432), none]) rfl ?_
        obtain rfl := Option.some.inj h
        exact hJ47
      · have h := ifP h c49
        refine x_aload_n C (i := 0) dX9_board_94 rfl rfl ?_
        refine x_iconst C (v := 1) dX9_board_95 (by decide) ?_
        refine x_bipush C (v := 6) dX9_board_96 (by decide) ?_
        refine x_iconst C (v := (-1)) dX9_board_98 (by decide) ?_
        obtain ⟨r50, er50, h⟩ := ob h
        refine x_callVr C Z mv_X9_number lk_X9_111 (rv_h er50) (ct_X9_number er50) (by decide) rfl rfl (Nat.le_of_ble_eq_true rfl) dX9_board_99 ?_
        refine x_goto C (tgt := 106) dX9_board_102 (by decide) ?_
        refine x_wk [true, true, false] (lo' := [some (.ref t0), some (.int 432), none]) rfl ?_
        obtain rfl := Option.some.inj h
        exact hJ47
    clear h
    have h := hz13
    refine x_if_ne C (tgt := 80) dX9_board_71 (by decide) (fun c53 => ?_) (fun c53 => ?_)
    · have h := ifN h c53
      refine x_wk [true, true, false] (lo' := [some (.ref t0), some (.int 432), none]) rfl ?_
      obtain rfl := Option.some.inj h
      exact hJ51
    · have h := ifP h c53
      refine x_aload_n C (i := 0) dX9_board_74 rfl rfl ?_
      refine x_bipush C (v := 44) dX9_board_75 (by decide) ?_
      obtain ⟨r54, er54, h⟩ := ob h
      refine x_callVn C Z mv_X9_sign lk_X9_115 (rv_h er54) (ct_X9_sign er54) (by decide) rfl rfl (Nat.le_of_ble_eq_true rfl) dX9_board_77 ?_
      refine x_wk [true, true, false] (lo' := [some (.ref t0), some (.int 432), none]) rfl ?_
      obtain rfl := Option.some.inj h
      exact hJ51
  clear h
  have h := hz10
  refine x_if_ne C (tgt := 65) dX9_board_52 (by decide) (fun c57 => ?_) (fun c57 => ?_)
  · have h := ifN h c57
    refine x_iconst C (v := 0) dX9_board_65 (by decide) ?_
    refine x_wk [true, true, false] (lo' := [some (.ref t0), some (.int 432), none]) rfl ?_
    obtain rfl := Option.some.inj h
    exact hJ55
  · have h := ifP h c57
    refine x_aload_n C (i := 0) dX9_board_55 rfl rfl ?_
    refine x_iconst C (v := 3) dX9_board_56 (by decide) ?_
    refine x_iconst C (v := 4) dX9_board_57 (by decide) ?_
    refine x_iconst C (v := (-1)) dX9_board_58 (by decide) ?_
    obtain ⟨r58, er58, h⟩ := ob h
    refine x_callVr C Z mv_X9_number lk_X9_111 (rv_h er58) (ct_X9_number er58) (by decide) rfl rfl (Nat.le_of_ble_eq_true rfl) dX9_board_59 ?_
    refine x_goto C (tgt := 66) dX9_board_62 (by decide) ?_
    refine x_wk [true, true, false] (lo' := [some (.ref t0), some (.int 432), none]) rfl ?_
    obtain rfl := Option.some.inj h
    exact hJ55
theorem dX9_fault_0 : decode cX9_fault 0 = .ok (.aload_n 0, 1) := by decide +kernel
theorem dX9_fault_1 : decode cX9_fault 1 = .ok (.getfield 125, 3) := by decide +kernel
theorem dX9_fault_4 : decode cX9_fault 4 = .ok (.ireturn, 1) := by decide +kernel
def m_X9_fault (N : Nat) (σ : Hp) (t0 : Nat) : Option (Int32) :=
  (rv N σ t0 9).bind fun _ =>
  (gI N σ t0 9 6).bind fun x1 =>
  some x1
set_option maxHeartbeats 4000000 in
set_option maxRecDepth 100000 in
theorem ct_X9_fault {l : Launch} {D : va_G} {cy : Nat → Nat} {N : Nat} {σ : Hp} {t0 : Nat} {r : Int32} (h : m_X9_fault N σ t0 = some r) : Ct l D cy yX9_fault cX9_fault 1 (some .int) 0 [.ref t0] N σ (fun v s' => v = (some (.int r)) ∧ s' = σ) := by
  refine Ct.intro [some (.ref t0)] (by decide) rfl (Nat.le_of_ble_eq_true rfl) ?_
  intro κ ω e1 e2 e3 e4 C Z E
  subst e1; subst e2; subst e3; subst e4
  have C : Cx κ 1 0 cX9_fault RX9 "fault" := C
  have hE : ∀ x : Int32, r = x → ((some (Value.int x)) = (some (Value.int r)) ∧ σ = σ) := fun x hx => by subst hx; exact ⟨rfl, rfl⟩
  unfold m_X9_fault at h
  obtain ⟨_, _, h⟩ := ob h
  refine x_aload_n C (i := 0) dX9_fault_0 rfl rfl ?_
  obtain ⟨x1, ex1, h⟩ := ob h
  refine x_getI C fl_X9_125 dX9_fault_1 ex1 ?_
  exact x_iret C E dX9_fault_4 (hE x1 (Option.some.inj h).symm)
theorem dX9_isBoard_0 : decode cX9_isBoard 0 = .ok (.aload_n 0, 1) := by decide +kernel
theorem dX9_isBoard_1 : decode cX9_isBoard 1 = .ok (.getfield 23, 3) := by decide +kernel
theorem dX9_isBoard_4 : decode cX9_isBoard 4 = .ok (.iconst 0, 1) := by decide +kernel
theorem dX9_isBoard_5 : decode cX9_isBoard 5 = .ok (.iaload, 1) := by decide +kernel
theorem dX9_isBoard_6 : decode cX9_isBoard 6 = .ok (.ifCond .le 7, 3) := by decide +kernel
theorem dX9_isBoard_9 : decode cX9_isBoard 9 = .ok (.iconst 1, 1) := by decide +kernel
theorem dX9_isBoard_10 : decode cX9_isBoard 10 = .ok (.goto 4, 3) := by decide +kernel
theorem dX9_isBoard_13 : decode cX9_isBoard 13 = .ok (.iconst 0, 1) := by decide +kernel
theorem dX9_isBoard_14 : decode cX9_isBoard 14 = .ok (.ireturn, 1) := by decide +kernel
def m_X9_isBoard (N : Nat) (σ : Hp) (t0 : Nat) : Option (Int32) :=
  (rv N σ t0 9).bind fun _ =>
  (gR N σ t0 9 10).bind fun x1 =>
  (aI 0 N σ x1 0).bind fun x2 =>
  if x2 ≤ 0 then
   some 0
  else
   some 1
set_option maxHeartbeats 4000000 in
set_option maxRecDepth 100000 in
theorem ct_X9_isBoard {l : Launch} {D : va_G} {cy : Nat → Nat} {N : Nat} {σ : Hp} {t0 : Nat} {r : Int32} (h : m_X9_isBoard N σ t0 = some r) : Ct l D cy yX9_isBoard cX9_isBoard 1 (some .boolean) 0 [.ref t0] N σ (fun v s' => v = (some (.int r)) ∧ s' = σ) := by
  refine Ct.intro [some (.ref t0)] (by decide) rfl (Nat.le_of_ble_eq_true rfl) ?_
  intro κ ω e1 e2 e3 e4 C Z E
  subst e1; subst e2; subst e3; subst e4
  have C : Cx κ 1 0 cX9_isBoard RX9 "isBoard" := C
  have hE : ∀ x : Int32, r = x → ((some (Value.int x)) = (some (Value.int r)) ∧ σ = σ) := fun x hx => by subst hx; exact ⟨rfl, rfl⟩
  unfold m_X9_isBoard at h
  obtain ⟨_, _, h⟩ := ob h
  refine x_aload_n C (i := 0) dX9_isBoard_0 rfl rfl ?_
  obtain ⟨x1, ex1, h⟩ := ob h
  refine x_getR C fl_X9_23 dX9_isBoard_1 ex1 ?_
  refine x_iconst C (v := 0) dX9_isBoard_4 (by decide) ?_
  obtain ⟨x2, ex2, h⟩ := ob h
  refine x_iald C dX9_isBoard_5 ex2 ?_
  refine x_if_le C (tgt := 13) dX9_isBoard_6 (by decide) (fun c3 => ?_) (fun c3 => ?_)
  · have h := ifP h c3
    refine x_iconst C (v := 0) dX9_isBoard_13 (by decide) ?_
    exact x_zret C E (by decide +kernel) dX9_isBoard_14 (hE 0 (Option.some.inj h).symm)
  · have h := ifN h c3
    refine x_iconst C (v := 1) dX9_isBoard_9 (by decide) ?_
    refine x_goto C (tgt := 14) dX9_isBoard_10 (by decide) ?_
    exact x_zret C E (by decide +kernel) dX9_isBoard_14 (hE 1 (Option.some.inj h).symm)
theorem dX9_isPeg_0 : decode cX9_isPeg 0 = .ok (.iload_n 1, 1) := by decide +kernel
theorem dX9_isPeg_1 : decode cX9_isPeg 1 = .ok (.i2l, 1) := by decide +kernel
theorem dX9_isPeg_2 : decode cX9_isPeg 2 = .ok (.lconst 0, 1) := by decide +kernel
theorem dX9_isPeg_3 : decode cX9_isPeg 3 = .ok (.aload_n 0, 1) := by decide +kernel
theorem dX9_isPeg_4 : decode cX9_isPeg 4 = .ok (.getfield 23, 3) := by decide +kernel
theorem dX9_isPeg_7 : decode cX9_isPeg 7 = .ok (.iconst 0, 1) := by decide +kernel
theorem dX9_isPeg_8 : decode cX9_isPeg 8 = .ok (.iaload, 1) := by decide +kernel
theorem dX9_isPeg_9 : decode cX9_isPeg 9 = .ok (.iconst 1, 1) := by decide +kernel
theorem dX9_isPeg_10 : decode cX9_isPeg 10 = .ok (.isub, 1) := by decide +kernel
theorem dX9_isPeg_11 : decode cX9_isPeg 11 = .ok (.i2l, 1) := by decide +kernel
theorem dX9_isPeg_12 : decode cX9_isPeg 12 = .ok (.invokestatic 56, 3) := by decide +kernel
theorem dX9_isPeg_15 : decode cX9_isPeg 15 = .ok (.ireturn, 1) := by decide +kernel
def m_X9_isPeg (N : Nat) (σ : Hp) (t0 : Nat) (p1 : Int32) : Option (Int32) :=
  (rv N σ t0 9).bind fun _ =>
  (gR N σ t0 9 10).bind fun x1 =>
  (aI 0 N σ x1 0).bind fun x2 =>
  (m_X9_in p1.toInt64 0 ((x2 - 1).toInt64)).bind fun r3 =>
  (zb r3).bind fun u4 =>
  some r3
set_option maxHeartbeats 4000000 in
set_option maxRecDepth 100000 in
theorem ct_X9_isPeg {l : Launch} {D : va_G} {cy : Nat → Nat} {N : Nat} {σ : Hp} {t0 : Nat} {p1 : Int32} {r : Int32} (h : m_X9_isPeg N σ t0 p1 = some r) : Ct l D cy yX9_isPeg cX9_isPeg 2 (some .boolean) 1 [.ref t0, .int p1] N σ (fun v s' => v = (some (.int r)) ∧ s' = σ) := by
  refine Ct.intro [some (.ref t0), some (.int p1)] (by decide) rfl (Nat.le_of_ble_eq_true rfl) ?_
  intro κ ω e1 e2 e3 e4 C Z E
  subst e1; subst e2; subst e3; subst e4
  have C : Cx κ 2 1 cX9_isPeg RX9 "isPeg" := C
  have hE : ∀ x : Int32, r = x → ((some (Value.int x)) = (some (Value.int r)) ∧ σ = σ) := fun x hx => by subst hx; exact ⟨rfl, rfl⟩
  unfold m_X9_isPeg at h
  obtain ⟨_, _, h⟩ := ob h
  refine x_iload_n C (i := 1) dX9_isPeg_0 rfl rfl ?_
  refine x_i2l C dX9_isPeg_1 ?_
  refine x_lconst C (v := 0) dX9_isPeg_2 (by decide) ?_
  refine x_aload_n C (i := 0) dX9_isPeg_3 rfl rfl ?_
  obtain ⟨x1, ex1, h⟩ := ob h
  refine x_getR C fl_X9_23 dX9_isPeg_4 ex1 ?_
  refine x_iconst C (v := 0) dX9_isPeg_7 (by decide) ?_
  obtain ⟨x2, ex2, h⟩ := ob h
  refine x_iald C dX9_isPeg_8 ex2 ?_
  refine x_iconst C (v := 1) dX9_isPeg_9 (by decide) ?_
  refine x_isub C dX9_isPeg_10 ?_
  refine x_i2l C dX9_isPeg_11 ?_
  obtain ⟨r3, er3, h⟩ := ob h
  refine x_callSr C Z ms_X9_in lk_X9_56 (ct_X9_in (N := ω.1) (σ := σ) er3) (by decide) rfl rfl (Nat.le_of_ble_eq_true rfl) dX9_isPeg_12 ?_
  obtain ⟨u4, eu4, h⟩ := ob h
  exact x_zret C E (zb_n eu4) dX9_isPeg_15 (hE r3 (Option.some.inj h).symm)
theorem dX9_isDisc_0 : decode cX9_isDisc 0 = .ok (.iload_n 1, 1) := by decide +kernel
theorem dX9_isDisc_1 : decode cX9_isDisc 1 = .ok (.i2l, 1) := by decide +kernel
theorem dX9_isDisc_2 : decode cX9_isDisc 2 = .ok (.lconst 0, 1) := by decide +kernel
theorem dX9_isDisc_3 : decode cX9_isDisc 3 = .ok (.aload_n 0, 1) := by decide +kernel
theorem dX9_isDisc_4 : decode cX9_isDisc 4 = .ok (.getfield 23, 3) := by decide +kernel
theorem dX9_isDisc_7 : decode cX9_isDisc 7 = .ok (.iconst 2, 1) := by decide +kernel
theorem dX9_isDisc_8 : decode cX9_isDisc 8 = .ok (.iaload, 1) := by decide +kernel
theorem dX9_isDisc_9 : decode cX9_isDisc 9 = .ok (.iconst 1, 1) := by decide +kernel
theorem dX9_isDisc_10 : decode cX9_isDisc 10 = .ok (.isub, 1) := by decide +kernel
theorem dX9_isDisc_11 : decode cX9_isDisc 11 = .ok (.i2l, 1) := by decide +kernel
theorem dX9_isDisc_12 : decode cX9_isDisc 12 = .ok (.invokestatic 56, 3) := by decide +kernel
theorem dX9_isDisc_15 : decode cX9_isDisc 15 = .ok (.ireturn, 1) := by decide +kernel
def m_X9_isDisc (N : Nat) (σ : Hp) (t0 : Nat) (p1 : Int32) : Option (Int32) :=
  (rv N σ t0 9).bind fun _ =>
  (gR N σ t0 9 10).bind fun x1 =>
  (aI 0 N σ x1 2).bind fun x2 =>
  (m_X9_in p1.toInt64 0 ((x2 - 1).toInt64)).bind fun r3 =>
  (zb r3).bind fun u4 =>
  some r3
set_option maxHeartbeats 4000000 in
set_option maxRecDepth 100000 in
theorem ct_X9_isDisc {l : Launch} {D : va_G} {cy : Nat → Nat} {N : Nat} {σ : Hp} {t0 : Nat} {p1 : Int32} {r : Int32} (h : m_X9_isDisc N σ t0 p1 = some r) : Ct l D cy yX9_isDisc cX9_isDisc 2 (some .boolean) 1 [.ref t0, .int p1] N σ (fun v s' => v = (some (.int r)) ∧ s' = σ) := by
  refine Ct.intro [some (.ref t0), some (.int p1)] (by decide) rfl (Nat.le_of_ble_eq_true rfl) ?_
  intro κ ω e1 e2 e3 e4 C Z E
  subst e1; subst e2; subst e3; subst e4
  have C : Cx κ 2 1 cX9_isDisc RX9 "isDisc" := C
  have hE : ∀ x : Int32, r = x → ((some (Value.int x)) = (some (Value.int r)) ∧ σ = σ) := fun x hx => by subst hx; exact ⟨rfl, rfl⟩
  unfold m_X9_isDisc at h
  obtain ⟨_, _, h⟩ := ob h
  refine x_iload_n C (i := 1) dX9_isDisc_0 rfl rfl ?_
  refine x_i2l C dX9_isDisc_1 ?_
  refine x_lconst C (v := 0) dX9_isDisc_2 (by decide) ?_
  refine x_aload_n C (i := 0) dX9_isDisc_3 rfl rfl ?_
  obtain ⟨x1, ex1, h⟩ := ob h
  refine x_getR C fl_X9_23 dX9_isDisc_4 ex1 ?_
  refine x_iconst C (v := 2) dX9_isDisc_7 (by decide) ?_
  obtain ⟨x2, ex2, h⟩ := ob h
  refine x_iald C dX9_isDisc_8 ex2 ?_
  refine x_iconst C (v := 1) dX9_isDisc_9 (by decide) ?_
  refine x_isub C dX9_isDisc_10 ?_
  refine x_i2l C dX9_isDisc_11 ?_
  obtain ⟨r3, er3, h⟩ := ob h
  refine x_callSr C Z ms_X9_in lk_X9_56 (ct_X9_in (N := ω.1) (σ := σ) er3) (by decide) rfl rfl (Nat.le_of_ble_eq_true rfl) dX9_isDisc_12 ?_
  obtain ⟨u4, eu4, h⟩ := ob h
  exact x_zret C E (zb_n eu4) dX9_isDisc_15 (hE r3 (Option.some.inj h).symm)
theorem dX9_state_0 : decode cX9_state 0 = .ok (.aload_n 0, 1) := by decide +kernel
theorem dX9_state_1 : decode cX9_state 1 = .ok (.getfield 23, 3) := by decide +kernel
theorem dX9_state_4 : decode cX9_state 4 = .ok (.iconst 3, 1) := by decide +kernel
theorem dX9_state_5 : decode cX9_state 5 = .ok (.iaload, 1) := by decide +kernel
theorem dX9_state_6 : decode cX9_state 6 = .ok (.iconst 2, 1) := by decide +kernel
theorem dX9_state_7 : decode cX9_state 7 = .ok (.irem, 1) := by decide +kernel
theorem dX9_state_8 : decode cX9_state 8 = .ok (.iconst 1, 1) := by decide +kernel
theorem dX9_state_9 : decode cX9_state 9 = .ok (.if_icmp .ne 9, 3) := by decide +kernel
theorem dX9_state_12 : decode cX9_state 12 = .ok (.sipush 4096, 3) := by decide +kernel
theorem dX9_state_15 : decode cX9_state 15 = .ok (.goto 4, 3) := by decide +kernel
theorem dX9_state_18 : decode cX9_state 18 = .ok (.iconst 0, 1) := by decide +kernel
theorem dX9_state_19 : decode cX9_state 19 = .ok (.istore_n 1, 1) := by decide +kernel
theorem dX9_state_20 : decode cX9_state 20 = .ok (.iconst 0, 1) := by decide +kernel
theorem dX9_state_21 : decode cX9_state 21 = .ok (.istore_n 2, 1) := by decide +kernel
theorem dX9_state_22 : decode cX9_state 22 = .ok (.iload_n 2, 1) := by decide +kernel
theorem dX9_state_23 : decode cX9_state 23 = .ok (.aload_n 0, 1) := by decide +kernel
theorem dX9_state_24 : decode cX9_state 24 = .ok (.getfield 23, 3) := by decide +kernel
theorem dX9_state_27 : decode cX9_state 27 = .ok (.iconst 2, 1) := by decide +kernel
theorem dX9_state_28 : decode cX9_state 28 = .ok (.iaload, 1) := by decide +kernel
theorem dX9_state_29 : decode cX9_state 29 = .ok (.if_icmp .ge 25, 3) := by decide +kernel
theorem dX9_state_32 : decode cX9_state 32 = .ok (.iload_n 1, 1) := by decide +kernel
theorem dX9_state_33 : decode cX9_state 33 = .ok (.aload_n 0, 1) := by decide +kernel
theorem dX9_state_34 : decode cX9_state 34 = .ok (.getfield 23, 3) := by decide +kernel
theorem dX9_state_37 : decode cX9_state 37 = .ok (.bipush 10, 2) := by decide +kernel
theorem dX9_state_39 : decode cX9_state 39 = .ok (.iload_n 2, 1) := by decide +kernel
theorem dX9_state_40 : decode cX9_state 40 = .ok (.iadd, 1) := by decide +kernel
theorem dX9_state_41 : decode cX9_state 41 = .ok (.iaload, 1) := by decide +kernel
theorem dX9_state_42 : decode cX9_state 42 = .ok (.iconst 2, 1) := by decide +kernel
theorem dX9_state_43 : decode cX9_state 43 = .ok (.iload_n 2, 1) := by decide +kernel
theorem dX9_state_44 : decode cX9_state 44 = .ok (.imul, 1) := by decide +kernel
theorem dX9_state_45 : decode cX9_state 45 = .ok (.ishl, 1) := by decide +kernel
theorem dX9_state_46 : decode cX9_state 46 = .ok (.iadd, 1) := by decide +kernel
theorem dX9_state_47 : decode cX9_state 47 = .ok (.istore_n 1, 1) := by decide +kernel
theorem dX9_state_48 : decode cX9_state 48 = .ok (.iinc 2 1, 3) := by decide +kernel
theorem dX9_state_51 : decode cX9_state 51 = .ok (.goto (-29), 3) := by decide +kernel
theorem dX9_state_54 : decode cX9_state 54 = .ok (.iload_n 1, 1) := by decide +kernel
theorem dX9_state_55 : decode cX9_state 55 = .ok (.ireturn, 1) := by decide +kernel
def L_X9_state_22 (N : Nat) (σ : Hp) (v0 : Nat) : Nat → Int32 → Int32 → Option (Int32)
  | 0, _, _ => none
  | n + 1, v1, v2 =>
  (gR N σ v0 9 10).bind fun x4 =>
  (aI 0 N σ x4 2).bind fun x5 =>
  if x5 ≤ v2 then
   some v1
  else
   (gR N σ v0 9 10).bind fun x7 =>
  (aI 0 N σ x7 ((10 : Int32) + v2)).bind fun x8 =>
  lt (v1 + (x8 <<< (((2 : Int32) * v2) &&& 31))) fun y9 =>
  L_X9_state_22 N σ v0 n y9 (v2 + 1)
def m_X9_state (N : Nat) (σ : Hp) (t0 : Nat) : Option (Int32) :=
  (rv N σ t0 9).bind fun _ =>
  (gR N σ t0 9 10).bind fun x1 =>
  (aI 0 N σ x1 3).bind fun x2 =>
  ((if (x2 - x2 / 2 * 2) = 1 then
   some 4096
  else
   some 0) : Option (Int32)).bind fun z3 =>
  (L_X9_state_22 N σ t0 fu z3 0).bind fun z10 =>
  some z10
set_option maxHeartbeats 4000000 in
set_option maxRecDepth 100000 in
theorem lp_X9_state_22 {κ : Kx} {ω : Om} (C : Cx κ 3 0 cX9_state RX9 "state") (Z : Zx κ ω) (σ : Hp) (v0 : Nat) {r : Int32} (hk : X κ 3 ω 54 [none, some (.int r), none] [] σ) : ∀ (n : Nat) (v1 : Int32) (v2 : Int32), L_X9_state_22 ω.1 σ v0 n v1 v2 = some r → X κ 3 ω 22 [some (.ref v0), some (.int v1), some (.int v2)] [] σ := by
  intro n
  induction n with
  | zero => intro v1 v2 h; cases h
  | succ n ih =>
    intro v1 v2 h
    rw [L_X9_state_22.eq_2] at h
    refine x_iload_n C (i := 2) dX9_state_22 rfl rfl ?_
    refine x_aload_n C (i := 0) dX9_state_23 rfl rfl ?_
    obtain ⟨x4, ex4, h⟩ := ob h
    refine x_getR C fl_X9_23 dX9_state_24 ex4 ?_
    refine x_iconst C (v := 2) dX9_state_27 (by decide) ?_
    obtain ⟨x5, ex5, h⟩ := ob h
    refine x_iald C dX9_state_28 ex5 ?_
    refine x_icmp_ge C (tgt := 54) dX9_state_29 (by decide) (fun c6 => ?_) (fun c6 => ?_)
    · have h := ifP h c6
      refine x_wk [false, true, false] (lo' := [none, some (.int v1), none]) rfl ?_
      obtain rfl := Option.some.inj h
      exact hk
    · have h := ifN h c6
      refine x_iload_n C (i := 1) dX9_state_32 rfl rfl ?_
      refine x_aload_n C (i := 0) dX9_state_33 rfl rfl ?_
      obtain ⟨x7, ex7, h⟩ := ob h
      refine x_getR C fl_X9_23 dX9_state_34 ex7 ?_
      refine x_bipush C (v := 10) dX9_state_37 (by decide) ?_
      refine x_iload_n C (i := 2) dX9_state_39 rfl rfl ?_
      refine x_iadd C dX9_state_40 ?_
      obtain ⟨x8, ex8, h⟩ := ob h
      refine x_iald C dX9_state_41 ex8 ?_
      refine x_iconst C (v := 2) dX9_state_42 (by decide) ?_
      refine x_iload_n C (i := 2) dX9_state_43 rfl rfl ?_
      refine x_imul C dX9_state_44 ?_
      refine x_ishl C dX9_state_45 ?_
      refine x_iadd C dX9_state_46 ?_
      refine x_topi (fun y9 ey9 => ?_)
      have h := lt_e h ey9
      refine x_istore_n C (i := 1) (lo' := [some (.ref v0), some (.int y9), some (.int v2)]) dX9_state_47 rfl (by decide) rfl rfl ?_
      refine x_iinc C (i := 2) (y := v2 + 1) (lo' := [some (.ref v0), some (.int y9), some (.int (v2 + 1))]) dX9_state_48 rfl rfl (by decide) rfl rfl ?_
      refine x_goto C (tgt := 22) dX9_state_51 (by decide) ?_
      refine x_wk [true, true, true] (lo' := [some (.ref v0), some (.int y9), some (.int (v2 + 1))]) rfl ?_
      exact ih y9 (v2 + 1) h
set_option maxHeartbeats 4000000 in
set_option maxRecDepth 100000 in
theorem ct_X9_state {l : Launch} {D : va_G} {cy : Nat → Nat} {N : Nat} {σ : Hp} {t0 : Nat} {r : Int32} (h : m_X9_state N σ t0 = some r) : Ct l D cy yX9_state cX9_state 3 (some .int) 0 [.ref t0] N σ (fun v s' => v = (some (.int r)) ∧ s' = σ) := by
  refine Ct.intro [some (.ref t0), none, none] (by decide) rfl (Nat.le_of_ble_eq_true rfl) ?_
  intro κ ω e1 e2 e3 e4 C Z E
  subst e1; subst e2; subst e3; subst e4
  have C : Cx κ 3 0 cX9_state RX9 "state" := C
  have hE : ∀ x : Int32, r = x → ((some (Value.int x)) = (some (Value.int r)) ∧ σ = σ) := fun x hx => by subst hx; exact ⟨rfl, rfl⟩
  unfold m_X9_state at h
  obtain ⟨_, _, h⟩ := ob h
  refine x_aload_n C (i := 0) dX9_state_0 rfl rfl ?_
  obtain ⟨x1, ex1, h⟩ := ob h
  refine x_getR C fl_X9_23 dX9_state_1 ex1 ?_
  refine x_iconst C (v := 3) dX9_state_4 (by decide) ?_
  obtain ⟨x2, ex2, h⟩ := ob h
  refine x_iald C dX9_state_5 ex2 ?_
  refine x_iconst C (v := 2) dX9_state_6 (by decide) ?_
  refine x_irem C dX9_state_7 (by decide) ?_
  refine x_iconst C (v := 1) dX9_state_8 (by decide) ?_
  obtain ⟨z3, hz3, h⟩ := ob h
  have hJ11 : X κ 3 ω 19 [some (.ref t0), none, none] [.int z3] σ := by
    refine x_istore_n C (i := 1) (lo' := [some (.ref t0), some (.int z3), none]) dX9_state_19 rfl (by decide) rfl rfl ?_
    refine x_iconst C (v := 0) dX9_state_20 (by decide) ?_
    refine x_istore_n C (i := 2) (lo' := [some (.ref t0), some (.int z3), some (.int 0)]) dX9_state_21 rfl (by decide) rfl rfl ?_
    obtain ⟨z10, ez10, h⟩ := ob h
    refine x_wk [true, true, true] (lo' := [some (.ref t0), some (.int z3), some (.int 0)]) rfl ?_
    refine lp_X9_state_22 C Z σ t0 ?_ _ z3 0 ez10
    refine x_iload_n C (i := 1) dX9_state_54 rfl rfl ?_
    exact x_iret C E dX9_state_55 (hE z10 (Option.some.inj h).symm)
  clear h
  have h := hz3
  refine x_icmp_ne C (tgt := 18) dX9_state_9 (by decide) (fun c13 => ?_) (fun c13 => ?_)
  · have h := ifN h c13
    refine x_iconst C (v := 0) dX9_state_18 (by decide) ?_
    refine x_wk [true, false, false] (lo' := [some (.ref t0), none, none]) rfl ?_
    obtain rfl := Option.some.inj h
    exact hJ11
  · have h := ifP h c13
    refine x_sipush C (v := 4096) dX9_state_12 (by decide) ?_
    refine x_goto C (tgt := 19) dX9_state_15 (by decide) ?_
    refine x_wk [true, false, false] (lo' := [some (.ref t0), none, none]) rfl ?_
    obtain rfl := Option.some.inj h
    exact hJ11
theorem dX9_pegIn_0 : decode cX9_pegIn 0 = .ok (.iload_n 0, 1) := by decide +kernel
theorem dX9_pegIn_1 : decode cX9_pegIn 1 = .ok (.iconst 2, 1) := by decide +kernel
theorem dX9_pegIn_2 : decode cX9_pegIn 2 = .ok (.iload_n 1, 1) := by decide +kernel
theorem dX9_pegIn_3 : decode cX9_pegIn 3 = .ok (.imul, 1) := by decide +kernel
theorem dX9_pegIn_4 : decode cX9_pegIn 4 = .ok (.ishr, 1) := by decide +kernel
theorem dX9_pegIn_5 : decode cX9_pegIn 5 = .ok (.iconst 3, 1) := by decide +kernel
theorem dX9_pegIn_6 : decode cX9_pegIn 6 = .ok (.iand, 1) := by decide +kernel
theorem dX9_pegIn_7 : decode cX9_pegIn 7 = .ok (.ireturn, 1) := by decide +kernel
def m_X9_pegIn (p0 : Int32) (p1 : Int32) : Option (Int32) :=
  some ((p0 >>> (((2 : Int32) * p1) &&& 31)) &&& 3)
set_option maxHeartbeats 4000000 in
set_option maxRecDepth 100000 in
theorem ct_X9_pegIn {l : Launch} {D : va_G} {cy : Nat → Nat} {N : Nat} {σ : Hp} {p0 : Int32} {p1 : Int32} {r : Int32} (h : m_X9_pegIn p0 p1 = some r) : Ct l D cy yX9_pegIn cX9_pegIn 2 (some .int) 0 [.int p0, .int p1] N σ (fun v s' => v = (some (.int r)) ∧ s' = σ) := by
  refine Ct.intro [some (.int p0), some (.int p1)] (by decide) rfl (Nat.le_of_ble_eq_true rfl) ?_
  intro κ ω e1 e2 e3 e4 C Z E
  subst e1; subst e2; subst e3; subst e4
  have C : Cx κ 2 0 cX9_pegIn RX9 "pegIn" := C
  have hE : ∀ x : Int32, r = x → ((some (Value.int x)) = (some (Value.int r)) ∧ σ = σ) := fun x hx => by subst hx; exact ⟨rfl, rfl⟩
  unfold m_X9_pegIn at h
  refine x_iload_n C (i := 0) dX9_pegIn_0 rfl rfl ?_
  refine x_iconst C (v := 2) dX9_pegIn_1 (by decide) ?_
  refine x_iload_n C (i := 1) dX9_pegIn_2 rfl rfl ?_
  refine x_imul C dX9_pegIn_3 ?_
  refine x_ishr C dX9_pegIn_4 ?_
  refine x_iconst C (v := 3) dX9_pegIn_5 (by decide) ?_
  refine x_iand C dX9_pegIn_6 ?_
  exact x_iret C E dX9_pegIn_7 (hE ((p0 >>> (((2 : Int32) * p1) &&& 31)) &&& 3) (Option.some.inj h).symm)
theorem dX9_codeOf_0 : decode cX9_codeOf 0 = .ok (.iconst 0, 1) := by decide +kernel
theorem dX9_codeOf_1 : decode cX9_codeOf 1 = .ok (.istore_n 2, 1) := by decide +kernel
theorem dX9_codeOf_2 : decode cX9_codeOf 2 = .ok (.aload_n 0, 1) := by decide +kernel
theorem dX9_codeOf_3 : decode cX9_codeOf 3 = .ok (.getfield 23, 3) := by decide +kernel
theorem dX9_codeOf_6 : decode cX9_codeOf 6 = .ok (.iconst 2, 1) := by decide +kernel
theorem dX9_codeOf_7 : decode cX9_codeOf 7 = .ok (.iaload, 1) := by decide +kernel
theorem dX9_codeOf_8 : decode cX9_codeOf 8 = .ok (.iconst 1, 1) := by decide +kernel
theorem dX9_codeOf_9 : decode cX9_codeOf 9 = .ok (.isub, 1) := by decide +kernel
theorem dX9_codeOf_10 : decode cX9_codeOf 10 = .ok (.istore_n 3, 1) := by decide +kernel
theorem dX9_codeOf_11 : decode cX9_codeOf 11 = .ok (.iload_n 3, 1) := by decide +kernel
theorem dX9_codeOf_12 : decode cX9_codeOf 12 = .ok (.ifCond .lt 20, 3) := by decide +kernel
theorem dX9_codeOf_15 : decode cX9_codeOf 15 = .ok (.bipush 10, 2) := by decide +kernel
theorem dX9_codeOf_17 : decode cX9_codeOf 17 = .ok (.iload_n 2, 1) := by decide +kernel
theorem dX9_codeOf_18 : decode cX9_codeOf 18 = .ok (.imul, 1) := by decide +kernel
theorem dX9_codeOf_19 : decode cX9_codeOf 19 = .ok (.iload_n 1, 1) := by decide +kernel
theorem dX9_codeOf_20 : decode cX9_codeOf 20 = .ok (.iload_n 3, 1) := by decide +kernel
theorem dX9_codeOf_21 : decode cX9_codeOf 21 = .ok (.invokestatic 135, 3) := by decide +kernel
theorem dX9_codeOf_24 : decode cX9_codeOf 24 = .ok (.iadd, 1) := by decide +kernel
theorem dX9_codeOf_25 : decode cX9_codeOf 25 = .ok (.istore_n 2, 1) := by decide +kernel
theorem dX9_codeOf_26 : decode cX9_codeOf 26 = .ok (.iinc 3 (-1), 3) := by decide +kernel
theorem dX9_codeOf_29 : decode cX9_codeOf 29 = .ok (.goto (-18), 3) := by decide +kernel
theorem dX9_codeOf_32 : decode cX9_codeOf 32 = .ok (.iload_n 2, 1) := by decide +kernel
theorem dX9_codeOf_33 : decode cX9_codeOf 33 = .ok (.ireturn, 1) := by decide +kernel
def L_X9_codeOf_11 (N : Nat) (σ : Hp) (v1 : Int32) : Nat → Int32 → Int32 → Option (Int32)
  | 0, _, _ => none
  | n + 1, v2, v3 =>
  if v3 < 0 then
   some v2
  else
   (m_X9_pegIn v1 v3).bind fun r4 =>
  L_X9_codeOf_11 N σ v1 n (((10 : Int32) * v2) + r4) (v3 + (-1))
def m_X9_codeOf (N : Nat) (σ : Hp) (t0 : Nat) (p1 : Int32) : Option (Int32) :=
  (rv N σ t0 9).bind fun _ =>
  (gR N σ t0 9 10).bind fun x1 =>
  (aI 0 N σ x1 2).bind fun x2 =>
  (L_X9_codeOf_11 N σ p1 fu 0 (x2 - 1)).bind fun z5 =>
  some z5
set_option maxHeartbeats 4000000 in
set_option maxRecDepth 100000 in
theorem lp_X9_codeOf_11 {κ : Kx} {ω : Om} (C : Cx κ 4 1 cX9_codeOf RX9 "codeOf") (Z : Zx κ ω) (σ : Hp) (v1 : Int32) {r : Int32} (hk : X κ 4 ω 32 [none, none, some (.int r), none] [] σ) : ∀ (n : Nat) (v2 : Int32) (v3 : Int32), L_X9_codeOf_11 ω.1 σ v1 n v2 v3 = some r → X κ 4 ω 11 [none, some (.int v1), some (.int v2), some (.int v3)] [] σ := by
  intro n
  induction n with
  | zero => intro v2 v3 h; cases h
  | succ n ih =>
    intro v2 v3 h
    rw [L_X9_codeOf_11.eq_2] at h
    refine x_iload_n C (i := 3) dX9_codeOf_11 rfl rfl ?_
    refine x_if_lt C (tgt := 32) dX9_codeOf_12 (by decide) (fun c3 => ?_) (fun c3 => ?_)
    · have h := ifP h c3
      refine x_wk [false, false, true, false] (lo' := [none, none, some (.int v2), none]) rfl ?_
      obtain rfl := Option.some.inj h
      exact hk
    · have h := ifN h c3
      refine x_bipush C (v := 10) dX9_codeOf_15 (by decide) ?_
      refine x_iload_n C (i := 2) dX9_codeOf_17 rfl rfl ?_
      refine x_imul C dX9_codeOf_18 ?_
      refine x_iload_n C (i := 1) dX9_codeOf_19 rfl rfl ?_
      refine x_iload_n C (i := 3) dX9_codeOf_20 rfl rfl ?_
      obtain ⟨r4, er4, h⟩ := ob h
      refine x_callSr C Z ms_X9_pegIn lk_X9_135 (ct_X9_pegIn (N := ω.1) (σ := σ) er4) (by decide) rfl rfl (Nat.le_of_ble_eq_true rfl) dX9_codeOf_21 ?_
      refine x_iadd C dX9_codeOf_24 ?_
      refine x_istore_n C (i := 2) (lo' := [none, some (.int v1), some (.int (((10 : Int32) * v2) + r4)), some (.int v3)]) dX9_codeOf_25 rfl (by decide) rfl rfl ?_
      refine x_iinc C (i := 3) (y := v3 + (-1)) (lo' := [none, some (.int v1), some (.int (((10 : Int32) * v2) + r4)), some (.int (v3 + (-1)))]) dX9_codeOf_26 rfl rfl (by decide) rfl rfl ?_
      refine x_goto C (tgt := 11) dX9_codeOf_29 (by decide) ?_
      refine x_wk [false, true, true, true] (lo' := [none, some (.int v1), some (.int (((10 : Int32) * v2) + r4)), some (.int (v3 + (-1)))]) rfl ?_
      exact ih (((10 : Int32) * v2) + r4) (v3 + (-1)) h
set_option maxHeartbeats 4000000 in
set_option maxRecDepth 100000 in
theorem ct_X9_codeOf {l : Launch} {D : va_G} {cy : Nat → Nat} {N : Nat} {σ : Hp} {t0 : Nat} {p1 : Int32} {r : Int32} (h : m_X9_codeOf N σ t0 p1 = some r) : Ct l D cy yX9_codeOf cX9_codeOf 4 (some .int) 1 [.ref t0, .int p1] N σ (fun v s' => v = (some (.int r)) ∧ s' = σ) := by
  refine Ct.intro [some (.ref t0), some (.int p1), none, none] (by decide) rfl (Nat.le_of_ble_eq_true rfl) ?_
  intro κ ω e1 e2 e3 e4 C Z E
  subst e1; subst e2; subst e3; subst e4
  have C : Cx κ 4 1 cX9_codeOf RX9 "codeOf" := C
  have hE : ∀ x : Int32, r = x → ((some (Value.int x)) = (some (Value.int r)) ∧ σ = σ) := fun x hx => by subst hx; exact ⟨rfl, rfl⟩
  unfold m_X9_codeOf at h
  obtain ⟨_, _, h⟩ := ob h
  refine x_iconst C (v := 0) dX9_codeOf_0 (by decide) ?_
  refine x_istore_n C (i := 2) (lo' := [some (.ref t0), some (.int p1), some (.int 0), none]) dX9_codeOf_1 rfl (by decide) rfl rfl ?_
  refine x_aload_n C (i := 0) dX9_codeOf_2 rfl rfl ?_
  obtain ⟨x1, ex1, h⟩ := ob h
  refine x_getR C fl_X9_23 dX9_codeOf_3 ex1 ?_
  refine x_iconst C (v := 2) dX9_codeOf_6 (by decide) ?_
  obtain ⟨x2, ex2, h⟩ := ob h
  refine x_iald C dX9_codeOf_7 ex2 ?_
  refine x_iconst C (v := 1) dX9_codeOf_8 (by decide) ?_
  refine x_isub C dX9_codeOf_9 ?_
  refine x_istore_n C (i := 3) (lo' := [some (.ref t0), some (.int p1), some (.int 0), some (.int (x2 - 1))]) dX9_codeOf_10 rfl (by decide) rfl rfl ?_
  obtain ⟨z5, ez5, h⟩ := ob h
  refine x_wk [false, true, true, true] (lo' := [none, some (.int p1), some (.int 0), some (.int (x2 - 1))]) rfl ?_
  refine lp_X9_codeOf_11 C Z σ p1 ?_ _ 0 (x2 - 1) ez5
  refine x_iload_n C (i := 2) dX9_codeOf_32 rfl rfl ?_
  exact x_iret C E dX9_codeOf_33 (hE z5 (Option.some.inj h).symm)
theorem dX9_lying_0 : decode cX9_lying 0 = .ok (.iconst 0, 1) := by decide +kernel
theorem dX9_lying_1 : decode cX9_lying 1 = .ok (.istore_n 3, 1) := by decide +kernel
theorem dX9_lying_2 : decode cX9_lying 2 = .ok (.iconst 0, 1) := by decide +kernel
theorem dX9_lying_3 : decode cX9_lying 3 = .ok (.istore 4, 2) := by decide +kernel
theorem dX9_lying_5 : decode cX9_lying 5 = .ok (.iload 4, 2) := by decide +kernel
theorem dX9_lying_7 : decode cX9_lying 7 = .ok (.aload_n 0, 1) := by decide +kernel
theorem dX9_lying_8 : decode cX9_lying 8 = .ok (.getfield 23, 3) := by decide +kernel
theorem dX9_lying_11 : decode cX9_lying 11 = .ok (.iconst 2, 1) := by decide +kernel
theorem dX9_lying_12 : decode cX9_lying 12 = .ok (.iaload, 1) := by decide +kernel
theorem dX9_lying_13 : decode cX9_lying 13 = .ok (.if_icmp .ge 30, 3) := by decide +kernel
theorem dX9_lying_16 : decode cX9_lying 16 = .ok (.iload_n 3, 1) := by decide +kernel
theorem dX9_lying_17 : decode cX9_lying 17 = .ok (.iload_n 1, 1) := by decide +kernel
theorem dX9_lying_18 : decode cX9_lying 18 = .ok (.iload 4, 2) := by decide +kernel
theorem dX9_lying_20 : decode cX9_lying 20 = .ok (.invokestatic 135, 3) := by decide +kernel
theorem dX9_lying_23 : decode cX9_lying 23 = .ok (.iload_n 2, 1) := by decide +kernel
theorem dX9_lying_24 : decode cX9_lying 24 = .ok (.if_icmp .ne 10, 3) := by decide +kernel
theorem dX9_lying_27 : decode cX9_lying 27 = .ok (.iconst 1, 1) := by decide +kernel
theorem dX9_lying_28 : decode cX9_lying 28 = .ok (.iload 4, 2) := by decide +kernel
theorem dX9_lying_30 : decode cX9_lying 30 = .ok (.ishl, 1) := by decide +kernel
theorem dX9_lying_31 : decode cX9_lying 31 = .ok (.goto 4, 3) := by decide +kernel
theorem dX9_lying_34 : decode cX9_lying 34 = .ok (.iconst 0, 1) := by decide +kernel
theorem dX9_lying_35 : decode cX9_lying 35 = .ok (.ior, 1) := by decide +kernel
theorem dX9_lying_36 : decode cX9_lying 36 = .ok (.istore_n 3, 1) := by decide +kernel
theorem dX9_lying_37 : decode cX9_lying 37 = .ok (.iinc 4 1, 3) := by decide +kernel
theorem dX9_lying_40 : decode cX9_lying 40 = .ok (.goto (-35), 3) := by decide +kernel
theorem dX9_lying_43 : decode cX9_lying 43 = .ok (.iload_n 3, 1) := by decide +kernel
theorem dX9_lying_44 : decode cX9_lying 44 = .ok (.ireturn, 1) := by decide +kernel
def L_X9_lying_5 (N : Nat) (σ : Hp) (v0 : Nat) (v1 : Int32) (v2 : Int32) : Nat → Int32 → Int32 → Option (Int32)
  | 0, _, _ => none
  | n + 1, v3, v4 =>
  (gR N σ v0 9 10).bind fun x1 =>
  (aI 0 N σ x1 2).bind fun x2 =>
  if x2 ≤ v4 then
   some v3
  else
   (m_X9_pegIn v1 v4).bind fun r4 =>
  if r4 = v2 then
   lt (v3 ||| ((1 : Int32) <<< (v4 &&& 31))) fun y6 =>
  L_X9_lying_5 N σ v0 v1 v2 n y6 (v4 + 1)
  else
   L_X9_lying_5 N σ v0 v1 v2 n (v3 ||| 0) (v4 + 1)
def m_X9_lying (N : Nat) (σ : Hp) (t0 : Nat) (p1 : Int32) (p2 : Int32) : Option (Int32) :=
  (rv N σ t0 9).bind fun _ =>
  (L_X9_lying_5 N σ t0 p1 p2 fu 0 0).bind fun z7 =>
  some z7
set_option maxHeartbeats 4000000 in
set_option maxRecDepth 100000 in
theorem lp_X9_lying_5 {κ : Kx} {ω : Om} (C : Cx κ 5 1 cX9_lying RX9 "lying") (Z : Zx κ ω) (σ : Hp) (v0 : Nat) (v1 : Int32) (v2 : Int32) {r : Int32} (hk : X κ 5 ω 43 [none, none, none, some (.int r), none] [] σ) : ∀ (n : Nat) (v3 : Int32) (v4 : Int32), L_X9_lying_5 ω.1 σ v0 v1 v2 n v3 v4 = some r → X κ 5 ω 5 [some (.ref v0), some (.int v1), some (.int v2), some (.int v3), some (.int v4)] [] σ := by
  intro n
  induction n with
  | zero => intro v3 v4 h; cases h
  | succ n ih =>
    intro v3 v4 h
    rw [L_X9_lying_5.eq_2] at h
    refine x_iload C (i := 4) dX9_lying_5 rfl ?_
    refine x_aload_n C (i := 0) dX9_lying_7 rfl rfl ?_
    obtain ⟨x1, ex1, h⟩ := ob h
    refine x_getR C fl_X9_23 dX9_lying_8 ex1 ?_
    refine x_iconst C (v := 2) dX9_lying_11 (by decide) ?_
    obtain ⟨x2, ex2, h⟩ := ob h
    refine x_iald C dX9_lying_12 ex2 ?_
    refine x_icmp_ge C (tgt := 43) dX9_lying_13 (by decide) (fun c3 => ?_) (fun c3 => ?_)
    · have h := ifP h c3
      refine x_wk [false, false, false, true, false] (lo' := [none, none, none, some (.int v3), none]) rfl ?_
      obtain rfl := Option.some.inj h
      exact hk
    · have h := ifN h c3
      refine x_iload_n C (i := 3) dX9_lying_16 rfl rfl ?_
      refine x_iload_n C (i := 1) dX9_lying_17 rfl rfl ?_
      refine x_iload C (i := 4) dX9_lying_18 rfl ?_
      obtain ⟨r4, er4, h⟩ := ob h
      refine x_callSr C Z ms_X9_pegIn lk_X9_135 (ct_X9_pegIn (N := ω.1) (σ := σ) er4) (by decide) rfl rfl (Nat.le_of_ble_eq_true rfl) dX9_lying_20 ?_
      refine x_iload_n C (i := 2) dX9_lying_23 rfl rfl ?_
      refine x_icmp_ne C (tgt := 34) dX9_lying_24 (by decide) (fun c5 => ?_) (fun c5 => ?_)
      · have h := ifN h c5
        refine x_iconst C (v := 0) dX9_lying_34 (by decide) ?_
        refine x_ior C dX9_lying_35 ?_
        refine x_istore_n C (i := 3) (lo' := [some (.ref v0), some (.int v1), some (.int v2), some (.int (v3 ||| 0)), some (.int v4)]) dX9_lying_36 rfl (by decide) rfl rfl ?_
        refine x_iinc C (i := 4) (y := v4 + 1) (lo' := [some (.ref v0), some (.int v1), some (.int v2), some (.int (v3 ||| 0)), some (.int (v4 + 1))]) dX9_lying_37 rfl rfl (by decide) rfl rfl ?_
        refine x_goto C (tgt := 5) dX9_lying_40 (by decide) ?_
        refine x_wk [true, true, true, true, true] (lo' := [some (.ref v0), some (.int v1), some (.int v2), some (.int (v3 ||| 0)), some (.int (v4 + 1))]) rfl ?_
        exact ih (v3 ||| 0) (v4 + 1) h
      · have h := ifP h c5
        refine x_iconst C (v := 1) dX9_lying_27 (by decide) ?_
        refine x_iload C (i := 4) dX9_lying_28 rfl ?_
        refine x_ishl C dX9_lying_30 ?_
        refine x_goto C (tgt := 35) dX9_lying_31 (by decide) ?_
        refine x_ior C dX9_lying_35 ?_
        refine x_topi (fun y6 ey6 => ?_)
        have h := lt_e h ey6
        refine x_istore_n C (i := 3) (lo' := [some (.ref v0), some (.int v1), some (.int v2), some (.int y6), some (.int v4)]) dX9_lying_36 rfl (by decide) rfl rfl ?_
        refine x_iinc C (i := 4) (y := v4 + 1) (lo' := [some (.ref v0), some (.int v1), some (.int v2), some (.int y6), some (.int (v4 + 1))]) dX9_lying_37 rfl rfl (by decide) rfl rfl ?_
        refine x_goto C (tgt := 5) dX9_lying_40 (by decide) ?_
        refine x_wk [true, true, true, true, true] (lo' := [some (.ref v0), some (.int v1), some (.int v2), some (.int y6), some (.int (v4 + 1))]) rfl ?_
        exact ih y6 (v4 + 1) h
set_option maxHeartbeats 4000000 in
set_option maxRecDepth 100000 in
theorem ct_X9_lying {l : Launch} {D : va_G} {cy : Nat → Nat} {N : Nat} {σ : Hp} {t0 : Nat} {p1 : Int32} {p2 : Int32} {r : Int32} (h : m_X9_lying N σ t0 p1 p2 = some r) : Ct l D cy yX9_lying cX9_lying 5 (some .int) 1 [.ref t0, .int p1, .int p2] N σ (fun v s' => v = (some (.int r)) ∧ s' = σ) := by
  refine Ct.intro [some (.ref t0), some (.int p1), some (.int p2), none, none] (by decide) rfl (Nat.le_of_ble_eq_true rfl) ?_
  intro κ ω e1 e2 e3 e4 C Z E
  subst e1; subst e2; subst e3; subst e4
  have C : Cx κ 5 1 cX9_lying RX9 "lying" := C
  have hE : ∀ x : Int32, r = x → ((some (Value.int x)) = (some (Value.int r)) ∧ σ = σ) := fun x hx => by subst hx; exact ⟨rfl, rfl⟩
  unfold m_X9_lying at h
  obtain ⟨_, _, h⟩ := ob h
  refine x_iconst C (v := 0) dX9_lying_0 (by decide) ?_
  refine x_istore_n C (i := 3) (lo' := [some (.ref t0), some (.int p1), some (.int p2), some (.int 0), none]) dX9_lying_1 rfl (by decide) rfl rfl ?_
  refine x_iconst C (v := 0) dX9_lying_2 (by decide) ?_
  refine x_istore C (i := 4) (lo' := [some (.ref t0), some (.int p1), some (.int p2), some (.int 0), some (.int 0)]) dX9_lying_3 (by decide) rfl rfl ?_
  obtain ⟨z7, ez7, h⟩ := ob h
  refine x_wk [true, true, true, true, true] (lo' := [some (.ref t0), some (.int p1), some (.int p2), some (.int 0), some (.int 0)]) rfl ?_
  refine lp_X9_lying_5 C Z σ t0 p1 p2 ?_ _ 0 0 ez7
  refine x_iload_n C (i := 3) dX9_lying_43 rfl rfl ?_
  exact x_iret C E dX9_lying_44 (hE z7 (Option.some.inj h).symm)
theorem dX9_bits_0 : decode cX9_bits 0 = .ok (.iconst 0, 1) := by decide +kernel
theorem dX9_bits_1 : decode cX9_bits 1 = .ok (.istore_n 1, 1) := by decide +kernel
theorem dX9_bits_2 : decode cX9_bits 2 = .ok (.iconst 0, 1) := by decide +kernel
theorem dX9_bits_3 : decode cX9_bits 3 = .ok (.istore_n 2, 1) := by decide +kernel
theorem dX9_bits_4 : decode cX9_bits 4 = .ok (.iload_n 2, 1) := by decide +kernel
theorem dX9_bits_5 : decode cX9_bits 5 = .ok (.bipush 6, 2) := by decide +kernel
theorem dX9_bits_7 : decode cX9_bits 7 = .ok (.if_icmp .ge 17, 3) := by decide +kernel
theorem dX9_bits_10 : decode cX9_bits 10 = .ok (.iload_n 1, 1) := by decide +kernel
theorem dX9_bits_11 : decode cX9_bits 11 = .ok (.iload_n 0, 1) := by decide +kernel
theorem dX9_bits_12 : decode cX9_bits 12 = .ok (.iload_n 2, 1) := by decide +kernel
theorem dX9_bits_13 : decode cX9_bits 13 = .ok (.ishr, 1) := by decide +kernel
theorem dX9_bits_14 : decode cX9_bits 14 = .ok (.iconst 1, 1) := by decide +kernel
theorem dX9_bits_15 : decode cX9_bits 15 = .ok (.iand, 1) := by decide +kernel
theorem dX9_bits_16 : decode cX9_bits 16 = .ok (.iadd, 1) := by decide +kernel
theorem dX9_bits_17 : decode cX9_bits 17 = .ok (.istore_n 1, 1) := by decide +kernel
theorem dX9_bits_18 : decode cX9_bits 18 = .ok (.iinc 2 1, 3) := by decide +kernel
theorem dX9_bits_21 : decode cX9_bits 21 = .ok (.goto (-17), 3) := by decide +kernel
theorem dX9_bits_24 : decode cX9_bits 24 = .ok (.iload_n 1, 1) := by decide +kernel
theorem dX9_bits_25 : decode cX9_bits 25 = .ok (.ireturn, 1) := by decide +kernel
def L_X9_bits_4 (v0 : Int32) : Nat → Int32 → Int32 → Option (Int32)
  | 0, _, _ => none
  | n + 1, v1, v2 =>
  if 6 ≤ v2 then
   some v1
  else
   lt (v1 + ((v0 >>> (v2 &&& 31)) &&& 1)) fun y2 =>
  L_X9_bits_4 v0 n y2 (v2 + 1)
def m_X9_bits (p0 : Int32) : Option (Int32) :=
  (L_X9_bits_4 p0 fu 0 0).bind fun z3 =>
  some z3
set_option maxHeartbeats 4000000 in
set_option maxRecDepth 100000 in
theorem lp_X9_bits_4 {κ : Kx} {ω : Om} (C : Cx κ 3 0 cX9_bits RX9 "bits") (Z : Zx κ ω) {σ : Hp} (v0 : Int32) {r : Int32} (hk : X κ 3 ω 24 [none, some (.int r), none] [] σ) : ∀ (n : Nat) (v1 : Int32) (v2 : Int32), L_X9_bits_4 v0 n v1 v2 = some r → X κ 3 ω 4 [some (.int v0), some (.int v1), some (.int v2)] [] σ := by
  intro n
  induction n with
  | zero => intro v1 v2 h; cases h
  | succ n ih =>
    intro v1 v2 h
    rw [L_X9_bits_4.eq_2] at h
    refine x_iload_n C (i := 2) dX9_bits_4 rfl rfl ?_
    refine x_bipush C (v := 6) dX9_bits_5 (by decide) ?_
    refine x_icmp_ge C (tgt := 24) dX9_bits_7 (by decide) (fun c1 => ?_) (fun c1 => ?_)
    · have h := ifP h c1
      refine x_wk [false, true, false] (lo' := [none, some (.int v1), none]) rfl ?_
      obtain rfl := Option.some.inj h
      exact hk
    · have h := ifN h c1
      refine x_iload_n C (i := 1) dX9_bits_10 rfl rfl ?_
      refine x_iload_n C (i := 0) dX9_bits_11 rfl rfl ?_
      refine x_iload_n C (i := 2) dX9_bits_12 rfl rfl ?_
      refine x_ishr C dX9_bits_13 ?_
      refine x_iconst C (v := 1) dX9_bits_14 (by decide) ?_
      refine x_iand C dX9_bits_15 ?_
      refine x_iadd C dX9_bits_16 ?_
      refine x_topi (fun y2 ey2 => ?_)
      have h := lt_e h ey2
      refine x_istore_n C (i := 1) (lo' := [some (.int v0), some (.int y2), some (.int v2)]) dX9_bits_17 rfl (by decide) rfl rfl ?_
      refine x_iinc C (i := 2) (y := v2 + 1) (lo' := [some (.int v0), some (.int y2), some (.int (v2 + 1))]) dX9_bits_18 rfl rfl (by decide) rfl rfl ?_
      refine x_goto C (tgt := 4) dX9_bits_21 (by decide) ?_
      refine x_wk [true, true, true] (lo' := [some (.int v0), some (.int y2), some (.int (v2 + 1))]) rfl ?_
      exact ih y2 (v2 + 1) h
set_option maxHeartbeats 4000000 in
set_option maxRecDepth 100000 in
theorem ct_X9_bits {l : Launch} {D : va_G} {cy : Nat → Nat} {N : Nat} {σ : Hp} {p0 : Int32} {r : Int32} (h : m_X9_bits p0 = some r) : Ct l D cy yX9_bits cX9_bits 3 (some .int) 0 [.int p0] N σ (fun v s' => v = (some (.int r)) ∧ s' = σ) := by
  refine Ct.intro [some (.int p0), none, none] (by decide) rfl (Nat.le_of_ble_eq_true rfl) ?_
  intro κ ω e1 e2 e3 e4 C Z E
  subst e1; subst e2; subst e3; subst e4
  have C : Cx κ 3 0 cX9_bits RX9 "bits" := C
  have hE : ∀ x : Int32, r = x → ((some (Value.int x)) = (some (Value.int r)) ∧ σ = σ) := fun x hx => by subst hx; exact ⟨rfl, rfl⟩
  unfold m_X9_bits at h
  refine x_iconst C (v := 0) dX9_bits_0 (by decide) ?_
  refine x_istore_n C (i := 1) (lo' := [some (.int p0), some (.int 0), none]) dX9_bits_1 rfl (by decide) rfl rfl ?_
  refine x_iconst C (v := 0) dX9_bits_2 (by decide) ?_
  refine x_istore_n C (i := 2) (lo' := [some (.int p0), some (.int 0), some (.int 0)]) dX9_bits_3 rfl (by decide) rfl rfl ?_
  obtain ⟨z3, ez3, h⟩ := ob h
  refine x_wk [true, true, true] (lo' := [some (.int p0), some (.int 0), some (.int 0)]) rfl ?_
  refine lp_X9_bits_4 C Z p0 ?_ _ 0 0 ez3
  refine x_iload_n C (i := 1) dX9_bits_24 rfl rfl ?_
  exact x_iret C E dX9_bits_25 (hE z3 (Option.some.inj h).symm)
theorem dX9_lowest_0 : decode cX9_lowest 0 = .ok (.iconst 0, 1) := by decide +kernel
theorem dX9_lowest_1 : decode cX9_lowest 1 = .ok (.istore_n 1, 1) := by decide +kernel
theorem dX9_lowest_2 : decode cX9_lowest 2 = .ok (.iload_n 1, 1) := by decide +kernel
theorem dX9_lowest_3 : decode cX9_lowest 3 = .ok (.bipush 6, 2) := by decide +kernel
theorem dX9_lowest_5 : decode cX9_lowest 5 = .ok (.if_icmp .ge 17, 3) := by decide +kernel
theorem dX9_lowest_8 : decode cX9_lowest 8 = .ok (.iload_n 0, 1) := by decide +kernel
theorem dX9_lowest_9 : decode cX9_lowest 9 = .ok (.iload_n 1, 1) := by decide +kernel
theorem dX9_lowest_10 : decode cX9_lowest 10 = .ok (.invokestatic 138, 3) := by decide +kernel
theorem dX9_lowest_13 : decode cX9_lowest 13 = .ok (.ifCond .ne 9, 3) := by decide +kernel
theorem dX9_lowest_16 : decode cX9_lowest 16 = .ok (.iinc 1 1, 3) := by decide +kernel
theorem dX9_lowest_19 : decode cX9_lowest 19 = .ok (.goto (-17), 3) := by decide +kernel
theorem dX9_lowest_22 : decode cX9_lowest 22 = .ok (.iload_n 1, 1) := by decide +kernel
theorem dX9_lowest_23 : decode cX9_lowest 23 = .ok (.ireturn, 1) := by decide +kernel
def L_X9_lowest_2 (v0 : Int32) : Nat → Int32 → Option (Int32)
  | 0, _ => none
  | n + 1, v1 =>
  if 6 ≤ v1 then
   some v1
  else
   (m_X9_has v0 v1).bind fun r2 =>
  if r2 = 0 then
   L_X9_lowest_2 v0 n (v1 + 1)
  else
   some v1
def m_X9_lowest (p0 : Int32) : Option (Int32) :=
  (L_X9_lowest_2 p0 fu 0).bind fun z4 =>
  some z4
set_option maxHeartbeats 4000000 in
set_option maxRecDepth 100000 in
theorem lp_X9_lowest_2 {κ : Kx} {ω : Om} (C : Cx κ 2 1 cX9_lowest RX9 "lowest") (Z : Zx κ ω) {σ : Hp} (v0 : Int32) {r : Int32} (hk : X κ 2 ω 22 [none, some (.int r)] [] σ) : ∀ (n : Nat) (v1 : Int32), L_X9_lowest_2 v0 n v1 = some r → X κ 2 ω 2 [some (.int v0), some (.int v1)] [] σ := by
  intro n
  induction n with
  | zero => intro v1 h; cases h
  | succ n ih =>
    intro v1 h
    rw [L_X9_lowest_2.eq_2] at h
    refine x_iload_n C (i := 1) dX9_lowest_2 rfl rfl ?_
    refine x_bipush C (v := 6) dX9_lowest_3 (by decide) ?_
    refine x_icmp_ge C (tgt := 22) dX9_lowest_5 (by decide) (fun c1 => ?_) (fun c1 => ?_)
    · have h := ifP h c1
      refine x_wk [false, true] (lo' := [none, some (.int v1)]) rfl ?_
      obtain rfl := Option.some.inj h
      exact hk
    · have h := ifN h c1
      refine x_iload_n C (i := 0) dX9_lowest_8 rfl rfl ?_
      refine x_iload_n C (i := 1) dX9_lowest_9 rfl rfl ?_
      obtain ⟨r2, er2, h⟩ := ob h
      refine x_callSr C Z ms_X9_has lk_X9_138 (ct_X9_has (N := ω.1) (σ := σ) er2) (by decide) rfl rfl (Nat.le_of_ble_eq_true rfl) dX9_lowest_10 ?_
      refine x_if_ne C (tgt := 22) dX9_lowest_13 (by decide) (fun c3 => ?_) (fun c3 => ?_)
      · have h := ifN h c3
        refine x_wk [false, true] (lo' := [none, some (.int v1)]) rfl ?_
        obtain rfl := Option.some.inj h
        exact hk
      · have h := ifP h c3
        refine x_iinc C (i := 1) (y := v1 + 1) (lo' := [some (.int v0), some (.int (v1 + 1))]) dX9_lowest_16 rfl rfl (by decide) rfl rfl ?_
        refine x_goto C (tgt := 2) dX9_lowest_19 (by decide) ?_
        refine x_wk [true, true] (lo' := [some (.int v0), some (.int (v1 + 1))]) rfl ?_
        exact ih (v1 + 1) h
set_option maxHeartbeats 4000000 in
set_option maxRecDepth 100000 in
theorem ct_X9_lowest {l : Launch} {D : va_G} {cy : Nat → Nat} {N : Nat} {σ : Hp} {p0 : Int32} {r : Int32} (h : m_X9_lowest p0 = some r) : Ct l D cy yX9_lowest cX9_lowest 2 (some .int) 1 [.int p0] N σ (fun v s' => v = (some (.int r)) ∧ s' = σ) := by
  refine Ct.intro [some (.int p0), none] (by decide) rfl (Nat.le_of_ble_eq_true rfl) ?_
  intro κ ω e1 e2 e3 e4 C Z E
  subst e1; subst e2; subst e3; subst e4
  have C : Cx κ 2 1 cX9_lowest RX9 "lowest" := C
  have hE : ∀ x : Int32, r = x → ((some (Value.int x)) = (some (Value.int r)) ∧ σ = σ) := fun x hx => by subst hx; exact ⟨rfl, rfl⟩
  unfold m_X9_lowest at h
  refine x_iconst C (v := 0) dX9_lowest_0 (by decide) ?_
  refine x_istore_n C (i := 1) (lo' := [some (.int p0), some (.int 0)]) dX9_lowest_1 rfl (by decide) rfl rfl ?_
  obtain ⟨z4, ez4, h⟩ := ob h
  refine x_wk [true, true] (lo' := [some (.int p0), some (.int 0)]) rfl ?_
  refine lp_X9_lowest_2 C Z p0 ?_ _ 0 ez4
  refine x_iload_n C (i := 1) dX9_lowest_22 rfl rfl ?_
  exact x_iret C E dX9_lowest_23 (hE z4 (Option.some.inj h).symm)
theorem dX9_kindTold_0 : decode cX9_kindTold 0 = .ok (.iload_n 1, 1) := by decide +kernel
theorem dX9_kindTold_1 : decode cX9_kindTold 1 = .ok (.aload_n 0, 1) := by decide +kernel
theorem dX9_kindTold_2 : decode cX9_kindTold 2 = .ok (.getfield 142, 3) := by decide +kernel
theorem dX9_kindTold_5 : decode cX9_kindTold 5 = .ok (.if_icmp .ne 10, 3) := by decide +kernel
theorem dX9_kindTold_8 : decode cX9_kindTold 8 = .ok (.aload_n 0, 1) := by decide +kernel
theorem dX9_kindTold_9 : decode cX9_kindTold 9 = .ok (.getfield 145, 3) := by decide +kernel
theorem dX9_kindTold_12 : decode cX9_kindTold 12 = .ok (.goto 11, 3) := by decide +kernel
theorem dX9_kindTold_15 : decode cX9_kindTold 15 = .ok (.aload_n 0, 1) := by decide +kernel
theorem dX9_kindTold_16 : decode cX9_kindTold 16 = .ok (.getfield 23, 3) := by decide +kernel
theorem dX9_kindTold_19 : decode cX9_kindTold 19 = .ok (.iconst 4, 1) := by decide +kernel
theorem dX9_kindTold_20 : decode cX9_kindTold 20 = .ok (.iload_n 1, 1) := by decide +kernel
theorem dX9_kindTold_21 : decode cX9_kindTold 21 = .ok (.iadd, 1) := by decide +kernel
theorem dX9_kindTold_22 : decode cX9_kindTold 22 = .ok (.iaload, 1) := by decide +kernel
theorem dX9_kindTold_23 : decode cX9_kindTold 23 = .ok (.ireturn, 1) := by decide +kernel
def m_X9_kindTold (N : Nat) (σ : Hp) (t0 : Nat) (p1 : Int32) : Option (Int32) :=
  (rv N σ t0 9).bind fun _ =>
  (gI N σ t0 9 20).bind fun x1 =>
  if p1 = x1 then
   (gI N σ t0 9 19).bind fun x5 =>
  some x5
  else
   (gR N σ t0 9 10).bind fun x3 =>
  (aI 0 N σ x3 ((4 : Int32) + p1)).bind fun x4 =>
  some x4
set_option maxHeartbeats 4000000 in
set_option maxRecDepth 100000 in
theorem ct_X9_kindTold {l : Launch} {D : va_G} {cy : Nat → Nat} {N : Nat} {σ : Hp} {t0 : Nat} {p1 : Int32} {r : Int32} (h : m_X9_kindTold N σ t0 p1 = some r) : Ct l D cy yX9_kindTold cX9_kindTold 2 (some .int) 0 [.ref t0, .int p1] N σ (fun v s' => v = (some (.int r)) ∧ s' = σ) := by
  refine Ct.intro [some (.ref t0), some (.int p1)] (by decide) rfl (Nat.le_of_ble_eq_true rfl) ?_
  intro κ ω e1 e2 e3 e4 C Z E
  subst e1; subst e2; subst e3; subst e4
  have C : Cx κ 2 0 cX9_kindTold RX9 "kindTold" := C
  have hE : ∀ x : Int32, r = x → ((some (Value.int x)) = (some (Value.int r)) ∧ σ = σ) := fun x hx => by subst hx; exact ⟨rfl, rfl⟩
  unfold m_X9_kindTold at h
  obtain ⟨_, _, h⟩ := ob h
  refine x_iload_n C (i := 1) dX9_kindTold_0 rfl rfl ?_
  refine x_aload_n C (i := 0) dX9_kindTold_1 rfl rfl ?_
  obtain ⟨x1, ex1, h⟩ := ob h
  refine x_getI C fl_X9_142 dX9_kindTold_2 ex1 ?_
  refine x_icmp_ne C (tgt := 15) dX9_kindTold_5 (by decide) (fun c2 => ?_) (fun c2 => ?_)
  · have h := ifN h c2
    refine x_aload_n C (i := 0) dX9_kindTold_15 rfl rfl ?_
    obtain ⟨x3, ex3, h⟩ := ob h
    refine x_getR C fl_X9_23 dX9_kindTold_16 ex3 ?_
    refine x_iconst C (v := 4) dX9_kindTold_19 (by decide) ?_
    refine x_iload_n C (i := 1) dX9_kindTold_20 rfl rfl ?_
    refine x_iadd C dX9_kindTold_21 ?_
    obtain ⟨x4, ex4, h⟩ := ob h
    refine x_iald C dX9_kindTold_22 ex4 ?_
    exact x_iret C E dX9_kindTold_23 (hE x4 (Option.some.inj h).symm)
  · have h := ifP h c2
    refine x_aload_n C (i := 0) dX9_kindTold_8 rfl rfl ?_
    obtain ⟨x5, ex5, h⟩ := ob h
    refine x_getI C fl_X9_145 dX9_kindTold_9 ex5 ?_
    refine x_goto C (tgt := 23) dX9_kindTold_12 (by decide) ?_
    exact x_iret C E dX9_kindTold_23 (hE x5 (Option.some.inj h).symm)
theorem dX9_mover_0 : decode cX9_mover 0 = .ok (.aload_n 0, 1) := by decide +kernel
theorem dX9_mover_1 : decode cX9_mover 1 = .ok (.iload_n 1, 1) := by decide +kernel
theorem dX9_mover_2 : decode cX9_mover 2 = .ok (.iload_n 2, 1) := by decide +kernel
theorem dX9_mover_3 : decode cX9_mover 3 = .ok (.invokevirtual 148, 3) := by decide +kernel
theorem dX9_mover_6 : decode cX9_mover 6 = .ok (.invokestatic 151, 3) := by decide +kernel
theorem dX9_mover_9 : decode cX9_mover 9 = .ok (.istore 4, 2) := by decide +kernel
theorem dX9_mover_11 : decode cX9_mover 11 = .ok (.aload_n 0, 1) := by decide +kernel
theorem dX9_mover_12 : decode cX9_mover 12 = .ok (.iload_n 1, 1) := by decide +kernel
theorem dX9_mover_13 : decode cX9_mover 13 = .ok (.iload_n 3, 1) := by decide +kernel
theorem dX9_mover_14 : decode cX9_mover 14 = .ok (.invokevirtual 148, 3) := by decide +kernel
theorem dX9_mover_17 : decode cX9_mover 17 = .ok (.istore 5, 2) := by decide +kernel
theorem dX9_mover_19 : decode cX9_mover 19 = .ok (.iload_n 2, 1) := by decide +kernel
theorem dX9_mover_20 : decode cX9_mover 20 = .ok (.iload_n 3, 1) := by decide +kernel
theorem dX9_mover_21 : decode cX9_mover 21 = .ok (.if_icmp .eq 20, 3) := by decide +kernel
theorem dX9_mover_24 : decode cX9_mover 24 = .ok (.iload 4, 2) := by decide +kernel
theorem dX9_mover_26 : decode cX9_mover 26 = .ok (.bipush 6, 2) := by decide +kernel
theorem dX9_mover_28 : decode cX9_mover 28 = .ok (.if_icmp .eq 13, 3) := by decide +kernel
theorem dX9_mover_31 : decode cX9_mover 31 = .ok (.iload 5, 2) := by decide +kernel
theorem dX9_mover_33 : decode cX9_mover 33 = .ok (.invokestatic 151, 3) := by decide +kernel
theorem dX9_mover_36 : decode cX9_mover 36 = .ok (.iload 4, 2) := by decide +kernel
theorem dX9_mover_38 : decode cX9_mover 38 = .ok (.if_icmp .ge 6, 3) := by decide +kernel
theorem dX9_mover_41 : decode cX9_mover 41 = .ok (.bipush 6, 2) := by decide +kernel
theorem dX9_mover_43 : decode cX9_mover 43 = .ok (.ireturn, 1) := by decide +kernel
theorem dX9_mover_44 : decode cX9_mover 44 = .ok (.aload_n 0, 1) := by decide +kernel
theorem dX9_mover_45 : decode cX9_mover 45 = .ok (.iload 4, 2) := by decide +kernel
theorem dX9_mover_47 : decode cX9_mover 47 = .ok (.invokevirtual 154, 3) := by decide +kernel
theorem dX9_mover_50 : decode cX9_mover 50 = .ok (.istore 6, 2) := by decide +kernel
theorem dX9_mover_52 : decode cX9_mover 52 = .ok (.iload 6, 2) := by decide +kernel
theorem dX9_mover_54 : decode cX9_mover 54 = .ok (.iconst 1, 1) := by decide +kernel
theorem dX9_mover_55 : decode cX9_mover 55 = .ok (.if_icmp .eq 72, 3) := by decide +kernel
theorem dX9_mover_58 : decode cX9_mover 58 = .ok (.iload 6, 2) := by decide +kernel
theorem dX9_mover_60 : decode cX9_mover 60 = .ok (.iconst 2, 1) := by decide +kernel
theorem dX9_mover_61 : decode cX9_mover 61 = .ok (.if_icmp .ne 17, 3) := by decide +kernel
theorem dX9_mover_64 : decode cX9_mover 64 = .ok (.iload_n 2, 1) := by decide +kernel
theorem dX9_mover_65 : decode cX9_mover 65 = .ok (.iload_n 3, 1) := by decide +kernel
theorem dX9_mover_66 : decode cX9_mover 66 = .ok (.isub, 1) := by decide +kernel
theorem dX9_mover_67 : decode cX9_mover 67 = .ok (.iconst 1, 1) := by decide +kernel
theorem dX9_mover_68 : decode cX9_mover 68 = .ok (.if_icmp .eq 59, 3) := by decide +kernel
theorem dX9_mover_71 : decode cX9_mover 71 = .ok (.iload_n 3, 1) := by decide +kernel
theorem dX9_mover_72 : decode cX9_mover 72 = .ok (.iload_n 2, 1) := by decide +kernel
theorem dX9_mover_73 : decode cX9_mover 73 = .ok (.isub, 1) := by decide +kernel
theorem dX9_mover_74 : decode cX9_mover 74 = .ok (.iconst 1, 1) := by decide +kernel
theorem dX9_mover_75 : decode cX9_mover 75 = .ok (.if_icmp .eq 52, 3) := by decide +kernel
theorem dX9_mover_78 : decode cX9_mover 78 = .ok (.iload 6, 2) := by decide +kernel
theorem dX9_mover_80 : decode cX9_mover 80 = .ok (.iconst 3, 1) := by decide +kernel
theorem dX9_mover_81 : decode cX9_mover 81 = .ok (.if_icmp .ne 15, 3) := by decide +kernel
theorem dX9_mover_84 : decode cX9_mover 84 = .ok (.iload 5, 2) := by decide +kernel
theorem dX9_mover_86 : decode cX9_mover 86 = .ok (.iload 4, 2) := by decide +kernel
theorem dX9_mover_88 : decode cX9_mover 88 = .ok (.iconst 1, 1) := by decide +kernel
theorem dX9_mover_89 : decode cX9_mover 89 = .ok (.iadd, 1) := by decide +kernel
theorem dX9_mover_90 : decode cX9_mover 90 = .ok (.invokestatic 138, 3) := by decide +kernel
theorem dX9_mover_93 : decode cX9_mover 93 = .ok (.ifCond .eq 34, 3) := by decide +kernel
theorem dX9_mover_96 : decode cX9_mover 96 = .ok (.iload 6, 2) := by decide +kernel
theorem dX9_mover_98 : decode cX9_mover 98 = .ok (.iconst 4, 1) := by decide +kernel
theorem dX9_mover_99 : decode cX9_mover 99 = .ok (.if_icmp .lt 32, 3) := by decide +kernel
theorem dX9_mover_102 : decode cX9_mover 102 = .ok (.iload 5, 2) := by decide +kernel
theorem dX9_mover_104 : decode cX9_mover 104 = .ok (.invokestatic 157, 3) := by decide +kernel
theorem dX9_mover_107 : decode cX9_mover 107 = .ok (.aload_n 0, 1) := by decide +kernel
theorem dX9_mover_108 : decode cX9_mover 108 = .ok (.getfield 160, 3) := by decide +kernel
theorem dX9_mover_111 : decode cX9_mover 111 = .ok (.if_icmp .ge 20, 3) := by decide +kernel
theorem dX9_mover_114 : decode cX9_mover 114 = .ok (.iload 6, 2) := by decide +kernel
theorem dX9_mover_116 : decode cX9_mover 116 = .ok (.iconst 4, 1) := by decide +kernel
theorem dX9_mover_117 : decode cX9_mover 117 = .ok (.if_icmp .eq 10, 3) := by decide +kernel
theorem dX9_mover_120 : decode cX9_mover 120 = .ok (.iload_n 1, 1) := by decide +kernel
theorem dX9_mover_121 : decode cX9_mover 121 = .ok (.sipush 4096, 3) := by decide +kernel
theorem dX9_mover_124 : decode cX9_mover 124 = .ok (.if_icmp .ge 7, 3) := by decide +kernel
theorem dX9_mover_127 : decode cX9_mover 127 = .ok (.iconst 1, 1) := by decide +kernel
theorem dX9_mover_128 : decode cX9_mover 128 = .ok (.goto 4, 3) := by decide +kernel
theorem dX9_mover_131 : decode cX9_mover 131 = .ok (.iconst 0, 1) := by decide +kernel
theorem dX9_mover_132 : decode cX9_mover 132 = .ok (.istore 7, 2) := by decide +kernel
theorem dX9_mover_134 : decode cX9_mover 134 = .ok (.iload 7, 2) := by decide +kernel
theorem dX9_mover_136 : decode cX9_mover 136 = .ok (.ifCond .eq 8, 3) := by decide +kernel
theorem dX9_mover_139 : decode cX9_mover 139 = .ok (.iload 4, 2) := by decide +kernel
theorem dX9_mover_141 : decode cX9_mover 141 = .ok (.goto 5, 3) := by decide +kernel
theorem dX9_mover_144 : decode cX9_mover 144 = .ok (.bipush 6, 2) := by decide +kernel
theorem dX9_mover_146 : decode cX9_mover 146 = .ok (.ireturn, 1) := by decide +kernel
def m_X9_mover (N : Nat) (σ : Hp) (t0 : Nat) (p1 : Int32) (p2 : Int32) (p3 : Int32) : Option (Int32) :=
  (rv N σ t0 9).bind fun _ =>
  (m_X9_lying N σ t0 p1 p2).bind fun r1 =>
  (m_X9_lowest r1).bind fun r2 =>
  (m_X9_lying N σ t0 p1 p3).bind fun r3 =>
  if p2 = p3 then
   some 6
  else
   if r2 = 6 then
   some 6
  else
   (m_X9_lowest r3).bind fun r6 =>
  if r2 ≤ r6 then
   (m_X9_kindTold N σ t0 r2).bind fun r8 =>
  ((if r8 = 1 then
   some 1
  else
   ((if r8 = 2 then
   if (p2 - p3) = 1 then
   some (.inr 1)
  else
   if (p3 - p2) = 1 then
   some (.inr 1)
  else
   some (.inl ())
  else
   some (.inl ())) : Option ((Unit) ⊕ (Int32))).bind fun z14 =>
  cS z14 (fun w15 => ((if r8 = 3 then
   (m_X9_has r3 (r2 + 1)).bind fun r27 =>
  if r27 = 0 then
   some (.inr 1)
  else
   some (.inl ())
  else
   some (.inl ())) : Option ((Unit) ⊕ (Int32))).bind fun z16 =>
  cS z16 (fun w17 => if r8 < 4 then
   some 0
  else
   (m_X9_bits r3).bind fun r19 =>
  (gI N σ t0 9 21).bind fun x20 =>
  if x20 ≤ r19 then
   some 0
  else
   if r8 = 4 then
   some 1
  else
   if 4096 ≤ p1 then
   some 0
  else
   some 1) (fun q29 => some q29)) (fun q35 => some q35)) : Option (Int32)).bind fun z9 =>
  if z9 = 0 then
   some 6
  else
   some r2
  else
   some 6
set_option maxHeartbeats 4000000 in
set_option maxRecDepth 100000 in
theorem ct_X9_mover {l : Launch} {D : va_G} {cy : Nat → Nat} {N : Nat} {σ : Hp} {t0 : Nat} {p1 : Int32} {p2 : Int32} {p3 : Int32} {r : Int32} (h : m_X9_mover N σ t0 p1 p2 p3 = some r) : Ct l D cy yX9_mover cX9_mover 8 (some .int) 2 [.ref t0, .int p1, .int p2, .int p3] N σ (fun v s' => v = (some (.int r)) ∧ s' = σ) := by
  refine Ct.intro [some (.ref t0), some (.int p1), some (.int p2), some (.int p3), none, none, none, none] (by decide) rfl (Nat.le_of_ble_eq_true rfl) ?_
  intro κ ω e1 e2 e3 e4 C Z E
  subst e1; subst e2; subst e3; subst e4
  have C : Cx κ 8 2 cX9_mover RX9 "mover" := C
  have hE : ∀ x : Int32, r = x → ((some (Value.int x)) = (some (Value.int r)) ∧ σ = σ) := fun x hx => by subst hx; exact ⟨rfl, rfl⟩
  unfold m_X9_mover at h
  obtain ⟨_, _, h⟩ := ob h
  refine x_aload_n C (i := 0) dX9_mover_0 rfl rfl ?_
  refine x_iload_n C (i := 1) dX9_mover_1 rfl rfl ?_
  refine x_iload_n C (i := 2) dX9_mover_2 rfl rfl ?_
  obtain ⟨r1, er1, h⟩ := ob h
  refine x_callVr C Z mv_X9_lying lk_X9_148 (rv_h er1) (ct_X9_lying er1) (by decide) rfl rfl (Nat.le_of_ble_eq_true rfl) dX9_mover_3 ?_
  obtain ⟨r2, er2, h⟩ := ob h
  refine x_callSr C Z ms_X9_lowest lk_X9_151 (ct_X9_lowest (N := ω.1) (σ := σ) er2) (by decide) rfl rfl (Nat.le_of_ble_eq_true rfl) dX9_mover_6 ?_
  refine x_istore C (i := 4) (lo' := [some (.ref t0), some (.int p1), some (.int p2), some (.int p3), some (.int r2), none, none, none]) dX9_mover_9 (by decide) rfl rfl ?_
  refine x_aload_n C (i := 0) dX9_mover_11 rfl rfl ?_
  refine x_iload_n C (i := 1) dX9_mover_12 rfl rfl ?_
  refine x_iload_n C (i := 3) dX9_mover_13 rfl rfl ?_
  obtain ⟨r3, er3, h⟩ := ob h
  refine x_callVr C Z mv_X9_lying lk_X9_148 (rv_h er3) (ct_X9_lying er3) (by decide) rfl rfl (Nat.le_of_ble_eq_true rfl) dX9_mover_14 ?_
  refine x_istore C (i := 5) (lo' := [some (.ref t0), some (.int p1), some (.int p2), some (.int p3), some (.int r2), some (.int r3), none, none]) dX9_mover_17 (by decide) rfl rfl ?_
  refine x_iload_n C (i := 2) dX9_mover_19 rfl rfl ?_
  refine x_iload_n C (i := 3) dX9_mover_20 rfl rfl ?_
  refine x_icmp_eq C (tgt := 41) dX9_mover_21 (by decide) (fun c4 => ?_) (fun c4 => ?_)
  · have h := ifP h c4
    refine x_bipush C (v := 6) dX9_mover_41 (by decide) ?_
    exact x_iret C E dX9_mover_43 (hE 6 (Option.some.inj h).symm)
  · have h := ifN h c4
    refine x_iload C (i := 4) dX9_mover_24 rfl ?_
    refine x_bipush C (v := 6) dX9_mover_26 (by decide) ?_
    refine x_icmp_eq C (tgt := 41) dX9_mover_28 (by decide) (fun c5 => ?_) (fun c5 => ?_)
    · have h := ifP h c5
      refine x_bipush C (v := 6) dX9_mover_41 (by decide) ?_
      exact x_iret C E dX9_mover_43 (hE 6 (Option.some.inj h).symm)
    · have h := ifN h c5
      refine x_iload C (i := 5) dX9_mover_31 rfl ?_
      obtain ⟨r6, er6, h⟩ := ob h
      refine x_callSr C Z ms_X9_lowest lk_X9_151 (ct_X9_lowest (N := ω.1) (σ := σ) er6) (by decide) rfl rfl (Nat.le_of_ble_eq_true rfl) dX9_mover_33 ?_
      refine x_iload C (i := 4) dX9_mover_36 rfl ?_
      refine x_icmp_ge C (tgt := 44) dX9_mover_38 (by decide) (fun c7 => ?_) (fun c7 => ?_)
      · have h := ifP h c7
        refine x_aload_n C (i := 0) dX9_mover_44 rfl rfl ?_
        refine x_iload C (i := 4) dX9_mover_45 rfl ?_
        obtain ⟨r8, er8, h⟩ := ob h
        refine x_callVr C Z mv_X9_kindTold lk_X9_154 (rv_h er8) (ct_X9_kindTold er8) (by decide) rfl rfl (Nat.le_of_ble_eq_true rfl) dX9_mover_47 ?_
        refine x_istore C (i := 6) (lo' := [some (.ref t0), some (.int p1), some (.int p2), some (.int p3), some (.int r2), some (.int r3), some (.int r8), none]) dX9_mover_50 (by decide) rfl rfl ?_
        refine x_iload C (i := 6) dX9_mover_52 rfl ?_
        refine x_iconst C (v := 1) dX9_mover_54 (by decide) ?_
        obtain ⟨z9, hz9, h⟩ := ob h
        have hJ11 : X κ 8 ω 132 [none, none, none, none, some (.int r2), none, none, none] [.int z9] σ := by
          refine x_istore C (i := 7) (lo' := [none, none, none, none, some (.int r2), none, none, some (.int z9)]) dX9_mover_132 (by decide) rfl rfl ?_
          refine x_iload C (i := 7) dX9_mover_134 rfl ?_
          refine x_if_eq C (tgt := 144) dX9_mover_136 (by decide) (fun c10 => ?_) (fun c10 => ?_)
          · have h := ifP h c10
            refine x_bipush C (v := 6) dX9_mover_144 (by decide) ?_
            exact x_iret C E dX9_mover_146 (hE 6 (Option.some.inj h).symm)
          · have h := ifN h c10
            refine x_iload C (i := 4) dX9_mover_139 rfl ?_
            refine x_goto C (tgt := 146) dX9_mover_141 (by decide) ?_
            exact x_iret C E dX9_mover_146 (hE r2 (Option.some.inj h).symm)
        clear h
        have h := hz9
        refine x_icmp_eq C (tgt := 127) dX9_mover_55 (by decide) (fun c13 => ?_) (fun c13 => ?_)
        · have h := ifP h c13
          refine x_iconst C (v := 1) dX9_mover_127 (by decide) ?_
          refine x_goto C (tgt := 132) dX9_mover_128 (by decide) ?_
          refine x_wk [false, false, false, false, true, false, false, false] (lo' := [none, none, none, none, some (.int r2), none, none, none]) rfl ?_
          obtain rfl := Option.some.inj h
          exact hJ11
        · have h := ifN h c13
          refine x_iload C (i := 6) dX9_mover_58 rfl ?_
          refine x_iconst C (v := 2) dX9_mover_60 (by decide) ?_
          obtain ⟨z14, hz14, hO31⟩ := ob h
          have hJ30 : ∀ w15, z14 = .inl w15 → X κ 8 ω 78 [some (.ref t0), some (.int p1), none, none, some (.int r2), some (.int r3), some (.int r8), none] [] σ := by
            intro w15 hu
            subst hu
            have h := cS_l hO31
            refine x_iload C (i := 6) dX9_mover_78 rfl ?_
            refine x_iconst C (v := 3) dX9_mover_80 (by decide) ?_
            obtain ⟨z16, hz16, hO25⟩ := ob h
            have hJ24 : ∀ w17, z16 = .inl w17 → X κ 8 ω 96 [some (.ref t0), some (.int p1), none, none, some (.int r2), some (.int r3), some (.int r8), none] [] σ := by
              intro w17 hu
              subst hu
              have h := cS_l hO25
              refine x_iload C (i := 6) dX9_mover_96 rfl ?_
              refine x_iconst C (v := 4) dX9_mover_98 (by decide) ?_
              refine x_icmp_lt C (tgt := 131) dX9_mover_99 (by decide) (fun c18 => ?_) (fun c18 => ?_)
              · have h := ifP h c18
                refine x_iconst C (v := 0) dX9_mover_131 (by decide) ?_
                refine x_wk [false, false, false, false, true, false, false, false] (lo' := [none, none, none, none, some (.int r2), none, none, none]) rfl ?_
                obtain rfl := Option.some.inj h
                exact hJ11
              · have h := ifN h c18
                refine x_iload C (i := 5) dX9_mover_102 rfl ?_
                obtain ⟨r19, er19, h⟩ := ob h
                refine x_callSr C Z ms_X9_bits lk_X9_157 (ct_X9_bits (N := ω.1) (σ := σ) er19) (by decide) rfl rfl (Nat.le_of_ble_eq_true rfl) dX9_mover_104 ?_
                refine x_aload_n C (i := 0) dX9_mover_107 rfl rfl ?_
                obtain ⟨x20, ex20, h⟩ := ob h
                refine x_getI C fl_X9_160 dX9_mover_108 ex20 ?_
                refine x_icmp_ge C (tgt := 131) dX9_mover_111 (by decide) (fun c21 => ?_) (fun c21 => ?_)
                · have h := ifP h c21
                  refine x_iconst C (v := 0) dX9_mover_131 (by decide) ?_
                  refine x_wk [false, false, false, false, true, false, false, false] (lo' := [none, none, none, none, some (.int r2), none, none, none]) rfl ?_
                  obtain rfl := Option.some.inj h
                  exact hJ11
                · have h := ifN h c21
                  refine x_iload C (i := 6) dX9_mover_114 rfl ?_
                  refine x_iconst C (v := 4) dX9_mover_116 (by decide) ?_
                  refine x_icmp_eq C (tgt := 127) dX9_mover_117 (by decide) (fun c22 => ?_) (fun c22 => ?_)
                  · have h := ifP h c22
                    refine x_iconst C (v := 1) dX9_mover_127 (by decide) ?_
                    refine x_goto C (tgt := 132) dX9_mover_128 (by decide) ?_
                    refine x_wk [false, false, false, false, true, false, false, false] (lo' := [none, none, none, none, some (.int r2), none, none, none]) rfl ?_
                    obtain rfl := Option.some.inj h
                    exact hJ11
                  · have h := ifN h c22
                    refine x_iload_n C (i := 1) dX9_mover_120 rfl rfl ?_
                    refine x_sipush C (v := 4096) dX9_mover_121 (by decide) ?_
                    refine x_icmp_ge C (tgt := 131) dX9_mover_124 (by decide) (fun c23 => ?_) (fun c23 => ?_)
                    · have h := ifP h c23
                      refine x_iconst C (v := 0) dX9_mover_131 (by decide) ?_
                      refine x_wk [false, false, false, false, true, false, false, false] (lo' := [none, none, none, none, some (.int r2), none, none, none]) rfl ?_
                      obtain rfl := Option.some.inj h
                      exact hJ11
                    · have h := ifN h c23
                      refine x_iconst C (v := 1) dX9_mover_127 (by decide) ?_
                      refine x_goto C (tgt := 132) dX9_mover_128 (by decide) ?_
                      refine x_wk [false, false, false, false, true, false, false, false] (lo' := [none, none, none, none, some (.int r2), none, none, none]) rfl ?_
                      obtain rfl := Option.some.inj h
                      exact hJ11
            have h := hz16
            refine x_icmp_ne C (tgt := 96) dX9_mover_81 (by decide) (fun c26 => ?_) (fun c26 => ?_)
            · have h := ifN h c26
              refine x_wk [true, true, false, false, true, true, true, false] (lo' := [some (.ref t0), some (.int p1), none, none, some (.int r2), some (.int r3), some (.int r8), none]) rfl ?_
              exact hJ24 _ (Option.some.inj h).symm
            · have h := ifP h c26
              refine x_iload C (i := 5) dX9_mover_84 rfl ?_
              refine x_iload C (i := 4) dX9_mover_86 rfl ?_
              refine x_iconst C (v := 1) dX9_mover_88 (by decide) ?_
              refine x_iadd C dX9_mover_89 ?_
              obtain ⟨r27, er27, h⟩ := ob h
              refine x_callSr C Z ms_X9_has lk_X9_138 (ct_X9_has (N := ω.1) (σ := σ) er27) (by decide) rfl rfl (Nat.le_of_ble_eq_true rfl) dX9_mover_90 ?_
              refine x_if_eq C (tgt := 127) dX9_mover_93 (by decide) (fun c28 => ?_) (fun c28 => ?_)
              · have h := ifP h c28
                refine x_iconst C (v := 1) dX9_mover_127 (by decide) ?_
                refine x_goto C (tgt := 132) dX9_mover_128 (by decide) ?_
                have h := esc h hO25
                refine x_wk [false, false, false, false, true, false, false, false] (lo' := [none, none, none, none, some (.int r2), none, none, none]) rfl ?_
                obtain rfl := Option.some.inj h
                exact hJ11
              · have h := ifN h c28
                refine x_wk [true, true, false, false, true, true, true, false] (lo' := [some (.ref t0), some (.int p1), none, none, some (.int r2), some (.int r3), some (.int r8), none]) rfl ?_
                exact hJ24 _ (Option.some.inj h).symm
          have h := hz14
          refine x_icmp_ne C (tgt := 78) dX9_mover_61 (by decide) (fun c32 => ?_) (fun c32 => ?_)
          · have h := ifN h c32
            refine x_wk [true, true, false, false, true, true, true, false] (lo' := [some (.ref t0), some (.int p1), none, none, some (.int r2), some (.int r3), some (.int r8), none]) rfl ?_
            exact hJ30 _ (Option.some.inj h).symm
          · have h := ifP h c32
            refine x_iload_n C (i := 2) dX9_mover_64 rfl rfl ?_
            refine x_iload_n C (i := 3) dX9_mover_65 rfl rfl ?_
            refine x_isub C dX9_mover_66 ?_
            refine x_iconst C (v := 1) dX9_mover_67 (by decide) ?_
            refine x_icmp_eq C (tgt := 127) dX9_mover_68 (by decide) (fun c33 => ?_) (fun c33 => ?_)
            · have h := ifP h c33
              refine x_iconst C (v := 1) dX9_mover_127 (by decide) ?_
              refine x_goto C (tgt := 132) dX9_mover_128 (by decide) ?_
              have h := esc h hO31
              refine x_wk [false, false, false, false, true, false, false, false] (lo' := [none, none, none, none, some (.int r2), none, none, none]) rfl ?_
              obtain rfl := Option.some.inj h
              exact hJ11
            · have h := ifN h c33
              refine x_iload_n C (i := 3) dX9_mover_71 rfl rfl ?_
              refine x_iload_n C (i := 2) dX9_mover_72 rfl rfl ?_
              refine x_isub C dX9_mover_73 ?_
              refine x_iconst C (v := 1) dX9_mover_74 (by decide) ?_
              refine x_icmp_eq C (tgt := 127) dX9_mover_75 (by decide) (fun c34 => ?_) (fun c34 => ?_)
              · have h := ifP h c34
                refine x_iconst C (v := 1) dX9_mover_127 (by decide) ?_
                refine x_goto C (tgt := 132) dX9_mover_128 (by decide) ?_
                have h := esc h hO31
                refine x_wk [false, false, false, false, true, false, false, false] (lo' := [none, none, none, none, some (.int r2), none, none, none]) rfl ?_
                obtain rfl := Option.some.inj h
                exact hJ11
              · have h := ifN h c34
                refine x_wk [true, true, false, false, true, true, true, false] (lo' := [some (.ref t0), some (.int p1), none, none, some (.int r2), some (.int r3), some (.int r8), none]) rfl ?_
                exact hJ30 _ (Option.some.inj h).symm
      · have h := ifN h c7
        refine x_bipush C (v := 6) dX9_mover_41 (by decide) ?_
        exact x_iret C E dX9_mover_43 (hE 6 (Option.some.inj h).symm)
