theorem dX7_sortOf_0 : decode cX7_sortOf 0 = .ok (.iload_n 0, 1) := by decide +kernel
theorem dX7_sortOf_1 : decode cX7_sortOf 1 = .ok (.tableswitch 81 102 115 #[79, 77, 75, 81, 81, 81, 81, 81, 81, 81, 71, 81, 81, 73], 71) := by decide +kernel
theorem dX7_sortOf_72 : decode cX7_sortOf 72 = .ok (.iconst 1, 1) := by decide +kernel
theorem dX7_sortOf_73 : decode cX7_sortOf 73 = .ok (.ireturn, 1) := by decide +kernel
theorem dX7_sortOf_74 : decode cX7_sortOf 74 = .ok (.iconst 2, 1) := by decide +kernel
theorem dX7_sortOf_75 : decode cX7_sortOf 75 = .ok (.ireturn, 1) := by decide +kernel
theorem dX7_sortOf_76 : decode cX7_sortOf 76 = .ok (.iconst 3, 1) := by decide +kernel
theorem dX7_sortOf_77 : decode cX7_sortOf 77 = .ok (.ireturn, 1) := by decide +kernel
theorem dX7_sortOf_78 : decode cX7_sortOf 78 = .ok (.iconst 4, 1) := by decide +kernel
theorem dX7_sortOf_79 : decode cX7_sortOf 79 = .ok (.ireturn, 1) := by decide +kernel
theorem dX7_sortOf_80 : decode cX7_sortOf 80 = .ok (.iconst 5, 1) := by decide +kernel
theorem dX7_sortOf_81 : decode cX7_sortOf 81 = .ok (.ireturn, 1) := by decide +kernel
theorem dX7_sortOf_82 : decode cX7_sortOf 82 = .ok (.iconst 0, 1) := by decide +kernel
theorem dX7_sortOf_83 : decode cX7_sortOf 83 = .ok (.ireturn, 1) := by decide +kernel
def m_X7_sortOf (p0 : Int32) : Option (Int32) :=
  if p0 = 102 then
   some 5
  else if p0 = 103 then
   some 4
  else if p0 = 104 then
   some 3
  else if p0 = 105 then
   some 0
  else if p0 = 106 then
   some 0
  else if p0 = 107 then
   some 0
  else if p0 = 108 then
   some 0
  else if p0 = 109 then
   some 0
  else if p0 = 110 then
   some 0
  else if p0 = 111 then
   some 0
  else if p0 = 112 then
   some 1
  else if p0 = 113 then
   some 0
  else if p0 = 114 then
   some 0
  else if p0 = 115 then
   some 2
  else 
   some 0
set_option maxHeartbeats 4000000 in
set_option maxRecDepth 100000 in
theorem ct_X7_sortOf {l : Launch} {D : va_G} {cy : Nat → Nat} {N : Nat} {σ : Hp} {p0 : Int32} {r : Int32} (h : m_X7_sortOf p0 = some r) : Ct l D cy yX7_sortOf cX7_sortOf 1 (some .int) 0 [.int p0] N σ (fun v s' => v = (some (.int r)) ∧ s' = σ) := by
  refine Ct.intro [some (.int p0)] (by decide) rfl (Nat.le_of_ble_eq_true rfl) ?_
  intro κ ω e1 e2 e3 e4 C Z E
  subst e1; subst e2; subst e3; subst e4
  have C : Cx κ 1 0 cX7_sortOf RX7 "sortOf" := C
  have hE : ∀ x : Int32, r = x → ((some (Value.int x)) = (some (Value.int r)) ∧ σ = σ) := fun x hx => by subst hx; exact ⟨rfl, rfl⟩
  unfold m_X7_sortOf at h
  refine x_iload_n C (i := 0) dX7_sortOf_0 rfl rfl ?_
  by_cases c1 : p0 = 102
  · have h := ifP h c1
    refine x_tableIn C (off := 79) (tgt := 80) dX7_sortOf_1 (by rw [c1]; decide) (by rw [c1]; decide) (by rw [c1]; rfl) (by decide) ?_
    refine x_iconst C (v := 5) dX7_sortOf_80 (by decide) ?_
    exact x_iret C E dX7_sortOf_81 (hE 5 (Option.some.inj h).symm)
  · have h := ifN h c1
    by_cases c2 : p0 = 103
    · have h := ifP h c2
      refine x_tableIn C (off := 77) (tgt := 78) dX7_sortOf_1 (by rw [c2]; decide) (by rw [c2]; decide) (by rw [c2]; rfl) (by decide) ?_
      refine x_iconst C (v := 4) dX7_sortOf_78 (by decide) ?_
      exact x_iret C E dX7_sortOf_79 (hE 4 (Option.some.inj h).symm)
    · have h := ifN h c2
      by_cases c3 : p0 = 104
      · have h := ifP h c3
        refine x_tableIn C (off := 75) (tgt := 76) dX7_sortOf_1 (by rw [c3]; decide) (by rw [c3]; decide) (by rw [c3]; rfl) (by decide) ?_
        refine x_iconst C (v := 3) dX7_sortOf_76 (by decide) ?_
        exact x_iret C E dX7_sortOf_77 (hE 3 (Option.some.inj h).symm)
      · have h := ifN h c3
        by_cases c4 : p0 = 105
        · have h := ifP h c4
          refine x_tableIn C (off := 81) (tgt := 82) dX7_sortOf_1 (by rw [c4]; decide) (by rw [c4]; decide) (by rw [c4]; rfl) (by decide) ?_
          refine x_iconst C (v := 0) dX7_sortOf_82 (by decide) ?_
          exact x_iret C E dX7_sortOf_83 (hE 0 (Option.some.inj h).symm)
        · have h := ifN h c4
          by_cases c5 : p0 = 106
          · have h := ifP h c5
            refine x_tableIn C (off := 81) (tgt := 82) dX7_sortOf_1 (by rw [c5]; decide) (by rw [c5]; decide) (by rw [c5]; rfl) (by decide) ?_
            refine x_iconst C (v := 0) dX7_sortOf_82 (by decide) ?_
            exact x_iret C E dX7_sortOf_83 (hE 0 (Option.some.inj h).symm)
          · have h := ifN h c5
            by_cases c6 : p0 = 107
            · have h := ifP h c6
              refine x_tableIn C (off := 81) (tgt := 82) dX7_sortOf_1 (by rw [c6]; decide) (by rw [c6]; decide) (by rw [c6]; rfl) (by decide) ?_
              refine x_iconst C (v := 0) dX7_sortOf_82 (by decide) ?_
              exact x_iret C E dX7_sortOf_83 (hE 0 (Option.some.inj h).symm)
            · have h := ifN h c6
              by_cases c7 : p0 = 108
              · have h := ifP h c7
                refine x_tableIn C (off := 81) (tgt := 82) dX7_sortOf_1 (by rw [c7]; decide) (by rw [c7]; decide) (by rw [c7]; rfl) (by decide) ?_
                refine x_iconst C (v := 0) dX7_sortOf_82 (by decide) ?_
                exact x_iret C E dX7_sortOf_83 (hE 0 (Option.some.inj h).symm)
              · have h := ifN h c7
                by_cases c8 : p0 = 109
                · have h := ifP h c8
                  refine x_tableIn C (off := 81) (tgt := 82) dX7_sortOf_1 (by rw [c8]; decide) (by rw [c8]; decide) (by rw [c8]; rfl) (by decide) ?_
                  refine x_iconst C (v := 0) dX7_sortOf_82 (by decide) ?_
                  exact x_iret C E dX7_sortOf_83 (hE 0 (Option.some.inj h).symm)
                · have h := ifN h c8
                  by_cases c9 : p0 = 110
                  · have h := ifP h c9
                    refine x_tableIn C (off := 81) (tgt := 82) dX7_sortOf_1 (by rw [c9]; decide) (by rw [c9]; decide) (by rw [c9]; rfl) (by decide) ?_
                    refine x_iconst C (v := 0) dX7_sortOf_82 (by decide) ?_
                    exact x_iret C E dX7_sortOf_83 (hE 0 (Option.some.inj h).symm)
                  · have h := ifN h c9
                    by_cases c10 : p0 = 111
                    · have h := ifP h c10
                      refine x_tableIn C (off := 81) (tgt := 82) dX7_sortOf_1 (by rw [c10]; decide) (by rw [c10]; decide) (by rw [c10]; rfl) (by decide) ?_
                      refine x_iconst C (v := 0) dX7_sortOf_82 (by decide) ?_
                      exact x_iret C E dX7_sortOf_83 (hE 0 (Option.some.inj h).symm)
                    · have h := ifN h c10
                      by_cases c11 : p0 = 112
                      · have h := ifP h c11
                        refine x_tableIn C (off := 71) (tgt := 72) dX7_sortOf_1 (by rw [c11]; decide) (by rw [c11]; decide) (by rw [c11]; rfl) (by decide) ?_
                        refine x_iconst C (v := 1) dX7_sortOf_72 (by decide) ?_
                        exact x_iret C E dX7_sortOf_73 (hE 1 (Option.some.inj h).symm)
                      · have h := ifN h c11
                        by_cases c12 : p0 = 113
                        · have h := ifP h c12
                          refine x_tableIn C (off := 81) (tgt := 82) dX7_sortOf_1 (by rw [c12]; decide) (by rw [c12]; decide) (by rw [c12]; rfl) (by decide) ?_
                          refine x_iconst C (v := 0) dX7_sortOf_82 (by decide) ?_
                          exact x_iret C E dX7_sortOf_83 (hE 0 (Option.some.inj h).symm)
                        · have h := ifN h c12
                          by_cases c13 : p0 = 114
                          · have h := ifP h c13
                            refine x_tableIn C (off := 81) (tgt := 82) dX7_sortOf_1 (by rw [c13]; decide) (by rw [c13]; decide) (by rw [c13]; rfl) (by decide) ?_
                            refine x_iconst C (v := 0) dX7_sortOf_82 (by decide) ?_
                            exact x_iret C E dX7_sortOf_83 (hE 0 (Option.some.inj h).symm)
                          · have h := ifN h c13
                            by_cases c14 : p0 = 115
                            · have h := ifP h c14
                              refine x_tableIn C (off := 73) (tgt := 74) dX7_sortOf_1 (by rw [c14]; decide) (by rw [c14]; decide) (by rw [c14]; rfl) (by decide) ?_
                              refine x_iconst C (v := 2) dX7_sortOf_74 (by decide) ?_
                              exact x_iret C E dX7_sortOf_75 (hE 2 (Option.some.inj h).symm)
                            · have h := ifN h c14
                              refine x_tableOut C (tgt := 82) dX7_sortOf_1 (by have q102 := lv_neT (a := 102) c1 (by decide); have q103 := lv_neT (a := 103) c2 (by decide); have q104 := lv_neT (a := 104) c3 (by decide); have q105 := lv_neT (a := 105) c4 (by decide); have q106 := lv_neT (a := 106) c5 (by decide); have q107 := lv_neT (a := 107) c6 (by decide); have q108 := lv_neT (a := 108) c7 (by decide); have q109 := lv_neT (a := 109) c8 (by decide); have q110 := lv_neT (a := 110) c9 (by decide); have q111 := lv_neT (a := 111) c10 (by decide); have q112 := lv_neT (a := 112) c11 (by decide); have q113 := lv_neT (a := 113) c12 (by decide); have q114 := lv_neT (a := 114) c13 (by decide); have q115 := lv_neT (a := 115) c14 (by decide); omega) (by decide) ?_
                              refine x_iconst C (v := 0) dX7_sortOf_82 (by decide) ?_
                              exact x_iret C E dX7_sortOf_83 (hE 0 (Option.some.inj h).symm)
theorem dX7_readDisc_0 : decode cX7_readDisc 0 = .ok (.aload_n 0, 1) := by decide +kernel
theorem dX7_readDisc_1 : decode cX7_readDisc 1 = .ok (.aload_n 0, 1) := by decide +kernel
theorem dX7_readDisc_2 : decode cX7_readDisc 2 = .ok (.getfield 19, 3) := by decide +kernel
theorem dX7_readDisc_5 : decode cX7_readDisc 5 = .ok (.invokevirtual 51, 3) := by decide +kernel
theorem dX7_readDisc_8 : decode cX7_readDisc 8 = .ok (.invokestatic 55, 3) := by decide +kernel
theorem dX7_readDisc_11 : decode cX7_readDisc 11 = .ok (.istore_n 2, 1) := by decide +kernel
theorem dX7_readDisc_12 : decode cX7_readDisc 12 = .ok (.iload_n 2, 1) := by decide +kernel
theorem dX7_readDisc_13 : decode cX7_readDisc 13 = .ok (.ifCond .ne 9, 3) := by decide +kernel
theorem dX7_readDisc_16 : decode cX7_readDisc 16 = .ok (.aload_n 0, 1) := by decide +kernel
theorem dX7_readDisc_17 : decode cX7_readDisc 17 = .ok (.iconst 1, 1) := by decide +kernel
theorem dX7_readDisc_18 : decode cX7_readDisc 18 = .ok (.invokevirtual 58, 3) := by decide +kernel
theorem dX7_readDisc_21 : decode cX7_readDisc 21 = .ok (.ireturn, 1) := by decide +kernel
theorem dX7_readDisc_22 : decode cX7_readDisc 22 = .ok (.aload_n 1, 1) := by decide +kernel
theorem dX7_readDisc_23 : decode cX7_readDisc 23 = .ok (.getfield 61, 3) := by decide +kernel
theorem dX7_readDisc_26 : decode cX7_readDisc 26 = .ok (.bipush 6, 2) := by decide +kernel
theorem dX7_readDisc_28 : decode cX7_readDisc 28 = .ok (.if_icmp .lt 9, 3) := by decide +kernel
theorem dX7_readDisc_31 : decode cX7_readDisc 31 = .ok (.aload_n 0, 1) := by decide +kernel
theorem dX7_readDisc_32 : decode cX7_readDisc 32 = .ok (.iconst 3, 1) := by decide +kernel
theorem dX7_readDisc_33 : decode cX7_readDisc 33 = .ok (.invokevirtual 58, 3) := by decide +kernel
theorem dX7_readDisc_36 : decode cX7_readDisc 36 = .ok (.ireturn, 1) := by decide +kernel
theorem dX7_readDisc_37 : decode cX7_readDisc 37 = .ok (.aload_n 0, 1) := by decide +kernel
theorem dX7_readDisc_38 : decode cX7_readDisc 38 = .ok (.dup, 1) := by decide +kernel
theorem dX7_readDisc_39 : decode cX7_readDisc 39 = .ok (.getfield 19, 3) := by decide +kernel
theorem dX7_readDisc_42 : decode cX7_readDisc 42 = .ok (.iconst 1, 1) := by decide +kernel
theorem dX7_readDisc_43 : decode cX7_readDisc 43 = .ok (.iadd, 1) := by decide +kernel
theorem dX7_readDisc_44 : decode cX7_readDisc 44 = .ok (.putfield 19, 3) := by decide +kernel
theorem dX7_readDisc_47 : decode cX7_readDisc 47 = .ok (.aload_n 0, 1) := by decide +kernel
theorem dX7_readDisc_48 : decode cX7_readDisc 48 = .ok (.iconst 0, 1) := by decide +kernel
theorem dX7_readDisc_49 : decode cX7_readDisc 49 = .ok (.aload_n 1, 1) := by decide +kernel
theorem dX7_readDisc_50 : decode cX7_readDisc 50 = .ok (.getfield 45, 3) := by decide +kernel
theorem dX7_readDisc_53 : decode cX7_readDisc 53 = .ok (.iconst 1, 1) := by decide +kernel
theorem dX7_readDisc_54 : decode cX7_readDisc 54 = .ok (.isub, 1) := by decide +kernel
theorem dX7_readDisc_55 : decode cX7_readDisc 55 = .ok (.invokevirtual 38, 3) := by decide +kernel
theorem dX7_readDisc_58 : decode cX7_readDisc 58 = .ok (.ifCond .eq 12, 3) := by decide +kernel
theorem dX7_readDisc_61 : decode cX7_readDisc 61 = .ok (.aload_n 0, 1) := by decide +kernel
theorem dX7_readDisc_62 : decode cX7_readDisc 62 = .ok (.bipush 59, 2) := by decide +kernel
theorem dX7_readDisc_64 : decode cX7_readDisc 64 = .ok (.invokevirtual 34, 3) := by decide +kernel
theorem dX7_readDisc_67 : decode cX7_readDisc 67 = .ok (.ifCond .ne 5, 3) := by decide +kernel
theorem dX7_readDisc_70 : decode cX7_readDisc 70 = .ok (.iconst 0, 1) := by decide +kernel
theorem dX7_readDisc_71 : decode cX7_readDisc 71 = .ok (.ireturn, 1) := by decide +kernel
theorem dX7_readDisc_72 : decode cX7_readDisc 72 = .ok (.aload_n 1, 1) := by decide +kernel
theorem dX7_readDisc_73 : decode cX7_readDisc 73 = .ok (.aload_n 1, 1) := by decide +kernel
theorem dX7_readDisc_74 : decode cX7_readDisc 74 = .ok (.getfield 61, 3) := by decide +kernel
theorem dX7_readDisc_77 : decode cX7_readDisc 77 = .ok (.iload_n 2, 1) := by decide +kernel
theorem dX7_readDisc_78 : decode cX7_readDisc 78 = .ok (.invokevirtual 64, 3) := by decide +kernel
theorem dX7_readDisc_81 : decode cX7_readDisc 81 = .ok (.aload_n 1, 1) := by decide +kernel
theorem dX7_readDisc_82 : decode cX7_readDisc 82 = .ok (.aload_n 1, 1) := by decide +kernel
theorem dX7_readDisc_83 : decode cX7_readDisc 83 = .ok (.getfield 61, 3) := by decide +kernel
theorem dX7_readDisc_86 : decode cX7_readDisc 86 = .ok (.aload_n 0, 1) := by decide +kernel
theorem dX7_readDisc_87 : decode cX7_readDisc 87 = .ok (.getfield 42, 3) := by decide +kernel
theorem dX7_readDisc_90 : decode cX7_readDisc 90 = .ok (.invokevirtual 68, 3) := by decide +kernel
theorem dX7_readDisc_93 : decode cX7_readDisc 93 = .ok (.aload_n 1, 1) := by decide +kernel
theorem dX7_readDisc_94 : decode cX7_readDisc 94 = .ok (.dup, 1) := by decide +kernel
theorem dX7_readDisc_95 : decode cX7_readDisc 95 = .ok (.getfield 61, 3) := by decide +kernel
theorem dX7_readDisc_98 : decode cX7_readDisc 98 = .ok (.iconst 1, 1) := by decide +kernel
theorem dX7_readDisc_99 : decode cX7_readDisc 99 = .ok (.iadd, 1) := by decide +kernel
theorem dX7_readDisc_100 : decode cX7_readDisc 100 = .ok (.putfield 61, 3) := by decide +kernel
theorem dX7_readDisc_103 : decode cX7_readDisc 103 = .ok (.iconst 1, 1) := by decide +kernel
theorem dX7_readDisc_104 : decode cX7_readDisc 104 = .ok (.ireturn, 1) := by decide +kernel
def m_X7_readDisc (N : Nat) (σ : Hp) (t0 : Nat) (p1 : Nat) : Option (Int32 × Hp) :=
  (rv N σ t0 7).bind fun _ =>
  (gI N σ t0 7 2).bind fun x1 =>
  (m_X7_byteAt N σ t0 x1).bind fun r2 =>
  (m_X7_sortOf r2).bind fun r3 =>
  if r3 = 0 then
   (m_X7_faulty N σ t0 1).bind fun r23 =>
  (zb r23.1).bind fun u24 =>
  some (r23.1, r23.2)
  else
   (gI N σ p1 2 1).bind fun x5 =>
  if x5 < 6 then
   (gI N σ t0 7 2).bind fun x7 =>
  (pV N σ t0 7 2 (.int (x7 + 1))).bind fun σ8 =>
  (gI N σ8 p1 2 0).bind fun x9 =>
  (m_X7_readNumber N σ8 t0 0 (x9 - 1)).bind fun r10 =>
  if r10.1 = 0 then
   some (0, r10.2)
  else
   (m_X7_passes N r10.2 t0 59).bind fun r12 =>
  if r12.1 = 0 then
   some (0, r12.2)
  else
   (gI N r12.2 p1 2 1).bind fun x14 =>
  (m_X2_sortAs N r12.2 p1 x14 r3).bind fun r15 =>
  (gI N r15 p1 2 1).bind fun x16 =>
  (gI N r15 t0 7 4).bind fun x17 =>
  (m_X2_layBy N r15 p1 x16 x17).bind fun r18 =>
  (gI N r18 p1 2 1).bind fun x19 =>
  (pV N r18 p1 2 1 (.int (x19 + 1))).bind fun σ20 =>
  some (1, σ20)
  else
   (m_X7_faulty N σ t0 3).bind fun r21 =>
  (zb r21.1).bind fun u22 =>
  some (r21.1, r21.2)
set_option maxHeartbeats 4000000 in
set_option maxRecDepth 100000 in
theorem ct_X7_readDisc {l : Launch} {D : va_G} {cy : Nat → Nat} {N : Nat} {σ : Hp} {t0 : Nat} {p1 : Nat} {r : Int32 × Hp} (h : m_X7_readDisc N σ t0 p1 = some r) : Ct l D cy yX7_readDisc cX7_readDisc 3 (some .boolean) 2 [.ref t0, .ref p1] N σ (fun v s' => v = (some (.int r.1)) ∧ s' = r.2) := by
  refine Ct.intro [some (.ref t0), some (.ref p1), none] (by decide) rfl (Nat.le_of_ble_eq_true rfl) ?_
  intro κ ω e1 e2 e3 e4 C Z E
  subst e1; subst e2; subst e3; subst e4
  have C : Cx κ 3 2 cX7_readDisc RX7 "readDisc" := C
  have hE : ∀ x : Int32 × Hp, r = x → ((some (Value.int x.1)) = (some (Value.int r.1)) ∧ x.2 = r.2) := fun x hx => by subst hx; exact ⟨rfl, rfl⟩
  unfold m_X7_readDisc at h
  obtain ⟨_, _, h⟩ := ob h
  refine x_aload_n C (i := 0) dX7_readDisc_0 rfl rfl ?_
  refine x_aload_n C (i := 0) dX7_readDisc_1 rfl rfl ?_
  obtain ⟨x1, ex1, h⟩ := ob h
  refine x_getI C fl_X7_19 dX7_readDisc_2 ex1 ?_
  obtain ⟨r2, er2, h⟩ := ob h
  refine x_callVr C Z mv_X7_byteAt lk_X7_51 (rv_h er2) (ct_X7_byteAt er2) (by decide) rfl rfl (Nat.le_of_ble_eq_true rfl) dX7_readDisc_5 ?_
  obtain ⟨r3, er3, h⟩ := ob h
  refine x_callSr C Z ms_X7_sortOf lk_X7_55 (ct_X7_sortOf (N := ω.1) (σ := σ) er3) (by decide) rfl rfl (Nat.le_of_ble_eq_true rfl) dX7_readDisc_8 ?_
  refine x_istore_n C (i := 2) (lo' := [some (.ref t0), some (.ref p1), some (.int r3)]) dX7_readDisc_11 rfl (by decide) rfl rfl ?_
  refine x_iload_n C (i := 2) dX7_readDisc_12 rfl rfl ?_
  refine x_if_ne C (tgt := 22) dX7_readDisc_13 (by decide) (fun c4 => ?_) (fun c4 => ?_)
  · have h := ifN h c4
    refine x_aload_n C (i := 1) dX7_readDisc_22 rfl rfl ?_
    obtain ⟨x5, ex5, h⟩ := ob h
    refine x_getI C fl_X7_61 dX7_readDisc_23 ex5 ?_
    refine x_bipush C (v := 6) dX7_readDisc_26 (by decide) ?_
    refine x_icmp_lt C (tgt := 37) dX7_readDisc_28 (by decide) (fun c6 => ?_) (fun c6 => ?_)
    · have h := ifP h c6
      refine x_aload_n C (i := 0) dX7_readDisc_37 rfl rfl ?_
      refine x_dup C dX7_readDisc_38 rfl ?_
      obtain ⟨x7, ex7, h⟩ := ob h
      refine x_getI C fl_X7_19 dX7_readDisc_39 ex7 ?_
      refine x_iconst C (v := 1) dX7_readDisc_42 (by decide) ?_
      refine x_iadd C dX7_readDisc_43 ?_
      obtain ⟨σ8, eσ8, h⟩ := ob h
      refine x_put C pl_X7_19 dX7_readDisc_44 (fun _ => ⟨rfl, rfl⟩) eσ8 ?_
      refine x_aload_n C (i := 0) dX7_readDisc_47 rfl rfl ?_
      refine x_iconst C (v := 0) dX7_readDisc_48 (by decide) ?_
      refine x_aload_n C (i := 1) dX7_readDisc_49 rfl rfl ?_
      obtain ⟨x9, ex9, h⟩ := ob h
      refine x_getI C fl_X7_45 dX7_readDisc_50 ex9 ?_
      refine x_iconst C (v := 1) dX7_readDisc_53 (by decide) ?_
      refine x_isub C dX7_readDisc_54 ?_
      obtain ⟨r10, er10, h⟩ := ob h
      refine x_callVr C Z mv_X7_readNumber lk_X7_38 (rv_h er10) (ct_X7_readNumber er10) (by decide) rfl rfl (Nat.le_of_ble_eq_true rfl) dX7_readDisc_55 ?_
      refine x_if_eq C (tgt := 70) dX7_readDisc_58 (by decide) (fun c11 => ?_) (fun c11 => ?_)
      · have h := ifP h c11
        refine x_iconst C (v := 0) dX7_readDisc_70 (by decide) ?_
        exact x_zret C E (by decide +kernel) dX7_readDisc_71 (hE (0, r10.2) (Option.some.inj h).symm)
      · have h := ifN h c11
        refine x_aload_n C (i := 0) dX7_readDisc_61 rfl rfl ?_
        refine x_bipush C (v := 59) dX7_readDisc_62 (by decide) ?_
        obtain ⟨r12, er12, h⟩ := ob h
        refine x_callVr C Z mv_X7_passes lk_X7_34 (rv_h er12) (ct_X7_passes er12) (by decide) rfl rfl (Nat.le_of_ble_eq_true rfl) dX7_readDisc_64 ?_
        refine x_if_ne C (tgt := 72) dX7_readDisc_67 (by decide) (fun c13 => ?_) (fun c13 => ?_)
        · have h := ifN h c13
          refine x_aload_n C (i := 1) dX7_readDisc_72 rfl rfl ?_
          refine x_aload_n C (i := 1) dX7_readDisc_73 rfl rfl ?_
          obtain ⟨x14, ex14, h⟩ := ob h
          refine x_getI C fl_X7_61 dX7_readDisc_74 ex14 ?_
          refine x_iload_n C (i := 2) dX7_readDisc_77 rfl rfl ?_
          obtain ⟨r15, er15, h⟩ := ob h
          refine x_callVn C Z mv_X2_sortAs lk_X7_64 (rv_h er15) (ct_X2_sortAs er15) (by decide) rfl rfl (Nat.le_of_ble_eq_true rfl) dX7_readDisc_78 ?_
          refine x_aload_n C (i := 1) dX7_readDisc_81 rfl rfl ?_
          refine x_aload_n C (i := 1) dX7_readDisc_82 rfl rfl ?_
          obtain ⟨x16, ex16, h⟩ := ob h
          refine x_getI C fl_X7_61 dX7_readDisc_83 ex16 ?_
          refine x_aload_n C (i := 0) dX7_readDisc_86 rfl rfl ?_
          obtain ⟨x17, ex17, h⟩ := ob h
          refine x_getI C fl_X7_42 dX7_readDisc_87 ex17 ?_
          obtain ⟨r18, er18, h⟩ := ob h
          refine x_callVn C Z mv_X2_layBy lk_X7_68 (rv_h er18) (ct_X2_layBy er18) (by decide) rfl rfl (Nat.le_of_ble_eq_true rfl) dX7_readDisc_90 ?_
          refine x_aload_n C (i := 1) dX7_readDisc_93 rfl rfl ?_
          refine x_dup C dX7_readDisc_94 rfl ?_
          obtain ⟨x19, ex19, h⟩ := ob h
          refine x_getI C fl_X7_61 dX7_readDisc_95 ex19 ?_
          refine x_iconst C (v := 1) dX7_readDisc_98 (by decide) ?_
          refine x_iadd C dX7_readDisc_99 ?_
          obtain ⟨σ20, eσ20, h⟩ := ob h
          refine x_put C pl_X7_61 dX7_readDisc_100 (fun _ => ⟨rfl, rfl⟩) eσ20 ?_
          refine x_iconst C (v := 1) dX7_readDisc_103 (by decide) ?_
          exact x_zret C E (by decide +kernel) dX7_readDisc_104 (hE (1, σ20) (Option.some.inj h).symm)
        · have h := ifP h c13
          refine x_iconst C (v := 0) dX7_readDisc_70 (by decide) ?_
          exact x_zret C E (by decide +kernel) dX7_readDisc_71 (hE (0, r12.2) (Option.some.inj h).symm)
    · have h := ifN h c6
      refine x_aload_n C (i := 0) dX7_readDisc_31 rfl rfl ?_
      refine x_iconst C (v := 3) dX7_readDisc_32 (by decide) ?_
      obtain ⟨r21, er21, h⟩ := ob h
      refine x_callVr C Z mv_X7_faulty lk_X7_58 (rv_h er21) (ct_X7_faulty er21) (by decide) rfl rfl (Nat.le_of_ble_eq_true rfl) dX7_readDisc_33 ?_
      obtain ⟨u22, eu22, h⟩ := ob h
      exact x_zret C E (zb_n eu22) dX7_readDisc_36 (hE (r21.1, r21.2) (Option.some.inj h).symm)
  · have h := ifP h c4
    refine x_aload_n C (i := 0) dX7_readDisc_16 rfl rfl ?_
    refine x_iconst C (v := 1) dX7_readDisc_17 (by decide) ?_
    obtain ⟨r23, er23, h⟩ := ob h
    refine x_callVr C Z mv_X7_faulty lk_X7_58 (rv_h er23) (ct_X7_faulty er23) (by decide) rfl rfl (Nat.le_of_ble_eq_true rfl) dX7_readDisc_18 ?_
    obtain ⟨u24, eu24, h⟩ := ob h
    exact x_zret C E (zb_n eu24) dX7_readDisc_21 (hE (r23.1, r23.2) (Option.some.inj h).symm)
theorem dX7_readInto_0 : decode cX7_readInto 0 = .ok (.aload_n 0, 1) := by decide +kernel
theorem dX7_readInto_1 : decode cX7_readInto 1 = .ok (.iconst 0, 1) := by decide +kernel
theorem dX7_readInto_2 : decode cX7_readInto 2 = .ok (.putfield 19, 3) := by decide +kernel
theorem dX7_readInto_5 : decode cX7_readInto 5 = .ok (.aload_n 1, 1) := by decide +kernel
theorem dX7_readInto_6 : decode cX7_readInto 6 = .ok (.invokevirtual 22, 3) := by decide +kernel
theorem dX7_readInto_9 : decode cX7_readInto 9 = .ok (.aload_n 0, 1) := by decide +kernel
theorem dX7_readInto_10 : decode cX7_readInto 10 = .ok (.aload_n 1, 1) := by decide +kernel
theorem dX7_readInto_11 : decode cX7_readInto 11 = .ok (.invokevirtual 27, 3) := by decide +kernel
theorem dX7_readInto_14 : decode cX7_readInto 14 = .ok (.ifCond .ne 5, 3) := by decide +kernel
theorem dX7_readInto_17 : decode cX7_readInto 17 = .ok (.iconst 0, 1) := by decide +kernel
theorem dX7_readInto_18 : decode cX7_readInto 18 = .ok (.ireturn, 1) := by decide +kernel
theorem dX7_readInto_19 : decode cX7_readInto 19 = .ok (.iconst 0, 1) := by decide +kernel
theorem dX7_readInto_20 : decode cX7_readInto 20 = .ok (.istore_n 2, 1) := by decide +kernel
theorem dX7_readInto_21 : decode cX7_readInto 21 = .ok (.iload_n 2, 1) := by decide +kernel
theorem dX7_readInto_22 : decode cX7_readInto 22 = .ok (.bipush 6, 2) := by decide +kernel
theorem dX7_readInto_24 : decode cX7_readInto 24 = .ok (.if_icmp .gt 36, 3) := by decide +kernel
theorem dX7_readInto_27 : decode cX7_readInto 27 = .ok (.iload_n 2, 1) := by decide +kernel
theorem dX7_readInto_28 : decode cX7_readInto 28 = .ok (.ifCond .le 16, 3) := by decide +kernel
theorem dX7_readInto_31 : decode cX7_readInto 31 = .ok (.aload_n 0, 1) := by decide +kernel
theorem dX7_readInto_32 : decode cX7_readInto 32 = .ok (.getfield 19, 3) := by decide +kernel
theorem dX7_readInto_35 : decode cX7_readInto 35 = .ok (.aload_n 0, 1) := by decide +kernel
theorem dX7_readInto_36 : decode cX7_readInto 36 = .ok (.getfield 15, 3) := by decide +kernel
theorem dX7_readInto_39 : decode cX7_readInto 39 = .ok (.if_icmp .lt 5, 3) := by decide +kernel
theorem dX7_readInto_42 : decode cX7_readInto 42 = .ok (.iconst 1, 1) := by decide +kernel
theorem dX7_readInto_43 : decode cX7_readInto 43 = .ok (.ireturn, 1) := by decide +kernel
theorem dX7_readInto_44 : decode cX7_readInto 44 = .ok (.aload_n 0, 1) := by decide +kernel
theorem dX7_readInto_45 : decode cX7_readInto 45 = .ok (.aload_n 1, 1) := by decide +kernel
theorem dX7_readInto_46 : decode cX7_readInto 46 = .ok (.invokevirtual 31, 3) := by decide +kernel
theorem dX7_readInto_49 : decode cX7_readInto 49 = .ok (.ifCond .ne 5, 3) := by decide +kernel
theorem dX7_readInto_52 : decode cX7_readInto 52 = .ok (.iconst 0, 1) := by decide +kernel
theorem dX7_readInto_53 : decode cX7_readInto 53 = .ok (.ireturn, 1) := by decide +kernel
theorem dX7_readInto_54 : decode cX7_readInto 54 = .ok (.iinc 2 1, 3) := by decide +kernel
theorem dX7_readInto_57 : decode cX7_readInto 57 = .ok (.goto (-36), 3) := by decide +kernel
theorem dX7_readInto_60 : decode cX7_readInto 60 = .ok (.iconst 1, 1) := by decide +kernel
theorem dX7_readInto_61 : decode cX7_readInto 61 = .ok (.ireturn, 1) := by decide +kernel
def L_X7_readInto_21 (N : Nat) (v0 : Nat) (v1 : Nat) : Nat → Hp → Int32 → Option ((Hp) ⊕ (Int32 × Hp))
  | 0, _, _ => none
  | n + 1, σ, v2 =>
  if 6 < v2 then
   some (.inl σ)
  else
   if v2 ≤ 0 then
   (m_X7_readDisc N σ v0 v1).bind fun r7 =>
  if r7.1 = 0 then
   some (.inr (0, r7.2))
  else
   L_X7_readInto_21 N v0 v1 n r7.2 (v2 + 1)
  else
   (gI N σ v0 7 2).bind fun x9 =>
  (gI N σ v0 7 1).bind fun x10 =>
  if x9 < x10 then
   (m_X7_readDisc N σ v0 v1).bind fun r12 =>
  if r12.1 = 0 then
   some (.inr (0, r12.2))
  else
   L_X7_readInto_21 N v0 v1 n r12.2 (v2 + 1)
  else
   some (.inr (1, σ))
def m_X7_readInto (N : Nat) (σ : Hp) (t0 : Nat) (p1 : Nat) : Option (Int32 × Hp) :=
  (rv N σ t0 7).bind fun _ =>
  (pV N σ t0 7 2 (.int 0)).bind fun σ1 =>
  (m_X2_clear N σ1 p1).bind fun r2 =>
  (m_X7_readLaw N r2 t0 p1).bind fun r3 =>
  if r3.1 = 0 then
   some (0, r3.2)
  else
   (L_X7_readInto_21 N t0 p1 fu r3.2 0).bind fun z14 =>
  cS z14 (fun w15 => some (1, w15)) (fun q16 => some q16)
set_option maxHeartbeats 4000000 in
set_option maxRecDepth 100000 in
theorem lp_X7_readInto_21 {κ : Kx} {ω : Om} (C : Cx κ 3 3 cX7_readInto RX7 "readInto") (Z : Zx κ ω) {Post : Option Value → Hp → Prop} (E : Rt κ ω (some .boolean) Post) (v0 : Nat) (v1 : Nat) {r : (Hp) ⊕ (Int32 × Hp)} (hE : ∀ x : Int32 × Hp, r = .inr x → Post (some (.int x.1)) x.2) (hk : ∀ u, r = .inl u → X κ 3 ω 60 [none, none, none] [] u) : ∀ (n : Nat) (σ : Hp) (v2 : Int32), L_X7_readInto_21 ω.1 v0 v1 n σ v2 = some r → X κ 3 ω 21 [some (.ref v0), some (.ref v1), some (.int v2)] [] σ := by
  intro n
  induction n with
  | zero => intro σ v2 h; cases h
  | succ n ih =>
    intro σ v2 h
    rw [L_X7_readInto_21.eq_2] at h
    refine x_iload_n C (i := 2) dX7_readInto_21 rfl rfl ?_
    refine x_bipush C (v := 6) dX7_readInto_22 (by decide) ?_
    refine x_icmp_gt C (tgt := 60) dX7_readInto_24 (by decide) (fun c5 => ?_) (fun c5 => ?_)
    · have h := ifP h c5
      refine x_wk [false, false, false] (lo' := [none, none, none]) rfl ?_
      exact hk _ (Option.some.inj h).symm
    · have h := ifN h c5
      refine x_iload_n C (i := 2) dX7_readInto_27 rfl rfl ?_
      refine x_if_le C (tgt := 44) dX7_readInto_28 (by decide) (fun c6 => ?_) (fun c6 => ?_)
      · have h := ifP h c6
        refine x_aload_n C (i := 0) dX7_readInto_44 rfl rfl ?_
        refine x_aload_n C (i := 1) dX7_readInto_45 rfl rfl ?_
        obtain ⟨r7, er7, h⟩ := ob h
        refine x_callVr C Z mv_X7_readDisc lk_X7_31 (rv_h er7) (ct_X7_readDisc er7) (by decide) rfl rfl (Nat.le_of_ble_eq_true rfl) dX7_readInto_46 ?_
        refine x_if_ne C (tgt := 54) dX7_readInto_49 (by decide) (fun c8 => ?_) (fun c8 => ?_)
        · have h := ifN h c8
          refine x_iinc C (i := 2) (y := v2 + 1) (lo' := [some (.ref v0), some (.ref v1), some (.int (v2 + 1))]) dX7_readInto_54 rfl rfl (by decide) rfl rfl ?_
          refine x_goto C (tgt := 21) dX7_readInto_57 (by decide) ?_
          refine x_wk [true, true, true] (lo' := [some (.ref v0), some (.ref v1), some (.int (v2 + 1))]) rfl ?_
          exact ih r7.2 (v2 + 1) h
        · have h := ifP h c8
          refine x_iconst C (v := 0) dX7_readInto_52 (by decide) ?_
          exact x_zret C E (by decide +kernel) dX7_readInto_53 (hE (0, r7.2) (Option.some.inj h).symm)
      · have h := ifN h c6
        refine x_aload_n C (i := 0) dX7_readInto_31 rfl rfl ?_
        obtain ⟨x9, ex9, h⟩ := ob h
        refine x_getI C fl_X7_19 dX7_readInto_32 ex9 ?_
        refine x_aload_n C (i := 0) dX7_readInto_35 rfl rfl ?_
        obtain ⟨x10, ex10, h⟩ := ob h
        refine x_getI C fl_X7_15 dX7_readInto_36 ex10 ?_
        refine x_icmp_lt C (tgt := 44) dX7_readInto_39 (by decide) (fun c11 => ?_) (fun c11 => ?_)
        · have h := ifP h c11
          refine x_aload_n C (i := 0) dX7_readInto_44 rfl rfl ?_
          refine x_aload_n C (i := 1) dX7_readInto_45 rfl rfl ?_
          obtain ⟨r12, er12, h⟩ := ob h
          refine x_callVr C Z mv_X7_readDisc lk_X7_31 (rv_h er12) (ct_X7_readDisc er12) (by decide) rfl rfl (Nat.le_of_ble_eq_true rfl) dX7_readInto_46 ?_
          refine x_if_ne C (tgt := 54) dX7_readInto_49 (by decide) (fun c13 => ?_) (fun c13 => ?_)
          · have h := ifN h c13
            refine x_iinc C (i := 2) (y := v2 + 1) (lo' := [some (.ref v0), some (.ref v1), some (.int (v2 + 1))]) dX7_readInto_54 rfl rfl (by decide) rfl rfl ?_
            refine x_goto C (tgt := 21) dX7_readInto_57 (by decide) ?_
            refine x_wk [true, true, true] (lo' := [some (.ref v0), some (.ref v1), some (.int (v2 + 1))]) rfl ?_
            exact ih r12.2 (v2 + 1) h
          · have h := ifP h c13
            refine x_iconst C (v := 0) dX7_readInto_52 (by decide) ?_
            exact x_zret C E (by decide +kernel) dX7_readInto_53 (hE (0, r12.2) (Option.some.inj h).symm)
        · have h := ifN h c11
          refine x_iconst C (v := 1) dX7_readInto_42 (by decide) ?_
          exact x_zret C E (by decide +kernel) dX7_readInto_43 (hE (1, σ) (Option.some.inj h).symm)
set_option maxHeartbeats 4000000 in
set_option maxRecDepth 100000 in
theorem ct_X7_readInto {l : Launch} {D : va_G} {cy : Nat → Nat} {N : Nat} {σ : Hp} {t0 : Nat} {p1 : Nat} {r : Int32 × Hp} (h : m_X7_readInto N σ t0 p1 = some r) : Ct l D cy yX7_readInto cX7_readInto 3 (some .boolean) 3 [.ref t0, .ref p1] N σ (fun v s' => v = (some (.int r.1)) ∧ s' = r.2) := by
  refine Ct.intro [some (.ref t0), some (.ref p1), none] (by decide) rfl (Nat.le_of_ble_eq_true rfl) ?_
  intro κ ω e1 e2 e3 e4 C Z E
  subst e1; subst e2; subst e3; subst e4
  have C : Cx κ 3 3 cX7_readInto RX7 "readInto" := C
  have hE : ∀ x : Int32 × Hp, r = x → ((some (Value.int x.1)) = (some (Value.int r.1)) ∧ x.2 = r.2) := fun x hx => by subst hx; exact ⟨rfl, rfl⟩
  unfold m_X7_readInto at h
  obtain ⟨_, _, h⟩ := ob h
  refine x_aload_n C (i := 0) dX7_readInto_0 rfl rfl ?_
  refine x_iconst C (v := 0) dX7_readInto_1 (by decide) ?_
  obtain ⟨σ1, eσ1, h⟩ := ob h
  refine x_put C pl_X7_19 dX7_readInto_2 (fun _ => ⟨rfl, rfl⟩) eσ1 ?_
  refine x_aload_n C (i := 1) dX7_readInto_5 rfl rfl ?_
  obtain ⟨r2, er2, h⟩ := ob h
  refine x_callVn C Z mv_X2_clear lk_X7_22 (rv_h er2) (ct_X2_clear er2) (by decide) rfl rfl (Nat.le_of_ble_eq_true rfl) dX7_readInto_6 ?_
  refine x_aload_n C (i := 0) dX7_readInto_9 rfl rfl ?_
  refine x_aload_n C (i := 1) dX7_readInto_10 rfl rfl ?_
  obtain ⟨r3, er3, h⟩ := ob h
  refine x_callVr C Z mv_X7_readLaw lk_X7_27 (rv_h er3) (ct_X7_readLaw er3) (by decide) rfl rfl (Nat.le_of_ble_eq_true rfl) dX7_readInto_11 ?_
  refine x_if_ne C (tgt := 19) dX7_readInto_14 (by decide) (fun c4 => ?_) (fun c4 => ?_)
  · have h := ifN h c4
    refine x_iconst C (v := 0) dX7_readInto_19 (by decide) ?_
    refine x_istore_n C (i := 2) (lo' := [some (.ref t0), some (.ref p1), some (.int 0)]) dX7_readInto_20 rfl (by decide) rfl rfl ?_
    obtain ⟨z14, ez14, h⟩ := ob h
    refine x_wk [true, true, true] (lo' := [some (.ref t0), some (.ref p1), some (.int 0)]) rfl ?_
    refine lp_X7_readInto_21 C Z E t0 p1 (fun q16 hx => by subst hx; have h := cS_r h; exact hE q16 (Option.some.inj h).symm) (fun w15 hu => ?_) _ r3.2 0 ez14
    subst hu
    have h := cS_l h
    refine x_iconst C (v := 1) dX7_readInto_60 (by decide) ?_
    exact x_zret C E (by decide +kernel) dX7_readInto_61 (hE (1, w15) (Option.some.inj h).symm)
  · have h := ifP h c4
    refine x_iconst C (v := 0) dX7_readInto_17 (by decide) ?_
    exact x_zret C E (by decide +kernel) dX7_readInto_18 (hE (0, r3.2) (Option.some.inj h).symm)
theorem dX8_init_0 : decode cX8_init 0 = .ok (.aload_n 0, 1) := by decide +kernel
theorem dX8_init_1 : decode cX8_init 1 = .ok (.invokespecial 1, 3) := by decide +kernel
theorem dX8_init_4 : decode cX8_init 4 = .ok (.aload_n 0, 1) := by decide +kernel
theorem dX8_init_5 : decode cX8_init 5 = .ok (.bipush 8, 2) := by decide +kernel
theorem dX8_init_7 : decode cX8_init 7 = .ok (.anewarray 9, 3) := by decide +kernel
theorem dX8_init_10 : decode cX8_init 10 = .ok (.putfield 11, 3) := by decide +kernel
theorem dX8_init_13 : decode cX8_init 13 = .ok (.aload_n 0, 1) := by decide +kernel
theorem dX8_init_14 : decode cX8_init 14 = .ok (.new 15, 3) := by decide +kernel
theorem dX8_init_17 : decode cX8_init 17 = .ok (.dup, 1) := by decide +kernel
theorem dX8_init_18 : decode cX8_init 18 = .ok (.invokespecial 17, 3) := by decide +kernel
theorem dX8_init_21 : decode cX8_init 21 = .ok (.putfield 18, 3) := by decide +kernel
theorem dX8_init_24 : decode cX8_init 24 = .ok (.aload_n 0, 1) := by decide +kernel
theorem dX8_init_25 : decode cX8_init 25 = .ok (.new 22, 3) := by decide +kernel
theorem dX8_init_28 : decode cX8_init 28 = .ok (.dup, 1) := by decide +kernel
theorem dX8_init_29 : decode cX8_init 29 = .ok (.invokespecial 24, 3) := by decide +kernel
theorem dX8_init_32 : decode cX8_init 32 = .ok (.putfield 25, 3) := by decide +kernel
theorem dX8_init_35 : decode cX8_init 35 = .ok (.aload_n 0, 1) := by decide +kernel
theorem dX8_init_36 : decode cX8_init 36 = .ok (.new 22, 3) := by decide +kernel
theorem dX8_init_39 : decode cX8_init 39 = .ok (.dup, 1) := by decide +kernel
theorem dX8_init_40 : decode cX8_init 40 = .ok (.invokespecial 24, 3) := by decide +kernel
theorem dX8_init_43 : decode cX8_init 43 = .ok (.putfield 29, 3) := by decide +kernel
theorem dX8_init_46 : decode cX8_init 46 = .ok (.aload_n 0, 1) := by decide +kernel
theorem dX8_init_47 : decode cX8_init 47 = .ok (.new 32, 3) := by decide +kernel
theorem dX8_init_50 : decode cX8_init 50 = .ok (.dup, 1) := by decide +kernel
theorem dX8_init_51 : decode cX8_init 51 = .ok (.invokespecial 34, 3) := by decide +kernel
theorem dX8_init_54 : decode cX8_init 54 = .ok (.putfield 35, 3) := by decide +kernel
theorem dX8_init_57 : decode cX8_init 57 = .ok (.aload_n 0, 1) := by decide +kernel
theorem dX8_init_58 : decode cX8_init 58 = .ok (.iconst 2, 1) := by decide +kernel
theorem dX8_init_59 : decode cX8_init 59 = .ok (.anewarray 22, 3) := by decide +kernel
theorem dX8_init_62 : decode cX8_init 62 = .ok (.putfield 39, 3) := by decide +kernel
theorem dX8_init_65 : decode cX8_init 65 = .ok (.aload_n 0, 1) := by decide +kernel
theorem dX8_init_66 : decode cX8_init 66 = .ok (.new 43, 3) := by decide +kernel
theorem dX8_init_69 : decode cX8_init 69 = .ok (.dup, 1) := by decide +kernel
theorem dX8_init_70 : decode cX8_init 70 = .ok (.invokespecial 45, 3) := by decide +kernel
theorem dX8_init_73 : decode cX8_init 73 = .ok (.putfield 46, 3) := by decide +kernel
theorem dX8_init_76 : decode cX8_init 76 = .ok (.iconst 0, 1) := by decide +kernel
theorem dX8_init_77 : decode cX8_init 77 = .ok (.istore_n 1, 1) := by decide +kernel
theorem dX8_init_78 : decode cX8_init 78 = .ok (.iload_n 1, 1) := by decide +kernel
theorem dX8_init_79 : decode cX8_init 79 = .ok (.bipush 8, 2) := by decide +kernel
theorem dX8_init_81 : decode cX8_init 81 = .ok (.if_icmp .ge 22, 3) := by decide +kernel
theorem dX8_init_84 : decode cX8_init 84 = .ok (.aload_n 0, 1) := by decide +kernel
theorem dX8_init_85 : decode cX8_init 85 = .ok (.getfield 11, 3) := by decide +kernel
theorem dX8_init_88 : decode cX8_init 88 = .ok (.iload_n 1, 1) := by decide +kernel
theorem dX8_init_89 : decode cX8_init 89 = .ok (.new 9, 3) := by decide +kernel
theorem dX8_init_92 : decode cX8_init 92 = .ok (.dup, 1) := by decide +kernel
theorem dX8_init_93 : decode cX8_init 93 = .ok (.invokespecial 50, 3) := by decide +kernel
theorem dX8_init_96 : decode cX8_init 96 = .ok (.aastore, 1) := by decide +kernel
theorem dX8_init_97 : decode cX8_init 97 = .ok (.iinc 1 1, 3) := by decide +kernel
theorem dX8_init_100 : decode cX8_init 100 = .ok (.goto (-22), 3) := by decide +kernel
theorem dX8_init_103 : decode cX8_init 103 = .ok (.iconst 0, 1) := by decide +kernel
theorem dX8_init_104 : decode cX8_init 104 = .ok (.istore_n 1, 1) := by decide +kernel
theorem dX8_init_105 : decode cX8_init 105 = .ok (.iload_n 1, 1) := by decide +kernel
theorem dX8_init_106 : decode cX8_init 106 = .ok (.iconst 2, 1) := by decide +kernel
theorem dX8_init_107 : decode cX8_init 107 = .ok (.if_icmp .ge 22, 3) := by decide +kernel
theorem dX8_init_110 : decode cX8_init 110 = .ok (.aload_n 0, 1) := by decide +kernel
theorem dX8_init_111 : decode cX8_init 111 = .ok (.getfield 39, 3) := by decide +kernel
theorem dX8_init_114 : decode cX8_init 114 = .ok (.iload_n 1, 1) := by decide +kernel
theorem dX8_init_115 : decode cX8_init 115 = .ok (.new 22, 3) := by decide +kernel
theorem dX8_init_118 : decode cX8_init 118 = .ok (.dup, 1) := by decide +kernel
theorem dX8_init_119 : decode cX8_init 119 = .ok (.invokespecial 24, 3) := by decide +kernel
theorem dX8_init_122 : decode cX8_init 122 = .ok (.aastore, 1) := by decide +kernel
theorem dX8_init_123 : decode cX8_init 123 = .ok (.iinc 1 1, 3) := by decide +kernel
theorem dX8_init_126 : decode cX8_init 126 = .ok (.goto (-21), 3) := by decide +kernel
theorem dX8_init_129 : decode cX8_init 129 = .ok (.return_, 1) := by decide +kernel
noncomputable def L_X8_init_78 (v0 : Nat) : Nat → Nat → Nat → Nat → Hp → Int32 → Option (Nat × Nat × Nat × Hp)
  | 0, _, _, _, _, _ => none
  | n + 1, N, c, s, σ, v1 =>
  if 8 ≤ v1 then
   some (N, c, s, σ)
  else
   (gR N σ v0 8 0).bind fun x38 =>
  (al N σ [v0, x38] (c + 1) (s + 3) 52 636).bind fun u39 =>
  (mkc σ N (.inr (5, [.int 0, .int 0, .null]))).bind fun σ40 =>
  (al (N + 1) σ40 [v0, N, x38] (c + 1 + 1) (s + 3 + 40) 52 636).bind fun u41 =>
  (m_X5_init (N + 1) σ40 N).bind fun r43 =>
  (nb r43.1).bind fun u42 =>
  (sR 5 5 r43.1 r43.2 x38 v1 N).bind fun σ44 =>
  L_X8_init_78 v0 n r43.1 (c + 1 + 1) (s + 3 + 40) σ44 (v1 + 1)
noncomputable def L_X8_init_105 (v0 : Nat) : Nat → Nat → Nat → Nat → Hp → Int32 → Option (Nat × Nat × Nat × Hp)
  | 0, _, _, _, _, _ => none
  | n + 1, N, c, s, σ, v1 =>
  if 2 ≤ v1 then
   some (N, c, s, σ)
  else
   (gR N σ v0 8 5).bind fun x47 =>
  (al N σ [v0, x47] (c + 1) (s + 6) 52 636).bind fun u48 =>
  (mkc σ N (.inr (2, [.int 0, .int 0, .int 0, .int 0, .int 0, .int 0]))).bind fun σ49 =>
  (al (N + 1) σ49 [v0, N, x47] (c + 1 + 0) (s + 6 + 0) 52 636).bind fun u50 =>
  (m_X2_init (N + 1) σ49 N).bind fun r52 =>
  (nb r52.1).bind fun u51 =>
  (sR 4 2 r52.1 r52.2 x47 v1 N).bind fun σ53 =>
  L_X8_init_105 v0 n r52.1 (c + 1 + 0) (s + 6 + 0) σ53 (v1 + 1)
noncomputable def m_X8_init (N : Nat) (σ : Hp) (t0 : Nat) : Option (Nat × Hp) :=
  (al N σ [t0, t0] (0 + 1) (0 + 8) 52 636).bind fun u1 =>
  (mkc σ N (.inl (5, 8, .inr (.inr (.inr (.inr (fun _ => none))))))).bind fun σ2 =>
  (pV (N + 1) σ2 t0 8 0 (.ref N)).bind fun σ3 =>
  (al (N + 1) σ3 [t0, t0] (0 + 1 + 1) (0 + 8 + 5) 52 636).bind fun u4 =>
  (mkc σ3 (N + 1) (.inr (7, [.null, .int 0, .int 0, .int 0, .int 0]))).bind fun σ5 =>
  (al (N + 1 + 1) σ5 [t0, N + 1, t0] (0 + 1 + 1 + 1) (0 + 8 + 5 + 60) 52 636).bind fun u6 =>
  (m_X7_init (N + 1 + 1) σ5 (N + 1)).bind fun r8 =>
  (nb r8.1).bind fun u7 =>
  (pV r8.1 r8.2 t0 8 1 (.ref (N + 1))).bind fun σ9 =>
  (al r8.1 σ9 [t0, t0] (0 + 1 + 1 + 1 + 1) (0 + 8 + 5 + 60 + 6) 52 636).bind fun u10 =>
  (mkc σ9 r8.1 (.inr (2, [.int 0, .int 0, .int 0, .int 0, .int 0, .int 0]))).bind fun σ11 =>
  (al (r8.1 + 1) σ11 [t0, r8.1, t0] (0 + 1 + 1 + 1 + 1 + 0) (0 + 8 + 5 + 60 + 6 + 0) 52 636).bind fun u12 =>
  (m_X2_init (r8.1 + 1) σ11 r8.1).bind fun r14 =>
  (nb r14.1).bind fun u13 =>
  (pV r14.1 r14.2 t0 8 2 (.ref r8.1)).bind fun σ15 =>
  (al r14.1 σ15 [t0, t0] (0 + 1 + 1 + 1 + 1 + 0 + 1) (0 + 8 + 5 + 60 + 6 + 0 + 6) 52 636).bind fun u16 =>
  (mkc σ15 r14.1 (.inr (2, [.int 0, .int 0, .int 0, .int 0, .int 0, .int 0]))).bind fun σ17 =>
  (al (r14.1 + 1) σ17 [t0, r14.1, t0] (0 + 1 + 1 + 1 + 1 + 0 + 1 + 0) (0 + 8 + 5 + 60 + 6 + 0 + 6 + 0) 52 636).bind fun u18 =>
  (m_X2_init (r14.1 + 1) σ17 r14.1).bind fun r20 =>
  (nb r20.1).bind fun u19 =>
  (pV r20.1 r20.2 t0 8 3 (.ref r14.1)).bind fun σ21 =>
  (al r20.1 σ21 [t0, t0] (0 + 1 + 1 + 1 + 1 + 0 + 1 + 0 + 1) (0 + 8 + 5 + 60 + 6 + 0 + 6 + 0 + 3) 52 636).bind fun u22 =>
  (mkc σ21 r20.1 (.inr (0, [.null, .int 0, .int 0]))).bind fun σ23 =>
  (al (r20.1 + 1) σ23 [t0, r20.1, t0] (0 + 1 + 1 + 1 + 1 + 0 + 1 + 0 + 1 + 25) (0 + 8 + 5 + 60 + 6 + 0 + 6 + 0 + 3 + 168) 52 636).bind fun u24 =>
  (m_X0_init (r20.1 + 1) σ23 r20.1).bind fun r26 =>
  (nb r26.1).bind fun u25 =>
  (pV r26.1 r26.2 t0 8 4 (.ref r20.1)).bind fun σ27 =>
  (al r26.1 σ27 [t0, t0] (0 + 1 + 1 + 1 + 1 + 0 + 1 + 0 + 1 + 25 + 1) (0 + 8 + 5 + 60 + 6 + 0 + 6 + 0 + 3 + 168 + 2) 52 636).bind fun u28 =>
  (mkc σ27 r26.1 (.inl (4, 2, .inr (.inr (.inr (.inr (fun _ => none))))))).bind fun σ29 =>
  (pV (r26.1 + 1) σ29 t0 8 5 (.ref r26.1)).bind fun σ30 =>
  (al (r26.1 + 1) σ30 [t0, t0] (0 + 1 + 1 + 1 + 1 + 0 + 1 + 0 + 1 + 25 + 1 + 1) (0 + 8 + 5 + 60 + 6 + 0 + 6 + 0 + 3 + 168 + 2 + 6) 52 636).bind fun u31 =>
  (mkc σ30 (r26.1 + 1) (.inr (1, [.null, .int 0, .int 0, .int 0, .int 0, .int 0]))).bind fun σ32 =>
  (al (r26.1 + 1 + 1) σ32 [t0, r26.1 + 1, t0] (0 + 1 + 1 + 1 + 1 + 0 + 1 + 0 + 1 + 25 + 1 + 1 + 1) (0 + 8 + 5 + 60 + 6 + 0 + 6 + 0 + 3 + 168 + 2 + 6 + 16) 52 636).bind fun u33 =>
  (m_X1_init (r26.1 + 1 + 1) σ32 (r26.1 + 1)).bind fun r35 =>
  (nb r35.1).bind fun u34 =>
  (pV r35.1 r35.2 t0 8 6 (.ref (r26.1 + 1))).bind fun σ36 =>
  (L_X8_init_78 t0 fu r35.1 (0 + 1 + 1 + 1 + 1 + 0 + 1 + 0 + 1 + 25 + 1 + 1 + 1) (0 + 8 + 5 + 60 + 6 + 0 + 6 + 0 + 3 + 168 + 2 + 6 + 16) σ36 0).bind fun z45 =>
  (L_X8_init_105 t0 fu z45.1 z45.2.1 z45.2.2.1 z45.2.2.2 0).bind fun z54 =>
  some (z54.1, z54.2.2.2)
set_option maxHeartbeats 4000000 in
set_option maxRecDepth 100000 in
theorem lp_X8_init_78 {κ : Kx} {N0 : Nat} {ad0 : Nat → Nat} (C : Cx κ 2 3 cX8_init RX8 "<init>") (hRc : κ.R.cells = 52) (hRs : κ.R.slots = 636) (v0 : Nat) {r : Nat × Nat × Nat × Hp} (hk : ∀ ad, Zx κ (r.1, ad, r.2.1, r.2.2.1) → Ag N0 ad0 (r.1, ad, r.2.1, r.2.2.1) → X κ 2 (r.1, ad, r.2.1, r.2.2.1) 103 [some (.ref v0), none] [] r.2.2.2) : ∀ (n N : Nat) (ad : Nat → Nat) (c s : Nat) (σ : Hp) (v1 : Int32), L_X8_init_78 v0 n N c s σ v1 = some r → Zx κ (N, ad, c, s) → Ag N0 ad0 (N, ad, c, s) → X κ 2 (N, ad, c, s) 78 [some (.ref v0), some (.int v1)] [] σ := by
  intro n
  induction n with
  | zero => intro N ad c s σ v1 h; cases h
  | succ n ih =>
    intro N ad c s σ v1 h Z G
    rw [L_X8_init_78.eq_2] at h
    refine x_iload_n C (i := 1) dX8_init_78 rfl rfl ?_
    refine x_bipush C (v := 8) dX8_init_79 (by decide) ?_
    refine x_icmp_ge C (tgt := 103) dX8_init_81 (by decide) (fun c37 => ?_) (fun c37 => ?_)
    · have h := ifP h c37
      refine x_wk [true, false] (lo' := [some (.ref v0), none]) rfl ?_
      obtain rfl := Option.some.inj h
      exact hk _ Z G
    · have h := ifN h c37
      refine x_aload_n C (i := 0) dX8_init_84 rfl rfl ?_
      obtain ⟨x38, ex38, h⟩ := ob h
      refine x_getR C fl_X8_11 dX8_init_85 ex38 ?_
      refine x_iload_n C (i := 1) dX8_init_88 rfl rfl ?_
      obtain ⟨u39, eu39, h⟩ := ob h
      obtain ⟨σ40, eσ40, h⟩ := ob h
      refine g_new C Z G hRc hRs nw_X8_9 eu39 rfl eσ40 dX8_init_89 (fun ad Z G => ?_)
      refine x_dup C dX8_init_92 rfl ?_
      obtain ⟨u41, eu41, h⟩ := ob h
      obtain ⟨r43, er43, h⟩ := ob h
      obtain ⟨u42, eu42, h⟩ := ob h
      refine g_callI C Z G hRc hRs mi_X5_init lk_X8_50 (ct_X5_init er43) (by decide) rfl rfl (Nat.le_of_ble_eq_true rfl) eu41 rfl eu42 dX8_init_93 (fun ad Z G => ?_)
      obtain ⟨σ44, eσ44, h⟩ := ob h
      refine x_aast C (ci := 5) (t := 5) rfl rfl dX8_init_96 eσ44 ?_
      refine x_iinc C (i := 1) (y := v1 + 1) (lo' := [some (.ref v0), some (.int (v1 + 1))]) dX8_init_97 rfl rfl (by decide) rfl rfl ?_
      refine x_goto C (tgt := 78) dX8_init_100 (by decide) ?_
      refine x_wk [true, true] (lo' := [some (.ref v0), some (.int (v1 + 1))]) rfl ?_
      exact ih _ _ _ _ _ (v1 + 1) h Z G
set_option maxHeartbeats 4000000 in
set_option maxRecDepth 100000 in
theorem lp_X8_init_105 {κ : Kx} {N0 : Nat} {ad0 : Nat → Nat} (C : Cx κ 2 3 cX8_init RX8 "<init>") (hRc : κ.R.cells = 52) (hRs : κ.R.slots = 636) (v0 : Nat) {r : Nat × Nat × Nat × Hp} (hk : ∀ ad, Zx κ (r.1, ad, r.2.1, r.2.2.1) → Ag N0 ad0 (r.1, ad, r.2.1, r.2.2.1) → X κ 2 (r.1, ad, r.2.1, r.2.2.1) 129 [none, none] [] r.2.2.2) : ∀ (n N : Nat) (ad : Nat → Nat) (c s : Nat) (σ : Hp) (v1 : Int32), L_X8_init_105 v0 n N c s σ v1 = some r → Zx κ (N, ad, c, s) → Ag N0 ad0 (N, ad, c, s) → X κ 2 (N, ad, c, s) 105 [some (.ref v0), some (.int v1)] [] σ := by
  intro n
  induction n with
  | zero => intro N ad c s σ v1 h; cases h
  | succ n ih =>
    intro N ad c s σ v1 h Z G
    rw [L_X8_init_105.eq_2] at h
    refine x_iload_n C (i := 1) dX8_init_105 rfl rfl ?_
    refine x_iconst C (v := 2) dX8_init_106 (by decide) ?_
    refine x_icmp_ge C (tgt := 129) dX8_init_107 (by decide) (fun c46 => ?_) (fun c46 => ?_)
    · have h := ifP h c46
      refine x_wk [false, false] (lo' := [none, none]) rfl ?_
      obtain rfl := Option.some.inj h
      exact hk _ Z G
    · have h := ifN h c46
      refine x_aload_n C (i := 0) dX8_init_110 rfl rfl ?_
      obtain ⟨x47, ex47, h⟩ := ob h
      refine x_getR C fl_X8_39 dX8_init_111 ex47 ?_
      refine x_iload_n C (i := 1) dX8_init_114 rfl rfl ?_
      obtain ⟨u48, eu48, h⟩ := ob h
      obtain ⟨σ49, eσ49, h⟩ := ob h
      refine g_new C Z G hRc hRs nw_X8_22 eu48 rfl eσ49 dX8_init_115 (fun ad Z G => ?_)
      refine x_dup C dX8_init_118 rfl ?_
      obtain ⟨u50, eu50, h⟩ := ob h
      obtain ⟨r52, er52, h⟩ := ob h
      obtain ⟨u51, eu51, h⟩ := ob h
      refine g_callI C Z G hRc hRs mi_X2_init lk_X8_24 (ct_X2_init er52) (by decide) rfl rfl (Nat.le_of_ble_eq_true rfl) eu50 rfl eu51 dX8_init_119 (fun ad Z G => ?_)
      obtain ⟨σ53, eσ53, h⟩ := ob h
      refine x_aast C (ci := 2) (t := 4) rfl rfl dX8_init_122 eσ53 ?_
      refine x_iinc C (i := 1) (y := v1 + 1) (lo' := [some (.ref v0), some (.int (v1 + 1))]) dX8_init_123 rfl rfl (by decide) rfl rfl ?_
      refine x_goto C (tgt := 105) dX8_init_126 (by decide) ?_
      refine x_wk [true, true] (lo' := [some (.ref v0), some (.int (v1 + 1))]) rfl ?_
      exact ih _ _ _ _ _ (v1 + 1) h Z G
set_option maxHeartbeats 4000000 in
set_option maxRecDepth 100000 in
theorem ct_X8_init {l : Launch} {D : va_G} {cy : Nat → Nat} {N : Nat} {σ : Hp} {t0 : Nat} {r : Nat × Hp} (h : m_X8_init N σ t0 = some r) : CtA l D cy yX8_init cX8_init 2 none 3 52 636 [.ref t0] N σ (fun v n' s' => v = none ∧ n' = r.1 ∧ s' = r.2) := by
  refine CtA.intro [some (.ref t0), none] (by decide) rfl (Nat.le_of_ble_eq_true rfl) ?_
  intro κ ad0 e1 e2 e3 hRc hRs C Z E
  subst e1; subst e2; subst e3
  have C : Cx κ 2 3 cX8_init RX8 "<init>" := C
  have G := Ag.rf N ad0 0 0
  have hE : ∀ x : Nat × Hp, r = x → ((none : Option Value) = (none : Option Value) ∧ x.1 = r.1 ∧ x.2 = r.2) := fun x hx => by subst hx; exact ⟨rfl, rfl, rfl⟩
  unfold m_X8_init at h
  refine x_aload_n C (i := 0) dX8_init_0 rfl rfl ?_
  refine x_objInit C (by decide) oi_X8 oi_inst oi_code (Nat.le_of_ble_eq_true rfl) dX8_init_1 ?_
  refine x_aload_n C (i := 0) dX8_init_4 rfl rfl ?_
  refine x_bipush C (v := 8) dX8_init_5 (by decide) ?_
  obtain ⟨u1, eu1, h⟩ := ob h
  obtain ⟨σ2, eσ2, h⟩ := ob h
  refine g_newQ C Z G hRc hRs 8 5 rfl wc_X8_9 wo_Row (by decide) (by decide) (by decide) eu1 rfl eσ2 dX8_init_7 (fun ad Z G => ?_)
  obtain ⟨σ3, eσ3, h⟩ := ob h
  refine x_putF C pf_X8_11 dX8_init_10 (fun _ => ⟨rfl, rfl⟩) eσ3 ?_
  refine x_aload_n C (i := 0) dX8_init_13 rfl rfl ?_
  obtain ⟨u4, eu4, h⟩ := ob h
  obtain ⟨σ5, eσ5, h⟩ := ob h
  refine g_new C Z G hRc hRs nw_X8_15 eu4 rfl eσ5 dX8_init_14 (fun ad Z G => ?_)
  refine x_dup C dX8_init_17 rfl ?_
  obtain ⟨u6, eu6, h⟩ := ob h
  obtain ⟨r8, er8, h⟩ := ob h
  obtain ⟨u7, eu7, h⟩ := ob h
  refine g_callI C Z G hRc hRs mi_X7_init lk_X8_17 (ct_X7_init er8) (by decide) rfl rfl (Nat.le_of_ble_eq_true rfl) eu6 rfl eu7 dX8_init_18 (fun ad Z G => ?_)
  obtain ⟨σ9, eσ9, h⟩ := ob h
  refine x_putF C pf_X8_18 dX8_init_21 (fun _ => ⟨rfl, rfl⟩) eσ9 ?_
  refine x_aload_n C (i := 0) dX8_init_24 rfl rfl ?_
  obtain ⟨u10, eu10, h⟩ := ob h
  obtain ⟨σ11, eσ11, h⟩ := ob h
  refine g_new C Z G hRc hRs nw_X8_22 eu10 rfl eσ11 dX8_init_25 (fun ad Z G => ?_)
  refine x_dup C dX8_init_28 rfl ?_
  obtain ⟨u12, eu12, h⟩ := ob h
  obtain ⟨r14, er14, h⟩ := ob h
  obtain ⟨u13, eu13, h⟩ := ob h
  refine g_callI C Z G hRc hRs mi_X2_init lk_X8_24 (ct_X2_init er14) (by decide) rfl rfl (Nat.le_of_ble_eq_true rfl) eu12 rfl eu13 dX8_init_29 (fun ad Z G => ?_)
  obtain ⟨σ15, eσ15, h⟩ := ob h
  refine x_putF C pf_X8_25 dX8_init_32 (fun _ => ⟨rfl, rfl⟩) eσ15 ?_
  refine x_aload_n C (i := 0) dX8_init_35 rfl rfl ?_
  obtain ⟨u16, eu16, h⟩ := ob h
  obtain ⟨σ17, eσ17, h⟩ := ob h
  refine g_new C Z G hRc hRs nw_X8_22 eu16 rfl eσ17 dX8_init_36 (fun ad Z G => ?_)
  refine x_dup C dX8_init_39 rfl ?_
  obtain ⟨u18, eu18, h⟩ := ob h
  obtain ⟨r20, er20, h⟩ := ob h
  obtain ⟨u19, eu19, h⟩ := ob h
  refine g_callI C Z G hRc hRs mi_X2_init lk_X8_24 (ct_X2_init er20) (by decide) rfl rfl (Nat.le_of_ble_eq_true rfl) eu18 rfl eu19 dX8_init_40 (fun ad Z G => ?_)
  obtain ⟨σ21, eσ21, h⟩ := ob h
  refine x_putF C pf_X8_29 dX8_init_43 (fun _ => ⟨rfl, rfl⟩) eσ21 ?_
  refine x_aload_n C (i := 0) dX8_init_46 rfl rfl ?_
  obtain ⟨u22, eu22, h⟩ := ob h
  obtain ⟨σ23, eσ23, h⟩ := ob h
  refine g_new C Z G hRc hRs nw_X8_32 eu22 rfl eσ23 dX8_init_47 (fun ad Z G => ?_)
  refine x_dup C dX8_init_50 rfl ?_
  obtain ⟨u24, eu24, h⟩ := ob h
  obtain ⟨r26, er26, h⟩ := ob h
  obtain ⟨u25, eu25, h⟩ := ob h
  refine g_callI C Z G hRc hRs mi_X0_init lk_X8_34 (ct_X0_init er26) (by decide) rfl rfl (Nat.le_of_ble_eq_true rfl) eu24 rfl eu25 dX8_init_51 (fun ad Z G => ?_)
  obtain ⟨σ27, eσ27, h⟩ := ob h
  refine x_putF C pf_X8_35 dX8_init_54 (fun _ => ⟨rfl, rfl⟩) eσ27 ?_
  refine x_aload_n C (i := 0) dX8_init_57 rfl rfl ?_
  refine x_iconst C (v := 2) dX8_init_58 (by decide) ?_
  obtain ⟨u28, eu28, h⟩ := ob h
  obtain ⟨σ29, eσ29, h⟩ := ob h
  refine g_newQ C Z G hRc hRs 2 4 rfl wc_X8_22 wo_Board (by decide) (by decide) (by decide) eu28 rfl eσ29 dX8_init_59 (fun ad Z G => ?_)
  obtain ⟨σ30, eσ30, h⟩ := ob h
  refine x_putF C pf_X8_39 dX8_init_62 (fun _ => ⟨rfl, rfl⟩) eσ30 ?_
  refine x_aload_n C (i := 0) dX8_init_65 rfl rfl ?_
  obtain ⟨u31, eu31, h⟩ := ob h
  obtain ⟨σ32, eσ32, h⟩ := ob h
  refine g_new C Z G hRc hRs nw_X8_43 eu31 rfl eσ32 dX8_init_66 (fun ad Z G => ?_)
  refine x_dup C dX8_init_69 rfl ?_
  obtain ⟨u33, eu33, h⟩ := ob h
  obtain ⟨r35, er35, h⟩ := ob h
  obtain ⟨u34, eu34, h⟩ := ob h
  refine g_callI C Z G hRc hRs mi_X1_init lk_X8_45 (ct_X1_init er35) (by decide) rfl rfl (Nat.le_of_ble_eq_true rfl) eu33 rfl eu34 dX8_init_70 (fun ad Z G => ?_)
  obtain ⟨σ36, eσ36, h⟩ := ob h
  refine x_putF C pf_X8_46 dX8_init_73 (fun _ => ⟨rfl, rfl⟩) eσ36 ?_
  refine x_iconst C (v := 0) dX8_init_76 (by decide) ?_
  refine x_istore_n C (i := 1) (lo' := [some (.ref t0), some (.int 0)]) dX8_init_77 rfl (by decide) rfl rfl ?_
  obtain ⟨z45, ez45, h⟩ := ob h
  refine x_wk [true, true] (lo' := [some (.ref t0), some (.int 0)]) rfl ?_
  refine lp_X8_init_78 C hRc hRs t0 (fun ad Z G => ?_) _ _ _ _ _ _ 0 ez45 Z G
  refine x_iconst C (v := 0) dX8_init_103 (by decide) ?_
  refine x_istore_n C (i := 1) (lo' := [some (.ref t0), some (.int 0)]) dX8_init_104 rfl (by decide) rfl rfl ?_
  obtain ⟨z54, ez54, h⟩ := ob h
  refine x_wk [true, true] (lo' := [some (.ref t0), some (.int 0)]) rfl ?_
  refine lp_X8_init_105 C hRc hRs t0 (fun ad Z G => ?_) _ _ _ _ _ _ 0 ez54 Z G
  exact x_vretA C E G ⟨hRc ▸ Z.1.1, hRs ▸ Z.1.2⟩ dX8_init_129 (hE (z54.1, z54.2.2.2) (Option.some.inj h).symm)
theorem dX8_rowAt_0 : decode cX8_rowAt 0 = .ok (.iload_n 1, 1) := by decide +kernel
theorem dX8_rowAt_1 : decode cX8_rowAt 1 = .ok (.ifCond .lt 9, 3) := by decide +kernel
theorem dX8_rowAt_4 : decode cX8_rowAt 4 = .ok (.iload_n 1, 1) := by decide +kernel
theorem dX8_rowAt_5 : decode cX8_rowAt 5 = .ok (.bipush 8, 2) := by decide +kernel
theorem dX8_rowAt_7 : decode cX8_rowAt 7 = .ok (.if_icmp .lt 7, 3) := by decide +kernel
theorem dX8_rowAt_10 : decode cX8_rowAt 10 = .ok (.aconst_null, 1) := by decide +kernel
theorem dX8_rowAt_11 : decode cX8_rowAt 11 = .ok (.goto 9, 3) := by decide +kernel
theorem dX8_rowAt_14 : decode cX8_rowAt 14 = .ok (.aload_n 0, 1) := by decide +kernel
theorem dX8_rowAt_15 : decode cX8_rowAt 15 = .ok (.getfield 11, 3) := by decide +kernel
theorem dX8_rowAt_18 : decode cX8_rowAt 18 = .ok (.iload_n 1, 1) := by decide +kernel
theorem dX8_rowAt_19 : decode cX8_rowAt 19 = .ok (.aaload, 1) := by decide +kernel
theorem dX8_rowAt_20 : decode cX8_rowAt 20 = .ok (.areturn, 1) := by decide +kernel
def m_X8_rowAt (N : Nat) (σ : Hp) (t0 : Nat) (p1 : Int32) : Option (Option Nat) :=
  (rv N σ t0 8).bind fun _ =>
  if p1 < 0 then
   some none
  else
   if p1 < 8 then
   (gR N σ t0 8 0).bind fun x3 =>
  (aR 5 N σ x3 p1).bind fun x4 =>
  some (some x4)
  else
   some none
set_option maxHeartbeats 4000000 in
set_option maxRecDepth 100000 in
theorem ct_X8_rowAt {l : Launch} {D : va_G} {cy : Nat → Nat} {N : Nat} {σ : Hp} {t0 : Nat} {p1 : Int32} {r : Option Nat} (h : m_X8_rowAt N σ t0 p1 = some r) : Ct l D cy yX8_rowAt cX8_rowAt 2 (some (.object "PegDiscs$Row")) 0 [.ref t0, .int p1] N σ (fun v s' => v = (some (va_rf r)) ∧ s' = σ) := by
  refine Ct.intro [some (.ref t0), some (.int p1)] (by decide) rfl (Nat.le_of_ble_eq_true rfl) ?_
  intro κ ω e1 e2 e3 e4 C Z E
  subst e1; subst e2; subst e3; subst e4
  have C : Cx κ 2 0 cX8_rowAt RX8 "rowAt" := C
  have hE : ∀ x : Option Nat, r = x → ((some (va_rf x)) = (some (va_rf r)) ∧ σ = σ) := fun x hx => by subst hx; exact ⟨rfl, rfl⟩
  unfold m_X8_rowAt at h
  obtain ⟨_, _, h⟩ := ob h
  refine x_iload_n C (i := 1) dX8_rowAt_0 rfl rfl ?_
  refine x_if_lt C (tgt := 10) dX8_rowAt_1 (by decide) (fun c1 => ?_) (fun c1 => ?_)
  · have h := ifP h c1
    refine x_null C dX8_rowAt_10 ?_
    refine x_goto C (tgt := 20) dX8_rowAt_11 (by decide) ?_
    exact x_aretQ C E dX8_rowAt_20 (hE none (Option.some.inj h).symm)
  · have h := ifN h c1
    refine x_iload_n C (i := 1) dX8_rowAt_4 rfl rfl ?_
    refine x_bipush C (v := 8) dX8_rowAt_5 (by decide) ?_
    refine x_icmp_lt C (tgt := 14) dX8_rowAt_7 (by decide) (fun c2 => ?_) (fun c2 => ?_)
    · have h := ifP h c2
      refine x_aload_n C (i := 0) dX8_rowAt_14 rfl rfl ?_
      obtain ⟨x3, ex3, h⟩ := ob h
      refine x_getR C fl_X8_11 dX8_rowAt_15 ex3 ?_
      refine x_iload_n C (i := 1) dX8_rowAt_18 rfl rfl ?_
      obtain ⟨x4, ex4, h⟩ := ob h
      refine x_aald5 C dX8_rowAt_19 ex4 ?_
      exact x_aretQ C E dX8_rowAt_20 (hE (some x4) (Option.some.inj h).symm)
    · have h := ifN h c2
      refine x_null C dX8_rowAt_10 ?_
      refine x_goto C (tgt := 20) dX8_rowAt_11 (by decide) ?_
      exact x_aretQ C E dX8_rowAt_20 (hE none (Option.some.inj h).symm)
theorem dX8_found_0 : decode cX8_found 0 = .ok (.aload_n 0, 1) := by decide +kernel
theorem dX8_found_1 : decode cX8_found 1 = .ok (.iload_n 1, 1) := by decide +kernel
theorem dX8_found_2 : decode cX8_found 2 = .ok (.putfield 274, 3) := by decide +kernel
theorem dX8_found_5 : decode cX8_found 5 = .ok (.ldc_w 277, 3) := by decide +kernel
theorem dX8_found_8 : decode cX8_found 8 = .ok (.iload_n 1, 1) := by decide +kernel
theorem dX8_found_9 : decode cX8_found 9 = .ok (.isub, 1) := by decide +kernel
theorem dX8_found_10 : decode cX8_found 10 = .ok (.ireturn, 1) := by decide +kernel
def m_X8_found (N : Nat) (σ : Hp) (t0 : Nat) (p1 : Int32) : Option (Int32 × Hp) :=
  (rv N σ t0 8).bind fun _ =>
  (pV N σ t0 8 11 (.int p1)).bind fun σ1 =>
  some (((-1000010) : Int32) - p1, σ1)
set_option maxHeartbeats 4000000 in
set_option maxRecDepth 100000 in
theorem ct_X8_found {l : Launch} {D : va_G} {cy : Nat → Nat} {N : Nat} {σ : Hp} {t0 : Nat} {p1 : Int32} {r : Int32 × Hp} (h : m_X8_found N σ t0 p1 = some r) : Ct l D cy yX8_found cX8_found 2 (some .int) 0 [.ref t0, .int p1] N σ (fun v s' => v = (some (.int r.1)) ∧ s' = r.2) := by
  refine Ct.intro [some (.ref t0), some (.int p1)] (by decide) rfl (Nat.le_of_ble_eq_true rfl) ?_
  intro κ ω e1 e2 e3 e4 C Z E
  subst e1; subst e2; subst e3; subst e4
  have C : Cx κ 2 0 cX8_found RX8 "found" := C
  have hE : ∀ x : Int32 × Hp, r = x → ((some (Value.int x.1)) = (some (Value.int r.1)) ∧ x.2 = r.2) := fun x hx => by subst hx; exact ⟨rfl, rfl⟩
  unfold m_X8_found at h
  obtain ⟨_, _, h⟩ := ob h
  refine x_aload_n C (i := 0) dX8_found_0 rfl rfl ?_
  refine x_iload_n C (i := 1) dX8_found_1 rfl rfl ?_
  obtain ⟨σ1, eσ1, h⟩ := ob h
  refine x_put C pl_X8_274 dX8_found_2 (fun _ => ⟨rfl, rfl⟩) eσ1 ?_
  refine x_ldcw C kc_X8_277 dX8_found_5 ?_
  refine x_iload_n C (i := 1) dX8_found_8 rfl rfl ?_
  refine x_isub C dX8_found_9 ?_
  exact x_iret C E dX8_found_10 (hE (((-1000010) : Int32) - p1, σ1) (Option.some.inj h).symm)
theorem dX8_well_0 : decode cX8_well 0 = .ok (.aload_n 0, 1) := by decide +kernel
theorem dX8_well_1 : decode cX8_well 1 = .ok (.iconst 0, 1) := by decide +kernel
theorem dX8_well_2 : decode cX8_well 2 = .ok (.putfield 274, 3) := by decide +kernel
theorem dX8_well_5 : decode cX8_well 5 = .ok (.iload_n 1, 1) := by decide +kernel
theorem dX8_well_6 : decode cX8_well 6 = .ok (.ireturn, 1) := by decide +kernel
def m_X8_well (N : Nat) (σ : Hp) (t0 : Nat) (p1 : Int32) : Option (Int32 × Hp) :=
  (rv N σ t0 8).bind fun _ =>
  (pV N σ t0 8 11 (.int 0)).bind fun σ1 =>
  some (p1, σ1)
set_option maxHeartbeats 4000000 in
set_option maxRecDepth 100000 in
theorem ct_X8_well {l : Launch} {D : va_G} {cy : Nat → Nat} {N : Nat} {σ : Hp} {t0 : Nat} {p1 : Int32} {r : Int32 × Hp} (h : m_X8_well N σ t0 p1 = some r) : Ct l D cy yX8_well cX8_well 2 (some .int) 0 [.ref t0, .int p1] N σ (fun v s' => v = (some (.int r.1)) ∧ s' = r.2) := by
  refine Ct.intro [some (.ref t0), some (.int p1)] (by decide) rfl (Nat.le_of_ble_eq_true rfl) ?_
  intro κ ω e1 e2 e3 e4 C Z E
  subst e1; subst e2; subst e3; subst e4
  have C : Cx κ 2 0 cX8_well RX8 "well" := C
  have hE : ∀ x : Int32 × Hp, r = x → ((some (Value.int x.1)) = (some (Value.int r.1)) ∧ x.2 = r.2) := fun x hx => by subst hx; exact ⟨rfl, rfl⟩
  unfold m_X8_well at h
  obtain ⟨_, _, h⟩ := ob h
  refine x_aload_n C (i := 0) dX8_well_0 rfl rfl ?_
  refine x_iconst C (v := 0) dX8_well_1 (by decide) ?_
  obtain ⟨σ1, eσ1, h⟩ := ob h
  refine x_put C pl_X8_274 dX8_well_2 (fun _ => ⟨rfl, rfl⟩) eσ1 ?_
  refine x_iload_n C (i := 1) dX8_well_5 rfl rfl ?_
  exact x_iret C E dX8_well_6 (hE (p1, σ1) (Option.some.inj h).symm)
theorem dX8_row_0 : decode cX8_row 0 = .ok (.aload_n 0, 1) := by decide +kernel
theorem dX8_row_1 : decode cX8_row 1 = .ok (.iload_n 1, 1) := by decide +kernel
theorem dX8_row_2 : decode cX8_row 2 = .ok (.invokevirtual 51, 3) := by decide +kernel
theorem dX8_row_5 : decode cX8_row 5 = .ok (.astore 4, 2) := by decide +kernel
theorem dX8_row_7 : decode cX8_row 7 = .ok (.aload 4, 2) := by decide +kernel
theorem dX8_row_9 : decode cX8_row 9 = .ok (.ifnull 18, 3) := by decide +kernel
theorem dX8_row_12 : decode cX8_row 12 = .ok (.iload_n 2, 1) := by decide +kernel
theorem dX8_row_13 : decode cX8_row 13 = .ok (.ifCond .lt 14, 3) := by decide +kernel
theorem dX8_row_16 : decode cX8_row 16 = .ok (.iload_n 2, 1) := by decide +kernel
theorem dX8_row_17 : decode cX8_row 17 = .ok (.iconst 2, 1) := by decide +kernel
theorem dX8_row_18 : decode cX8_row 18 = .ok (.if_icmp .gt 9, 3) := by decide +kernel
theorem dX8_row_21 : decode cX8_row 21 = .ok (.iload_n 3, 1) := by decide +kernel
theorem dX8_row_22 : decode cX8_row 22 = .ok (.bipush 40, 2) := by decide +kernel
theorem dX8_row_24 : decode cX8_row 24 = .ok (.if_icmp .le 6, 3) := by decide +kernel
theorem dX8_row_27 : decode cX8_row 27 = .ok (.ldc 55, 2) := by decide +kernel
theorem dX8_row_29 : decode cX8_row 29 = .ok (.ireturn, 1) := by decide +kernel
theorem dX8_row_30 : decode cX8_row 30 = .ok (.iload_n 3, 1) := by decide +kernel
theorem dX8_row_31 : decode cX8_row 31 = .ok (.ifCond .ge 9, 3) := by decide +kernel
theorem dX8_row_34 : decode cX8_row 34 = .ok (.aload_n 0, 1) := by decide +kernel
theorem dX8_row_35 : decode cX8_row 35 = .ok (.iconst 4, 1) := by decide +kernel
theorem dX8_row_36 : decode cX8_row 36 = .ok (.invokevirtual 56, 3) := by decide +kernel
theorem dX8_row_39 : decode cX8_row 39 = .ok (.ireturn, 1) := by decide +kernel
theorem dX8_row_40 : decode cX8_row 40 = .ok (.aload 4, 2) := by decide +kernel
theorem dX8_row_42 : decode cX8_row 42 = .ok (.iload_n 2, 1) := by decide +kernel
theorem dX8_row_43 : decode cX8_row 43 = .ok (.iload_n 3, 1) := by decide +kernel
theorem dX8_row_44 : decode cX8_row 44 = .ok (.invokevirtual 60, 3) := by decide +kernel
theorem dX8_row_47 : decode cX8_row 47 = .ok (.aload_n 0, 1) := by decide +kernel
theorem dX8_row_48 : decode cX8_row 48 = .ok (.iload_n 3, 1) := by decide +kernel
theorem dX8_row_49 : decode cX8_row 49 = .ok (.invokevirtual 64, 3) := by decide +kernel
theorem dX8_row_52 : decode cX8_row 52 = .ok (.ireturn, 1) := by decide +kernel
def m_X8_row (N : Nat) (σ : Hp) (t0 : Nat) (p1 : Int32) (p2 : Int32) (p3 : Int32) : Option (Int32 × Hp) :=
  (rv N σ t0 8).bind fun _ =>
  (m_X8_rowAt N σ t0 p1).bind fun r1 =>
  cQ r1 (
   some ((-1000001), σ)) (fun q2 =>
   if p2 < 0 then
   some ((-1000001), σ)
  else
   if 2 < p2 then
   some ((-1000001), σ)
  else
   if p3 ≤ 40 then
   if 0 ≤ p3 then
   (m_X5_begin N σ q2 p2 p3).bind fun r7 =>
  (m_X8_well N r7 t0 p3).bind fun r8 =>
  some (r8.1, r8.2)
  else
   (m_X8_found N σ t0 4).bind fun r9 =>
  some (r9.1, r9.2)
  else
   some ((-1000001), σ))
set_option maxHeartbeats 4000000 in
set_option maxRecDepth 100000 in
theorem ct_X8_row {l : Launch} {D : va_G} {cy : Nat → Nat} {N : Nat} {σ : Hp} {t0 : Nat} {p1 : Int32} {p2 : Int32} {p3 : Int32} {r : Int32 × Hp} (h : m_X8_row N σ t0 p1 p2 p3 = some r) : Ct l D cy yX8_row cX8_row 5 (some .int) 2 [.ref t0, .int p1, .int p2, .int p3] N σ (fun v s' => v = (some (.int r.1)) ∧ s' = r.2) := by
  refine Ct.intro [some (.ref t0), some (.int p1), some (.int p2), some (.int p3), none] (by decide) rfl (Nat.le_of_ble_eq_true rfl) ?_
  intro κ ω e1 e2 e3 e4 C Z E
  subst e1; subst e2; subst e3; subst e4
  have C : Cx κ 5 2 cX8_row RX8 "row" := C
  have hE : ∀ x : Int32 × Hp, r = x → ((some (Value.int x.1)) = (some (Value.int r.1)) ∧ x.2 = r.2) := fun x hx => by subst hx; exact ⟨rfl, rfl⟩
  unfold m_X8_row at h
  obtain ⟨_, _, h⟩ := ob h
  refine x_aload_n C (i := 0) dX8_row_0 rfl rfl ?_
  refine x_iload_n C (i := 1) dX8_row_1 rfl rfl ?_
  obtain ⟨r1, er1, h⟩ := ob h
  refine x_callVr C Z mv_X8_rowAt lk_X8_51 (rv_h er1) (ct_X8_rowAt er1) (by decide) rfl rfl (Nat.le_of_ble_eq_true rfl) dX8_row_2 ?_
  refine x_astoreQ C (i := 4) (lo' := [some (.ref t0), some (.int p1), some (.int p2), some (.int p3), some (va_rf r1)]) dX8_row_5 (by decide) rfl rfl ?_
  refine x_aloadQ C (i := 4) dX8_row_7 rfl ?_
  refine x_ifnull C (tgt := 27) dX8_row_9 (by decide) (fun hq => ?_) (fun q2 hq => ?_)
  · subst hq
    have h := cQ_n h
    refine x_ldc C kc_X8_55 dX8_row_27 ?_
    exact x_iret C E dX8_row_29 (hE ((-1000001), σ) (Option.some.inj h).symm)
  · subst hq
    have h := cQ_s h
    refine x_iload_n C (i := 2) dX8_row_12 rfl rfl ?_
    refine x_if_lt C (tgt := 27) dX8_row_13 (by decide) (fun c3 => ?_) (fun c3 => ?_)
    · have h := ifP h c3
      refine x_ldc C kc_X8_55 dX8_row_27 ?_
      exact x_iret C E dX8_row_29 (hE ((-1000001), σ) (Option.some.inj h).symm)
    · have h := ifN h c3
      refine x_iload_n C (i := 2) dX8_row_16 rfl rfl ?_
      refine x_iconst C (v := 2) dX8_row_17 (by decide) ?_
      refine x_icmp_gt C (tgt := 27) dX8_row_18 (by decide) (fun c4 => ?_) (fun c4 => ?_)
      · have h := ifP h c4
        refine x_ldc C kc_X8_55 dX8_row_27 ?_
        exact x_iret C E dX8_row_29 (hE ((-1000001), σ) (Option.some.inj h).symm)
      · have h := ifN h c4
        refine x_iload_n C (i := 3) dX8_row_21 rfl rfl ?_
        refine x_bipush C (v := 40) dX8_row_22 (by decide) ?_
        refine x_icmp_le C (tgt := 30) dX8_row_24 (by decide) (fun c5 => ?_) (fun c5 => ?_)
        · have h := ifP h c5
          refine x_iload_n C (i := 3) dX8_row_30 rfl rfl ?_
          refine x_if_ge C (tgt := 40) dX8_row_31 (by decide) (fun c6 => ?_) (fun c6 => ?_)
          · have h := ifP h c6
            refine x_aload C (i := 4) dX8_row_40 rfl ?_
            refine x_iload_n C (i := 2) dX8_row_42 rfl rfl ?_
            refine x_iload_n C (i := 3) dX8_row_43 rfl rfl ?_
            obtain ⟨r7, er7, h⟩ := ob h
            refine x_callVn C Z mv_X5_begin lk_X8_60 (rv_h er7) (ct_X5_begin er7) (by decide) rfl rfl (Nat.le_of_ble_eq_true rfl) dX8_row_44 ?_
            refine x_aload_n C (i := 0) dX8_row_47 rfl rfl ?_
            refine x_iload_n C (i := 3) dX8_row_48 rfl rfl ?_
            obtain ⟨r8, er8, h⟩ := ob h
            refine x_callVr C Z mv_X8_well lk_X8_64 (rv_h er8) (ct_X8_well er8) (by decide) rfl rfl (Nat.le_of_ble_eq_true rfl) dX8_row_49 ?_
            exact x_iret C E dX8_row_52 (hE (r8.1, r8.2) (Option.some.inj h).symm)
          · have h := ifN h c6
            refine x_aload_n C (i := 0) dX8_row_34 rfl rfl ?_
            refine x_iconst C (v := 4) dX8_row_35 (by decide) ?_
            obtain ⟨r9, er9, h⟩ := ob h
            refine x_callVr C Z mv_X8_found lk_X8_56 (rv_h er9) (ct_X8_found er9) (by decide) rfl rfl (Nat.le_of_ble_eq_true rfl) dX8_row_36 ?_
            exact x_iret C E dX8_row_39 (hE (r9.1, r9.2) (Option.some.inj h).symm)
        · have h := ifN h c5
          refine x_ldc C kc_X8_55 dX8_row_27 ?_
          exact x_iret C E dX8_row_29 (hE ((-1000001), σ) (Option.some.inj h).symm)
theorem dX8_set_0 : decode cX8_set 0 = .ok (.aload_n 0, 1) := by decide +kernel
theorem dX8_set_1 : decode cX8_set 1 = .ok (.iload_n 1, 1) := by decide +kernel
theorem dX8_set_2 : decode cX8_set 2 = .ok (.invokevirtual 51, 3) := by decide +kernel
theorem dX8_set_5 : decode cX8_set 5 = .ok (.astore 4, 2) := by decide +kernel
theorem dX8_set_7 : decode cX8_set 7 = .ok (.aload 4, 2) := by decide +kernel
theorem dX8_set_9 : decode cX8_set 9 = .ok (.ifnonnull 6, 3) := by decide +kernel
theorem dX8_set_12 : decode cX8_set 12 = .ok (.ldc 55, 2) := by decide +kernel
theorem dX8_set_14 : decode cX8_set 14 = .ok (.ireturn, 1) := by decide +kernel
theorem dX8_set_15 : decode cX8_set 15 = .ok (.aload 4, 2) := by decide +kernel
theorem dX8_set_17 : decode cX8_set 17 = .ok (.iload_n 2, 1) := by decide +kernel
theorem dX8_set_18 : decode cX8_set 18 = .ok (.iconst 1, 1) := by decide +kernel
theorem dX8_set_19 : decode cX8_set 19 = .ok (.invokevirtual 67, 3) := by decide +kernel
theorem dX8_set_22 : decode cX8_set 22 = .ok (.istore 5, 2) := by decide +kernel
theorem dX8_set_24 : decode cX8_set 24 = .ok (.iload 5, 2) := by decide +kernel
theorem dX8_set_26 : decode cX8_set 26 = .ok (.ifCond .eq 12, 3) := by decide +kernel
theorem dX8_set_29 : decode cX8_set 29 = .ok (.aload_n 0, 1) := by decide +kernel
theorem dX8_set_30 : decode cX8_set 30 = .ok (.iload 5, 2) := by decide +kernel
theorem dX8_set_32 : decode cX8_set 32 = .ok (.invokevirtual 56, 3) := by decide +kernel
theorem dX8_set_35 : decode cX8_set 35 = .ok (.goto 14, 3) := by decide +kernel
theorem dX8_set_38 : decode cX8_set 38 = .ok (.aload_n 0, 1) := by decide +kernel
theorem dX8_set_39 : decode cX8_set 39 = .ok (.aload 4, 2) := by decide +kernel
theorem dX8_set_41 : decode cX8_set 41 = .ok (.iload_n 2, 1) := by decide +kernel
theorem dX8_set_42 : decode cX8_set 42 = .ok (.iload_n 3, 1) := by decide +kernel
theorem dX8_set_43 : decode cX8_set 43 = .ok (.invokevirtual 71, 3) := by decide +kernel
theorem dX8_set_46 : decode cX8_set 46 = .ok (.invokevirtual 64, 3) := by decide +kernel
theorem dX8_set_49 : decode cX8_set 49 = .ok (.ireturn, 1) := by decide +kernel
def m_X8_set (N : Nat) (σ : Hp) (t0 : Nat) (p1 : Int32) (p2 : Int32) (p3 : Int32) : Option (Int32 × Hp) :=
  (rv N σ t0 8).bind fun _ =>
  (m_X8_rowAt N σ t0 p1).bind fun r1 =>
  cQ r1 (
   some ((-1000001), σ)) (fun q2 =>
   (m_X5_flaw N σ q2 p2 1).bind fun r3 =>
  if r3 = 0 then
   (m_X5_store N σ q2 p2 p3).bind fun r5 =>
  (m_X8_well N r5.2 t0 r5.1).bind fun r6 =>
  some (r6.1, r6.2)
  else
   (m_X8_found N σ t0 r3).bind fun r7 =>
  some (r7.1, r7.2))
set_option maxHeartbeats 4000000 in
set_option maxRecDepth 100000 in
theorem ct_X8_set {l : Launch} {D : va_G} {cy : Nat → Nat} {N : Nat} {σ : Hp} {t0 : Nat} {p1 : Int32} {p2 : Int32} {p3 : Int32} {r : Int32 × Hp} (h : m_X8_set N σ t0 p1 p2 p3 = some r) : Ct l D cy yX8_set cX8_set 6 (some .int) 2 [.ref t0, .int p1, .int p2, .int p3] N σ (fun v s' => v = (some (.int r.1)) ∧ s' = r.2) := by
  refine Ct.intro [some (.ref t0), some (.int p1), some (.int p2), some (.int p3), none, none] (by decide) rfl (Nat.le_of_ble_eq_true rfl) ?_
  intro κ ω e1 e2 e3 e4 C Z E
  subst e1; subst e2; subst e3; subst e4
  have C : Cx κ 6 2 cX8_set RX8 "set" := C
  have hE : ∀ x : Int32 × Hp, r = x → ((some (Value.int x.1)) = (some (Value.int r.1)) ∧ x.2 = r.2) := fun x hx => by subst hx; exact ⟨rfl, rfl⟩
  unfold m_X8_set at h
  obtain ⟨_, _, h⟩ := ob h
  refine x_aload_n C (i := 0) dX8_set_0 rfl rfl ?_
  refine x_iload_n C (i := 1) dX8_set_1 rfl rfl ?_
  obtain ⟨r1, er1, h⟩ := ob h
  refine x_callVr C Z mv_X8_rowAt lk_X8_51 (rv_h er1) (ct_X8_rowAt er1) (by decide) rfl rfl (Nat.le_of_ble_eq_true rfl) dX8_set_2 ?_
  refine x_astoreQ C (i := 4) (lo' := [some (.ref t0), some (.int p1), some (.int p2), some (.int p3), some (va_rf r1), none]) dX8_set_5 (by decide) rfl rfl ?_
  refine x_aloadQ C (i := 4) dX8_set_7 rfl ?_
  refine x_ifnonnull C (tgt := 15) dX8_set_9 (by decide) (fun q2 hq => ?_) (fun hq => ?_)
  · subst hq
    have h := cQ_s h
    refine x_aload C (i := 4) dX8_set_15 rfl ?_
    refine x_iload_n C (i := 2) dX8_set_17 rfl rfl ?_
    refine x_iconst C (v := 1) dX8_set_18 (by decide) ?_
    obtain ⟨r3, er3, h⟩ := ob h
    refine x_callVr C Z mv_X5_flaw lk_X8_67 (rv_h er3) (ct_X5_flaw er3) (by decide) rfl rfl (Nat.le_of_ble_eq_true rfl) dX8_set_19 ?_
    refine x_istore C (i := 5) (lo' := [some (.ref t0), some (.int p1), some (.int p2), some (.int p3), some (.ref q2), some (.int r3)]) dX8_set_22 (by decide) rfl rfl ?_
    refine x_iload C (i := 5) dX8_set_24 rfl ?_
    refine x_if_eq C (tgt := 38) dX8_set_26 (by decide) (fun c4 => ?_) (fun c4 => ?_)
    · have h := ifP h c4
      refine x_aload_n C (i := 0) dX8_set_38 rfl rfl ?_
      refine x_aload C (i := 4) dX8_set_39 rfl ?_
      refine x_iload_n C (i := 2) dX8_set_41 rfl rfl ?_
      refine x_iload_n C (i := 3) dX8_set_42 rfl rfl ?_
      obtain ⟨r5, er5, h⟩ := ob h
      refine x_callVr C Z mv_X5_store lk_X8_71 (rv_h er5) (ct_X5_store er5) (by decide) rfl rfl (Nat.le_of_ble_eq_true rfl) dX8_set_43 ?_
      obtain ⟨r6, er6, h⟩ := ob h
      refine x_callVr C Z mv_X8_well lk_X8_64 (rv_h er6) (ct_X8_well er6) (by decide) rfl rfl (Nat.le_of_ble_eq_true rfl) dX8_set_46 ?_
      exact x_iret C E dX8_set_49 (hE (r6.1, r6.2) (Option.some.inj h).symm)
    · have h := ifN h c4
      refine x_aload_n C (i := 0) dX8_set_29 rfl rfl ?_
      refine x_iload C (i := 5) dX8_set_30 rfl ?_
      obtain ⟨r7, er7, h⟩ := ob h
      refine x_callVr C Z mv_X8_found lk_X8_56 (rv_h er7) (ct_X8_found er7) (by decide) rfl rfl (Nat.le_of_ble_eq_true rfl) dX8_set_32 ?_
      refine x_goto C (tgt := 49) dX8_set_35 (by decide) ?_
      exact x_iret C E dX8_set_49 (hE (r7.1, r7.2) (Option.some.inj h).symm)
  · subst hq
    have h := cQ_n h
    refine x_ldc C kc_X8_55 dX8_set_12 ?_
    exact x_iret C E dX8_set_14 (hE ((-1000001), σ) (Option.some.inj h).symm)
theorem dX8_copy_0 : decode cX8_copy 0 = .ok (.aload_n 0, 1) := by decide +kernel
theorem dX8_copy_1 : decode cX8_copy 1 = .ok (.iload_n 1, 1) := by decide +kernel
theorem dX8_copy_2 : decode cX8_copy 2 = .ok (.invokevirtual 51, 3) := by decide +kernel
theorem dX8_copy_5 : decode cX8_copy 5 = .ok (.astore 6, 2) := by decide +kernel
theorem dX8_copy_7 : decode cX8_copy 7 = .ok (.aload_n 0, 1) := by decide +kernel
theorem dX8_copy_8 : decode cX8_copy 8 = .ok (.iload_n 3, 1) := by decide +kernel
theorem dX8_copy_9 : decode cX8_copy 9 = .ok (.invokevirtual 51, 3) := by decide +kernel
theorem dX8_copy_12 : decode cX8_copy 12 = .ok (.astore 7, 2) := by decide +kernel
theorem dX8_copy_14 : decode cX8_copy 14 = .ok (.aload 6, 2) := by decide +kernel
theorem dX8_copy_16 : decode cX8_copy 16 = .ok (.ifnull 8, 3) := by decide +kernel
theorem dX8_copy_19 : decode cX8_copy 19 = .ok (.aload 7, 2) := by decide +kernel
theorem dX8_copy_21 : decode cX8_copy 21 = .ok (.ifnonnull 6, 3) := by decide +kernel
theorem dX8_copy_24 : decode cX8_copy 24 = .ok (.ldc 55, 2) := by decide +kernel
theorem dX8_copy_26 : decode cX8_copy 26 = .ok (.ireturn, 1) := by decide +kernel
theorem dX8_copy_27 : decode cX8_copy 27 = .ok (.aload 6, 2) := by decide +kernel
theorem dX8_copy_29 : decode cX8_copy 29 = .ok (.invokevirtual 74, 3) := by decide +kernel
theorem dX8_copy_32 : decode cX8_copy 32 = .ok (.ifCond .ne 11, 3) := by decide +kernel
theorem dX8_copy_35 : decode cX8_copy 35 = .ok (.aload 7, 2) := by decide +kernel
theorem dX8_copy_37 : decode cX8_copy 37 = .ok (.invokevirtual 74, 3) := by decide +kernel
theorem dX8_copy_40 : decode cX8_copy 40 = .ok (.ifCond .eq 9, 3) := by decide +kernel
theorem dX8_copy_43 : decode cX8_copy 43 = .ok (.aload_n 0, 1) := by decide +kernel
theorem dX8_copy_44 : decode cX8_copy 44 = .ok (.iconst 1, 1) := by decide +kernel
theorem dX8_copy_45 : decode cX8_copy 45 = .ok (.invokevirtual 56, 3) := by decide +kernel
theorem dX8_copy_48 : decode cX8_copy 48 = .ok (.ireturn, 1) := by decide +kernel
theorem dX8_copy_49 : decode cX8_copy 49 = .ok (.aload 6, 2) := by decide +kernel
theorem dX8_copy_51 : decode cX8_copy 51 = .ok (.getfield 78, 3) := by decide +kernel
theorem dX8_copy_54 : decode cX8_copy 54 = .ok (.aload 7, 2) := by decide +kernel
theorem dX8_copy_56 : decode cX8_copy 56 = .ok (.getfield 78, 3) := by decide +kernel
theorem dX8_copy_59 : decode cX8_copy 59 = .ok (.if_icmp .eq 9, 3) := by decide +kernel
theorem dX8_copy_62 : decode cX8_copy 62 = .ok (.aload_n 0, 1) := by decide +kernel
theorem dX8_copy_63 : decode cX8_copy 63 = .ok (.iconst 5, 1) := by decide +kernel
theorem dX8_copy_64 : decode cX8_copy 64 = .ok (.invokevirtual 56, 3) := by decide +kernel
theorem dX8_copy_67 : decode cX8_copy 67 = .ok (.ireturn, 1) := by decide +kernel
theorem dX8_copy_68 : decode cX8_copy 68 = .ok (.aload 6, 2) := by decide +kernel
theorem dX8_copy_70 : decode cX8_copy 70 = .ok (.iload_n 2, 1) := by decide +kernel
theorem dX8_copy_71 : decode cX8_copy 71 = .ok (.iload 5, 2) := by decide +kernel
theorem dX8_copy_73 : decode cX8_copy 73 = .ok (.invokevirtual 67, 3) := by decide +kernel
theorem dX8_copy_76 : decode cX8_copy 76 = .ok (.ifCond .ne 15, 3) := by decide +kernel
theorem dX8_copy_79 : decode cX8_copy 79 = .ok (.aload 7, 2) := by decide +kernel
theorem dX8_copy_81 : decode cX8_copy 81 = .ok (.iload 4, 2) := by decide +kernel
theorem dX8_copy_83 : decode cX8_copy 83 = .ok (.iload 5, 2) := by decide +kernel
theorem dX8_copy_85 : decode cX8_copy 85 = .ok (.invokevirtual 67, 3) := by decide +kernel
theorem dX8_copy_88 : decode cX8_copy 88 = .ok (.ifCond .eq 9, 3) := by decide +kernel
theorem dX8_copy_91 : decode cX8_copy 91 = .ok (.aload_n 0, 1) := by decide +kernel
theorem dX8_copy_92 : decode cX8_copy 92 = .ok (.iconst 2, 1) := by decide +kernel
theorem dX8_copy_93 : decode cX8_copy 93 = .ok (.invokevirtual 56, 3) := by decide +kernel
theorem dX8_copy_96 : decode cX8_copy 96 = .ok (.ireturn, 1) := by decide +kernel
theorem dX8_copy_97 : decode cX8_copy 97 = .ok (.aload 6, 2) := by decide +kernel
theorem dX8_copy_99 : decode cX8_copy 99 = .ok (.getfield 82, 3) := by decide +kernel
theorem dX8_copy_102 : decode cX8_copy 102 = .ok (.iload_n 2, 1) := by decide +kernel
theorem dX8_copy_103 : decode cX8_copy 103 = .ok (.aload 7, 2) := by decide +kernel
theorem dX8_copy_105 : decode cX8_copy 105 = .ok (.getfield 82, 3) := by decide +kernel
theorem dX8_copy_108 : decode cX8_copy 108 = .ok (.iload 4, 2) := by decide +kernel
theorem dX8_copy_110 : decode cX8_copy 110 = .ok (.iload 5, 2) := by decide +kernel
theorem dX8_copy_112 : decode cX8_copy 112 = .ok (.invokestatic 86, 3) := by decide +kernel
theorem dX8_copy_115 : decode cX8_copy 115 = .ok (.aload_n 0, 1) := by decide +kernel
theorem dX8_copy_116 : decode cX8_copy 116 = .ok (.iload 5, 2) := by decide +kernel
theorem dX8_copy_118 : decode cX8_copy 118 = .ok (.invokevirtual 64, 3) := by decide +kernel
theorem dX8_copy_121 : decode cX8_copy 121 = .ok (.ireturn, 1) := by decide +kernel
def m_X8_copy (N : Nat) (σ : Hp) (t0 : Nat) (p1 : Int32) (p2 : Int32) (p3 : Int32) (p4 : Int32) (p5 : Int32) : Option (Int32 × Hp) :=
  (rv N σ t0 8).bind fun _ =>
  (m_X8_rowAt N σ t0 p1).bind fun r1 =>
  (m_X8_rowAt N σ t0 p3).bind fun r2 =>
  cQ r1 (
   some ((-1000001), σ)) (fun q3 =>
   cQ r2 (
   some ((-1000001), σ)) (fun q4 =>
   (m_X5_isMissing N σ q3).bind fun r5 =>
  if r5 = 0 then
   (m_X5_isMissing N σ q4).bind fun r8 =>
  if r8 = 0 then
   (gI N σ q3 5 0).bind fun x10 =>
  (gI N σ q4 5 0).bind fun x11 =>
  if x10 = x11 then
   (m_X5_flaw N σ q3 p2 p5).bind fun r13 =>
  if r13 = 0 then
   (m_X5_flaw N σ q4 p4 p5).bind fun r16 =>
  if r16 = 0 then
   (gR N σ q3 5 2).bind fun x18 =>
  (gR N σ q4 5 2).bind fun x19 =>
  (cpI N σ x18 p2 x19 p4 p5).bind fun σ20 =>
  (m_X8_well N σ20 t0 p5).bind fun r21 =>
  some (r21.1, r21.2)
  else
   (m_X8_found N σ t0 2).bind fun r22 =>
  some (r22.1, r22.2)
  else
   (m_X8_found N σ t0 2).bind fun r15 =>
  some (r15.1, r15.2)
  else
   (m_X8_found N σ t0 5).bind fun r23 =>
  some (r23.1, r23.2)
  else
   (m_X8_found N σ t0 1).bind fun r24 =>
  some (r24.1, r24.2)
  else
   (m_X8_found N σ t0 1).bind fun r7 =>
  some (r7.1, r7.2)))
set_option maxHeartbeats 4000000 in
set_option maxRecDepth 100000 in
theorem ct_X8_copy {l : Launch} {D : va_G} {cy : Nat → Nat} {N : Nat} {σ : Hp} {t0 : Nat} {p1 : Int32} {p2 : Int32} {p3 : Int32} {p4 : Int32} {p5 : Int32} {r : Int32 × Hp} (h : m_X8_copy N σ t0 p1 p2 p3 p4 p5 = some r) : Ct l D cy yX8_copy cX8_copy 8 (some .int) 2 [.ref t0, .int p1, .int p2, .int p3, .int p4, .int p5] N σ (fun v s' => v = (some (.int r.1)) ∧ s' = r.2) := by
  refine Ct.intro [some (.ref t0), some (.int p1), some (.int p2), some (.int p3), some (.int p4), some (.int p5), none, none] (by decide) rfl (Nat.le_of_ble_eq_true rfl) ?_
  intro κ ω e1 e2 e3 e4 C Z E
  subst e1; subst e2; subst e3; subst e4
  have C : Cx κ 8 2 cX8_copy RX8 "copy" := C
  have hE : ∀ x : Int32 × Hp, r = x → ((some (Value.int x.1)) = (some (Value.int r.1)) ∧ x.2 = r.2) := fun x hx => by subst hx; exact ⟨rfl, rfl⟩
  unfold m_X8_copy at h
  obtain ⟨_, _, h⟩ := ob h
  refine x_aload_n C (i := 0) dX8_copy_0 rfl rfl ?_
  refine x_iload_n C (i := 1) dX8_copy_1 rfl rfl ?_
  obtain ⟨r1, er1, h⟩ := ob h
  refine x_callVr C Z mv_X8_rowAt lk_X8_51 (rv_h er1) (ct_X8_rowAt er1) (by decide) rfl rfl (Nat.le_of_ble_eq_true rfl) dX8_copy_2 ?_
  refine x_astoreQ C (i := 6) (lo' := [some (.ref t0), some (.int p1), some (.int p2), some (.int p3), some (.int p4), some (.int p5), some (va_rf r1), none]) dX8_copy_5 (by decide) rfl rfl ?_
  refine x_aload_n C (i := 0) dX8_copy_7 rfl rfl ?_
  refine x_iload_n C (i := 3) dX8_copy_8 rfl rfl ?_
  obtain ⟨r2, er2, h⟩ := ob h
  refine x_callVr C Z mv_X8_rowAt lk_X8_51 (rv_h er2) (ct_X8_rowAt er2) (by decide) rfl rfl (Nat.le_of_ble_eq_true rfl) dX8_copy_9 ?_
  refine x_astoreQ C (i := 7) (lo' := [some (.ref t0), some (.int p1), some (.int p2), some (.int p3), some (.int p4), some (.int p5), some (va_rf r1), some (va_rf r2)]) dX8_copy_12 (by decide) (by cases r1 <;> rfl) rfl ?_
  refine x_aloadQ C (i := 6) dX8_copy_14 rfl ?_
  refine x_ifnull C (tgt := 24) dX8_copy_16 (by decide) (fun hq => ?_) (fun q3 hq => ?_)
  · subst hq
    have h := cQ_n h
    refine x_ldc C kc_X8_55 dX8_copy_24 ?_
    exact x_iret C E dX8_copy_26 (hE ((-1000001), σ) (Option.some.inj h).symm)
  · subst hq
    have h := cQ_s h
    refine x_aloadQ C (i := 7) dX8_copy_19 rfl ?_
    refine x_ifnonnull C (tgt := 27) dX8_copy_21 (by decide) (fun q4 hq => ?_) (fun hq => ?_)
    · subst hq
      have h := cQ_s h
      refine x_aload C (i := 6) dX8_copy_27 rfl ?_
      obtain ⟨r5, er5, h⟩ := ob h
      refine x_callVr C Z mv_X5_isMissing lk_X8_74 (rv_h er5) (ct_X5_isMissing er5) (by decide) rfl rfl (Nat.le_of_ble_eq_true rfl) dX8_copy_29 ?_
      refine x_if_ne C (tgt := 43) dX8_copy_32 (by decide) (fun c6 => ?_) (fun c6 => ?_)
      · have h := ifN h c6
        refine x_aload_n C (i := 0) dX8_copy_43 rfl rfl ?_
        refine x_iconst C (v := 1) dX8_copy_44 (by decide) ?_
        obtain ⟨r7, er7, h⟩ := ob h
        refine x_callVr C Z mv_X8_found lk_X8_56 (rv_h er7) (ct_X8_found er7) (by decide) rfl rfl (Nat.le_of_ble_eq_true rfl) dX8_copy_45 ?_
        exact x_iret C E dX8_copy_48 (hE (r7.1, r7.2) (Option.some.inj h).symm)
      · have h := ifP h c6
        refine x_aload C (i := 7) dX8_copy_35 rfl ?_
        obtain ⟨r8, er8, h⟩ := ob h
        refine x_callVr C Z mv_X5_isMissing lk_X8_74 (rv_h er8) (ct_X5_isMissing er8) (by decide) rfl rfl (Nat.le_of_ble_eq_true rfl) dX8_copy_37 ?_
        refine x_if_eq C (tgt := 49) dX8_copy_40 (by decide) (fun c9 => ?_) (fun c9 => ?_)
        · have h := ifP h c9
          refine x_aload C (i := 6) dX8_copy_49 rfl ?_
          obtain ⟨x10, ex10, h⟩ := ob h
          refine x_getI C fl_X8_78 dX8_copy_51 ex10 ?_
          refine x_aload C (i := 7) dX8_copy_54 rfl ?_
          obtain ⟨x11, ex11, h⟩ := ob h
          refine x_getI C fl_X8_78 dX8_copy_56 ex11 ?_
          refine x_icmp_eq C (tgt := 68) dX8_copy_59 (by decide) (fun c12 => ?_) (fun c12 => ?_)
          · have h := ifP h c12
            refine x_aload C (i := 6) dX8_copy_68 rfl ?_
            refine x_iload_n C (i := 2) dX8_copy_70 rfl rfl ?_
            refine x_iload C (i := 5) dX8_copy_71 rfl ?_
            obtain ⟨r13, er13, h⟩ := ob h
            refine x_callVr C Z mv_X5_flaw lk_X8_67 (rv_h er13) (ct_X5_flaw er13) (by decide) rfl rfl (Nat.le_of_ble_eq_true rfl) dX8_copy_73 ?_
            refine x_if_ne C (tgt := 91) dX8_copy_76 (by decide) (fun c14 => ?_) (fun c14 => ?_)
            · have h := ifN h c14
              refine x_aload_n C (i := 0) dX8_copy_91 rfl rfl ?_
              refine x_iconst C (v := 2) dX8_copy_92 (by decide) ?_
              obtain ⟨r15, er15, h⟩ := ob h
              refine x_callVr C Z mv_X8_found lk_X8_56 (rv_h er15) (ct_X8_found er15) (by decide) rfl rfl (Nat.le_of_ble_eq_true rfl) dX8_copy_93 ?_
              exact x_iret C E dX8_copy_96 (hE (r15.1, r15.2) (Option.some.inj h).symm)
            · have h := ifP h c14
              refine x_aload C (i := 7) dX8_copy_79 rfl ?_
              refine x_iload C (i := 4) dX8_copy_81 rfl ?_
              refine x_iload C (i := 5) dX8_copy_83 rfl ?_
              obtain ⟨r16, er16, h⟩ := ob h
              refine x_callVr C Z mv_X5_flaw lk_X8_67 (rv_h er16) (ct_X5_flaw er16) (by decide) rfl rfl (Nat.le_of_ble_eq_true rfl) dX8_copy_85 ?_
              refine x_if_eq C (tgt := 97) dX8_copy_88 (by decide) (fun c17 => ?_) (fun c17 => ?_)
              · have h := ifP h c17
                refine x_aload C (i := 6) dX8_copy_97 rfl ?_
                obtain ⟨x18, ex18, h⟩ := ob h
                refine x_getR C fl_X8_82 dX8_copy_99 ex18 ?_
                refine x_iload_n C (i := 2) dX8_copy_102 rfl rfl ?_
                refine x_aload C (i := 7) dX8_copy_103 rfl ?_
                obtain ⟨x19, ex19, h⟩ := ob h
                refine x_getR C fl_X8_82 dX8_copy_105 ex19 ?_
                refine x_iload C (i := 4) dX8_copy_108 rfl ?_
                refine x_iload C (i := 5) dX8_copy_110 rfl ?_
                obtain ⟨σ20, eσ20, h⟩ := ob h
                refine x_copy C (by decide) ac_link ac_nat ac_stat ac_init (Nat.le_of_ble_eq_true rfl) dX8_copy_112 eσ20 ?_
                refine x_aload_n C (i := 0) dX8_copy_115 rfl rfl ?_
                refine x_iload C (i := 5) dX8_copy_116 rfl ?_
                obtain ⟨r21, er21, h⟩ := ob h
                refine x_callVr C Z mv_X8_well lk_X8_64 (rv_h er21) (ct_X8_well er21) (by decide) rfl rfl (Nat.le_of_ble_eq_true rfl) dX8_copy_118 ?_
                exact x_iret C E dX8_copy_121 (hE (r21.1, r21.2) (Option.some.inj h).symm)
              · have h := ifN h c17
                refine x_aload_n C (i := 0) dX8_copy_91 rfl rfl ?_
                refine x_iconst C (v := 2) dX8_copy_92 (by decide) ?_
                obtain ⟨r22, er22, h⟩ := ob h
                refine x_callVr C Z mv_X8_found lk_X8_56 (rv_h er22) (ct_X8_found er22) (by decide) rfl rfl (Nat.le_of_ble_eq_true rfl) dX8_copy_93 ?_
                exact x_iret C E dX8_copy_96 (hE (r22.1, r22.2) (Option.some.inj h).symm)
          · have h := ifN h c12
            refine x_aload_n C (i := 0) dX8_copy_62 rfl rfl ?_
            refine x_iconst C (v := 5) dX8_copy_63 (by decide) ?_
            obtain ⟨r23, er23, h⟩ := ob h
            refine x_callVr C Z mv_X8_found lk_X8_56 (rv_h er23) (ct_X8_found er23) (by decide) rfl rfl (Nat.le_of_ble_eq_true rfl) dX8_copy_64 ?_
            exact x_iret C E dX8_copy_67 (hE (r23.1, r23.2) (Option.some.inj h).symm)
        · have h := ifN h c9
          refine x_aload_n C (i := 0) dX8_copy_43 rfl rfl ?_
          refine x_iconst C (v := 1) dX8_copy_44 (by decide) ?_
          obtain ⟨r24, er24, h⟩ := ob h
          refine x_callVr C Z mv_X8_found lk_X8_56 (rv_h er24) (ct_X8_found er24) (by decide) rfl rfl (Nat.le_of_ble_eq_true rfl) dX8_copy_45 ?_
          exact x_iret C E dX8_copy_48 (hE (r24.1, r24.2) (Option.some.inj h).symm)
    · subst hq
      have h := cQ_n h
      refine x_ldc C kc_X8_55 dX8_copy_24 ?_
      exact x_iret C E dX8_copy_26 (hE ((-1000001), σ) (Option.some.inj h).symm)
theorem dX8_drop_0 : decode cX8_drop 0 = .ok (.aload_n 0, 1) := by decide +kernel
theorem dX8_drop_1 : decode cX8_drop 1 = .ok (.iload_n 1, 1) := by decide +kernel
theorem dX8_drop_2 : decode cX8_drop 2 = .ok (.invokevirtual 51, 3) := by decide +kernel
theorem dX8_drop_5 : decode cX8_drop 5 = .ok (.astore_n 2, 1) := by decide +kernel
theorem dX8_drop_6 : decode cX8_drop 6 = .ok (.aload_n 2, 1) := by decide +kernel
theorem dX8_drop_7 : decode cX8_drop 7 = .ok (.ifnonnull 6, 3) := by decide +kernel
theorem dX8_drop_10 : decode cX8_drop 10 = .ok (.ldc 55, 2) := by decide +kernel
theorem dX8_drop_12 : decode cX8_drop 12 = .ok (.ireturn, 1) := by decide +kernel
theorem dX8_drop_13 : decode cX8_drop 13 = .ok (.aload_n 2, 1) := by decide +kernel
theorem dX8_drop_14 : decode cX8_drop 14 = .ok (.invokevirtual 74, 3) := by decide +kernel
theorem dX8_drop_17 : decode cX8_drop 17 = .ok (.ifCond .eq 9, 3) := by decide +kernel
theorem dX8_drop_20 : decode cX8_drop 20 = .ok (.aload_n 0, 1) := by decide +kernel
theorem dX8_drop_21 : decode cX8_drop 21 = .ok (.iconst 1, 1) := by decide +kernel
theorem dX8_drop_22 : decode cX8_drop 22 = .ok (.invokevirtual 56, 3) := by decide +kernel
theorem dX8_drop_25 : decode cX8_drop 25 = .ok (.ireturn, 1) := by decide +kernel
theorem dX8_drop_26 : decode cX8_drop 26 = .ok (.aload_n 0, 1) := by decide +kernel
theorem dX8_drop_27 : decode cX8_drop 27 = .ok (.aload_n 2, 1) := by decide +kernel
theorem dX8_drop_28 : decode cX8_drop 28 = .ok (.invokevirtual 92, 3) := by decide +kernel
theorem dX8_drop_31 : decode cX8_drop 31 = .ok (.invokevirtual 64, 3) := by decide +kernel
theorem dX8_drop_34 : decode cX8_drop 34 = .ok (.ireturn, 1) := by decide +kernel
def m_X8_drop (N : Nat) (σ : Hp) (t0 : Nat) (p1 : Int32) : Option (Int32 × Hp) :=
  (rv N σ t0 8).bind fun _ =>
  (m_X8_rowAt N σ t0 p1).bind fun r1 =>
  cQ r1 (
   some ((-1000001), σ)) (fun q2 =>
   (m_X5_isMissing N σ q2).bind fun r3 =>
  if r3 = 0 then
   (m_X5_end N σ q2).bind fun r5 =>
  (m_X8_well N r5.2 t0 r5.1).bind fun r6 =>
  some (r6.1, r6.2)
  else
   (m_X8_found N σ t0 1).bind fun r7 =>
  some (r7.1, r7.2))
set_option maxHeartbeats 4000000 in
set_option maxRecDepth 100000 in
theorem ct_X8_drop {l : Launch} {D : va_G} {cy : Nat → Nat} {N : Nat} {σ : Hp} {t0 : Nat} {p1 : Int32} {r : Int32 × Hp} (h : m_X8_drop N σ t0 p1 = some r) : Ct l D cy yX8_drop cX8_drop 3 (some .int) 1 [.ref t0, .int p1] N σ (fun v s' => v = (some (.int r.1)) ∧ s' = r.2) := by
  refine Ct.intro [some (.ref t0), some (.int p1), none] (by decide) rfl (Nat.le_of_ble_eq_true rfl) ?_
  intro κ ω e1 e2 e3 e4 C Z E
  subst e1; subst e2; subst e3; subst e4
  have C : Cx κ 3 1 cX8_drop RX8 "drop" := C
  have hE : ∀ x : Int32 × Hp, r = x → ((some (Value.int x.1)) = (some (Value.int r.1)) ∧ x.2 = r.2) := fun x hx => by subst hx; exact ⟨rfl, rfl⟩
  unfold m_X8_drop at h
  obtain ⟨_, _, h⟩ := ob h
  refine x_aload_n C (i := 0) dX8_drop_0 rfl rfl ?_
  refine x_iload_n C (i := 1) dX8_drop_1 rfl rfl ?_
  obtain ⟨r1, er1, h⟩ := ob h
  refine x_callVr C Z mv_X8_rowAt lk_X8_51 (rv_h er1) (ct_X8_rowAt er1) (by decide) rfl rfl (Nat.le_of_ble_eq_true rfl) dX8_drop_2 ?_
  refine x_astore_nQ C (i := 2) (lo' := [some (.ref t0), some (.int p1), some (va_rf r1)]) dX8_drop_5 rfl (by decide) rfl rfl ?_
  refine x_aload_nQ C (i := 2) dX8_drop_6 rfl rfl ?_
  refine x_ifnonnull C (tgt := 13) dX8_drop_7 (by decide) (fun q2 hq => ?_) (fun hq => ?_)
  · subst hq
    have h := cQ_s h
    refine x_aload_n C (i := 2) dX8_drop_13 rfl rfl ?_
    obtain ⟨r3, er3, h⟩ := ob h
    refine x_callVr C Z mv_X5_isMissing lk_X8_74 (rv_h er3) (ct_X5_isMissing er3) (by decide) rfl rfl (Nat.le_of_ble_eq_true rfl) dX8_drop_14 ?_
    refine x_if_eq C (tgt := 26) dX8_drop_17 (by decide) (fun c4 => ?_) (fun c4 => ?_)
    · have h := ifP h c4
      refine x_aload_n C (i := 0) dX8_drop_26 rfl rfl ?_
      refine x_aload_n C (i := 2) dX8_drop_27 rfl rfl ?_
      obtain ⟨r5, er5, h⟩ := ob h
      refine x_callVr C Z mv_X5_end lk_X8_92 (rv_h er5) (ct_X5_end er5) (by decide) rfl rfl (Nat.le_of_ble_eq_true rfl) dX8_drop_28 ?_
      obtain ⟨r6, er6, h⟩ := ob h
      refine x_callVr C Z mv_X8_well lk_X8_64 (rv_h er6) (ct_X8_well er6) (by decide) rfl rfl (Nat.le_of_ble_eq_true rfl) dX8_drop_31 ?_
      exact x_iret C E dX8_drop_34 (hE (r6.1, r6.2) (Option.some.inj h).symm)
    · have h := ifN h c4
      refine x_aload_n C (i := 0) dX8_drop_20 rfl rfl ?_
      refine x_iconst C (v := 1) dX8_drop_21 (by decide) ?_
      obtain ⟨r7, er7, h⟩ := ob h
      refine x_callVr C Z mv_X8_found lk_X8_56 (rv_h er7) (ct_X8_found er7) (by decide) rfl rfl (Nat.le_of_ble_eq_true rfl) dX8_drop_22 ?_
      exact x_iret C E dX8_drop_25 (hE (r7.1, r7.2) (Option.some.inj h).symm)
  · subst hq
    have h := cQ_n h
    refine x_ldc C kc_X8_55 dX8_drop_10 ?_
    exact x_iret C E dX8_drop_12 (hE ((-1000001), σ) (Option.some.inj h).symm)
theorem dX8_feed_0 : decode cX8_feed 0 = .ok (.iload_n 1, 1) := by decide +kernel
theorem dX8_feed_1 : decode cX8_feed 1 = .ok (.ifCond .lt 10, 3) := by decide +kernel
theorem dX8_feed_4 : decode cX8_feed 4 = .ok (.iload_n 1, 1) := by decide +kernel
theorem dX8_feed_5 : decode cX8_feed 5 = .ok (.sipush 255, 3) := by decide +kernel
theorem dX8_feed_8 : decode cX8_feed 8 = .ok (.if_icmp .le 6, 3) := by decide +kernel
theorem dX8_feed_11 : decode cX8_feed 11 = .ok (.ldc 55, 2) := by decide +kernel
theorem dX8_feed_13 : decode cX8_feed 13 = .ok (.ireturn, 1) := by decide +kernel
theorem dX8_feed_14 : decode cX8_feed 14 = .ok (.aload_n 0, 1) := by decide +kernel
theorem dX8_feed_15 : decode cX8_feed 15 = .ok (.getfield 18, 3) := by decide +kernel
theorem dX8_feed_18 : decode cX8_feed 18 = .ok (.iload_n 1, 1) := by decide +kernel
theorem dX8_feed_19 : decode cX8_feed 19 = .ok (.invokevirtual 96, 3) := by decide +kernel
theorem dX8_feed_22 : decode cX8_feed 22 = .ok (.ifCond .eq 13, 3) := by decide +kernel
theorem dX8_feed_25 : decode cX8_feed 25 = .ok (.aload_n 0, 1) := by decide +kernel
theorem dX8_feed_26 : decode cX8_feed 26 = .ok (.getfield 18, 3) := by decide +kernel
theorem dX8_feed_29 : decode cX8_feed 29 = .ok (.getfield 100, 3) := by decide +kernel
theorem dX8_feed_32 : decode cX8_feed 32 = .ok (.goto 5, 3) := by decide +kernel
theorem dX8_feed_35 : decode cX8_feed 35 = .ok (.ldc 103, 2) := by decide +kernel
theorem dX8_feed_37 : decode cX8_feed 37 = .ok (.ireturn, 1) := by decide +kernel
def m_X8_feed (N : Nat) (σ : Hp) (t0 : Nat) (p1 : Int32) : Option (Int32 × Hp) :=
  (rv N σ t0 8).bind fun _ =>
  if p1 < 0 then
   some ((-1000001), σ)
  else
   if p1 ≤ 255 then
   (gR N σ t0 8 1).bind fun x3 =>
  (m_X7_take N σ x3 p1).bind fun r4 =>
  if r4.1 = 0 then
   some ((-1000003), r4.2)
  else
   (gR N r4.2 t0 8 1).bind fun x6 =>
  (gI N r4.2 x6 7 1).bind fun x7 =>
  some (x7, r4.2)
  else
   some ((-1000001), σ)
set_option maxHeartbeats 4000000 in
set_option maxRecDepth 100000 in
theorem ct_X8_feed {l : Launch} {D : va_G} {cy : Nat → Nat} {N : Nat} {σ : Hp} {t0 : Nat} {p1 : Int32} {r : Int32 × Hp} (h : m_X8_feed N σ t0 p1 = some r) : Ct l D cy yX8_feed cX8_feed 2 (some .int) 1 [.ref t0, .int p1] N σ (fun v s' => v = (some (.int r.1)) ∧ s' = r.2) := by
  refine Ct.intro [some (.ref t0), some (.int p1)] (by decide) rfl (Nat.le_of_ble_eq_true rfl) ?_
  intro κ ω e1 e2 e3 e4 C Z E
  subst e1; subst e2; subst e3; subst e4
  have C : Cx κ 2 1 cX8_feed RX8 "feed" := C
  have hE : ∀ x : Int32 × Hp, r = x → ((some (Value.int x.1)) = (some (Value.int r.1)) ∧ x.2 = r.2) := fun x hx => by subst hx; exact ⟨rfl, rfl⟩
  unfold m_X8_feed at h
  obtain ⟨_, _, h⟩ := ob h
  refine x_iload_n C (i := 1) dX8_feed_0 rfl rfl ?_
  refine x_if_lt C (tgt := 11) dX8_feed_1 (by decide) (fun c1 => ?_) (fun c1 => ?_)
  · have h := ifP h c1
    refine x_ldc C kc_X8_55 dX8_feed_11 ?_
    exact x_iret C E dX8_feed_13 (hE ((-1000001), σ) (Option.some.inj h).symm)
  · have h := ifN h c1
    refine x_iload_n C (i := 1) dX8_feed_4 rfl rfl ?_
    refine x_sipush C (v := 255) dX8_feed_5 (by decide) ?_
    refine x_icmp_le C (tgt := 14) dX8_feed_8 (by decide) (fun c2 => ?_) (fun c2 => ?_)
    · have h := ifP h c2
      refine x_aload_n C (i := 0) dX8_feed_14 rfl rfl ?_
      obtain ⟨x3, ex3, h⟩ := ob h
      refine x_getR C fl_X8_18 dX8_feed_15 ex3 ?_
      refine x_iload_n C (i := 1) dX8_feed_18 rfl rfl ?_
      obtain ⟨r4, er4, h⟩ := ob h
      refine x_callVr C Z mv_X7_take lk_X8_96 (rv_h er4) (ct_X7_take er4) (by decide) rfl rfl (Nat.le_of_ble_eq_true rfl) dX8_feed_19 ?_
      refine x_if_eq C (tgt := 35) dX8_feed_22 (by decide) (fun c5 => ?_) (fun c5 => ?_)
      · have h := ifP h c5
        refine x_ldc C kc_X8_103 dX8_feed_35 ?_
        exact x_iret C E dX8_feed_37 (hE ((-1000003), r4.2) (Option.some.inj h).symm)
      · have h := ifN h c5
        refine x_aload_n C (i := 0) dX8_feed_25 rfl rfl ?_
        obtain ⟨x6, ex6, h⟩ := ob h
        refine x_getR C fl_X8_18 dX8_feed_26 ex6 ?_
        obtain ⟨x7, ex7, h⟩ := ob h
        refine x_getI C fl_X8_100 dX8_feed_29 ex7 ?_
        refine x_goto C (tgt := 37) dX8_feed_32 (by decide) ?_
        exact x_iret C E dX8_feed_37 (hE (x7, r4.2) (Option.some.inj h).symm)
    · have h := ifN h c2
      refine x_ldc C kc_X8_55 dX8_feed_11 ?_
      exact x_iret C E dX8_feed_13 (hE ((-1000001), σ) (Option.some.inj h).symm)
theorem dX8_board_0 : decode cX8_board 0 = .ok (.aload_n 0, 1) := by decide +kernel
theorem dX8_board_1 : decode cX8_board 1 = .ok (.getfield 18, 3) := by decide +kernel
theorem dX8_board_4 : decode cX8_board 4 = .ok (.aload_n 0, 1) := by decide +kernel
theorem dX8_board_5 : decode cX8_board 5 = .ok (.getfield 29, 3) := by decide +kernel
theorem dX8_board_8 : decode cX8_board 8 = .ok (.invokevirtual 104, 3) := by decide +kernel
theorem dX8_board_11 : decode cX8_board 11 = .ok (.istore_n 1, 1) := by decide +kernel
theorem dX8_board_12 : decode cX8_board 12 = .ok (.aload_n 0, 1) := by decide +kernel
theorem dX8_board_13 : decode cX8_board 13 = .ok (.getfield 18, 3) := by decide +kernel
theorem dX8_board_16 : decode cX8_board 16 = .ok (.iconst 0, 1) := by decide +kernel
theorem dX8_board_17 : decode cX8_board 17 = .ok (.putfield 100, 3) := by decide +kernel
theorem dX8_board_20 : decode cX8_board 20 = .ok (.iload_n 1, 1) := by decide +kernel
theorem dX8_board_21 : decode cX8_board 21 = .ok (.ifCond .ne 25, 3) := by decide +kernel
theorem dX8_board_24 : decode cX8_board 24 = .ok (.aload_n 0, 1) := by decide +kernel
theorem dX8_board_25 : decode cX8_board 25 = .ok (.aload_n 0, 1) := by decide +kernel
theorem dX8_board_26 : decode cX8_board 26 = .ok (.getfield 18, 3) := by decide +kernel
theorem dX8_board_29 : decode cX8_board 29 = .ok (.getfield 108, 3) := by decide +kernel
theorem dX8_board_32 : decode cX8_board 32 = .ok (.putfield 111, 3) := by decide +kernel
theorem dX8_board_35 : decode cX8_board 35 = .ok (.ldc 114, 2) := by decide +kernel
theorem dX8_board_37 : decode cX8_board 37 = .ok (.aload_n 0, 1) := by decide +kernel
theorem dX8_board_38 : decode cX8_board 38 = .ok (.getfield 18, 3) := by decide +kernel
theorem dX8_board_41 : decode cX8_board 41 = .ok (.getfield 115, 3) := by decide +kernel
theorem dX8_board_44 : decode cX8_board 44 = .ok (.isub, 1) := by decide +kernel
theorem dX8_board_45 : decode cX8_board 45 = .ok (.ireturn, 1) := by decide +kernel
theorem dX8_board_46 : decode cX8_board 46 = .ok (.aload_n 0, 1) := by decide +kernel
theorem dX8_board_47 : decode cX8_board 47 = .ok (.getfield 25, 3) := by decide +kernel
theorem dX8_board_50 : decode cX8_board 50 = .ok (.aload_n 0, 1) := by decide +kernel
theorem dX8_board_51 : decode cX8_board 51 = .ok (.getfield 29, 3) := by decide +kernel
theorem dX8_board_54 : decode cX8_board 54 = .ok (.invokevirtual 118, 3) := by decide +kernel
theorem dX8_board_57 : decode cX8_board 57 = .ok (.aload_n 0, 1) := by decide +kernel
theorem dX8_board_58 : decode cX8_board 58 = .ok (.getfield 35, 3) := by decide +kernel
theorem dX8_board_61 : decode cX8_board 61 = .ok (.invokevirtual 121, 3) := by decide +kernel
theorem dX8_board_64 : decode cX8_board 64 = .ok (.aload_n 0, 1) := by decide +kernel
theorem dX8_board_65 : decode cX8_board 65 = .ok (.getfield 25, 3) := by decide +kernel
theorem dX8_board_68 : decode cX8_board 68 = .ok (.getfield 124, 3) := by decide +kernel
theorem dX8_board_71 : decode cX8_board 71 = .ok (.ireturn, 1) := by decide +kernel
def m_X8_board (N : Nat) (σ : Hp) (t0 : Nat) : Option (Int32 × Hp) :=
  (rv N σ t0 8).bind fun _ =>
  (gR N σ t0 8 1).bind fun x1 =>
  (gR N σ t0 8 3).bind fun x2 =>
  (m_X7_readInto N σ x1 x2).bind fun r3 =>
  (gR N r3.2 t0 8 1).bind fun x4 =>
  (pV N r3.2 x4 7 1 (.int 0)).bind fun σ5 =>
  if r3.1 = 0 then
   (gR N σ5 t0 8 1).bind fun x14 =>
  (gI N σ5 x14 7 3).bind fun x15 =>
  (pV N σ5 t0 8 10 (.int x15)).bind fun σ16 =>
  (gR N σ16 t0 8 1).bind fun x17 =>
  (gI N σ16 x17 7 2).bind fun x18 =>
  some (((-1000100) : Int32) - x18, σ16)
  else
   (gR N σ5 t0 8 2).bind fun x7 =>
  (gR N σ5 t0 8 3).bind fun x8 =>
  (m_X2_take N σ5 x7 x8).bind fun r9 =>
  (gR N r9 t0 8 4).bind fun x10 =>
  (m_X0_forget N r9 x10).bind fun r11 =>
  (gR N r11 t0 8 2).bind fun x12 =>
  (gI N r11 x12 2 1).bind fun x13 =>
  some (x13, r11)
set_option maxHeartbeats 4000000 in
set_option maxRecDepth 100000 in
theorem ct_X8_board {l : Launch} {D : va_G} {cy : Nat → Nat} {N : Nat} {σ : Hp} {t0 : Nat} {r : Int32 × Hp} (h : m_X8_board N σ t0 = some r) : Ct l D cy yX8_board cX8_board 2 (some .int) 4 [.ref t0] N σ (fun v s' => v = (some (.int r.1)) ∧ s' = r.2) := by
  refine Ct.intro [some (.ref t0), none] (by decide) rfl (Nat.le_of_ble_eq_true rfl) ?_
  intro κ ω e1 e2 e3 e4 C Z E
  subst e1; subst e2; subst e3; subst e4
  have C : Cx κ 2 4 cX8_board RX8 "board" := C
  have hE : ∀ x : Int32 × Hp, r = x → ((some (Value.int x.1)) = (some (Value.int r.1)) ∧ x.2 = r.2) := fun x hx => by subst hx; exact ⟨rfl, rfl⟩
  unfold m_X8_board at h
  obtain ⟨_, _, h⟩ := ob h
  refine x_aload_n C (i := 0) dX8_board_0 rfl rfl ?_
  obtain ⟨x1, ex1, h⟩ := ob h
  refine x_getR C fl_X8_18 dX8_board_1 ex1 ?_
  refine x_aload_n C (i := 0) dX8_board_4 rfl rfl ?_
  obtain ⟨x2, ex2, h⟩ := ob h
  refine x_getR C fl_X8_29 dX8_board_5 ex2 ?_
  obtain ⟨r3, er3, h⟩ := ob h
  refine x_callVr C Z mv_X7_readInto lk_X8_104 (rv_h er3) (ct_X7_readInto er3) (by decide) rfl rfl (Nat.le_of_ble_eq_true rfl) dX8_board_8 ?_
  refine x_istore_n C (i := 1) (lo' := [some (.ref t0), some (.int r3.1)]) dX8_board_11 rfl (by decide) rfl rfl ?_
  refine x_aload_n C (i := 0) dX8_board_12 rfl rfl ?_
  obtain ⟨x4, ex4, h⟩ := ob h
  refine x_getR C fl_X8_18 dX8_board_13 ex4 ?_
  refine x_iconst C (v := 0) dX8_board_16 (by decide) ?_
  obtain ⟨σ5, eσ5, h⟩ := ob h
  refine x_put C pl_X8_100 dX8_board_17 (fun _ => ⟨rfl, rfl⟩) eσ5 ?_
  refine x_iload_n C (i := 1) dX8_board_20 rfl rfl ?_
  refine x_if_ne C (tgt := 46) dX8_board_21 (by decide) (fun c6 => ?_) (fun c6 => ?_)
  · have h := ifN h c6
    refine x_aload_n C (i := 0) dX8_board_46 rfl rfl ?_
    obtain ⟨x7, ex7, h⟩ := ob h
    refine x_getR C fl_X8_25 dX8_board_47 ex7 ?_
    refine x_aload_n C (i := 0) dX8_board_50 rfl rfl ?_
    obtain ⟨x8, ex8, h⟩ := ob h
    refine x_getR C fl_X8_29 dX8_board_51 ex8 ?_
    obtain ⟨r9, er9, h⟩ := ob h
    refine x_callVn C Z mv_X2_take lk_X8_118 (rv_h er9) (ct_X2_take er9) (by decide) rfl rfl (Nat.le_of_ble_eq_true rfl) dX8_board_54 ?_
    refine x_aload_n C (i := 0) dX8_board_57 rfl rfl ?_
    obtain ⟨x10, ex10, h⟩ := ob h
    refine x_getR C fl_X8_35 dX8_board_58 ex10 ?_
    obtain ⟨r11, er11, h⟩ := ob h
    refine x_callVn C Z mv_X0_forget lk_X8_121 (rv_h er11) (ct_X0_forget er11) (by decide) rfl rfl (Nat.le_of_ble_eq_true rfl) dX8_board_61 ?_
    refine x_aload_n C (i := 0) dX8_board_64 rfl rfl ?_
    obtain ⟨x12, ex12, h⟩ := ob h
    refine x_getR C fl_X8_25 dX8_board_65 ex12 ?_
    obtain ⟨x13, ex13, h⟩ := ob h
    refine x_getI C fl_X8_124 dX8_board_68 ex13 ?_
    exact x_iret C E dX8_board_71 (hE (x13, r11) (Option.some.inj h).symm)
  · have h := ifP h c6
    refine x_aload_n C (i := 0) dX8_board_24 rfl rfl ?_
    refine x_aload_n C (i := 0) dX8_board_25 rfl rfl ?_
    obtain ⟨x14, ex14, h⟩ := ob h
    refine x_getR C fl_X8_18 dX8_board_26 ex14 ?_
    obtain ⟨x15, ex15, h⟩ := ob h
    refine x_getI C fl_X8_108 dX8_board_29 ex15 ?_
    obtain ⟨σ16, eσ16, h⟩ := ob h
    refine x_put C pl_X8_111 dX8_board_32 (fun _ => ⟨rfl, rfl⟩) eσ16 ?_
    refine x_ldc C kc_X8_114 dX8_board_35 ?_
    refine x_aload_n C (i := 0) dX8_board_37 rfl rfl ?_
    obtain ⟨x17, ex17, h⟩ := ob h
    refine x_getR C fl_X8_18 dX8_board_38 ex17 ?_
    obtain ⟨x18, ex18, h⟩ := ob h
    refine x_getI C fl_X8_115 dX8_board_41 ex18 ?_
    refine x_isub C dX8_board_44 ?_
    exact x_iret C E dX8_board_45 (hE (((-1000100) : Int32) - x18, σ16) (Option.some.inj h).symm)
theorem dX8_fault_0 : decode cX8_fault 0 = .ok (.aload_n 0, 1) := by decide +kernel
theorem dX8_fault_1 : decode cX8_fault 1 = .ok (.getfield 111, 3) := by decide +kernel
theorem dX8_fault_4 : decode cX8_fault 4 = .ok (.ireturn, 1) := by decide +kernel
def m_X8_fault (N : Nat) (σ : Hp) (t0 : Nat) : Option (Int32) :=
  (rv N σ t0 8).bind fun _ =>
  (gI N σ t0 8 10).bind fun x1 =>
  some x1
set_option maxHeartbeats 4000000 in
set_option maxRecDepth 100000 in
theorem ct_X8_fault {l : Launch} {D : va_G} {cy : Nat → Nat} {N : Nat} {σ : Hp} {t0 : Nat} {r : Int32} (h : m_X8_fault N σ t0 = some r) : Ct l D cy yX8_fault cX8_fault 1 (some .int) 0 [.ref t0] N σ (fun v s' => v = (some (.int r)) ∧ s' = σ) := by
  refine Ct.intro [some (.ref t0)] (by decide) rfl (Nat.le_of_ble_eq_true rfl) ?_
  intro κ ω e1 e2 e3 e4 C Z E
  subst e1; subst e2; subst e3; subst e4
  have C : Cx κ 1 0 cX8_fault RX8 "fault" := C
  have hE : ∀ x : Int32, r = x → ((some (Value.int x)) = (some (Value.int r)) ∧ σ = σ) := fun x hx => by subst hx; exact ⟨rfl, rfl⟩
  unfold m_X8_fault at h
  obtain ⟨_, _, h⟩ := ob h
  refine x_aload_n C (i := 0) dX8_fault_0 rfl rfl ?_
  obtain ⟨x1, ex1, h⟩ := ob h
  refine x_getI C fl_X8_111 dX8_fault_1 ex1 ?_
  exact x_iret C E dX8_fault_4 (hE x1 (Option.some.inj h).symm)
theorem dX8_move_0 : decode cX8_move 0 = .ok (.aload_n 0, 1) := by decide +kernel
theorem dX8_move_1 : decode cX8_move 1 = .ok (.getfield 25, 3) := by decide +kernel
theorem dX8_move_4 : decode cX8_move 4 = .ok (.iload_n 1, 1) := by decide +kernel
theorem dX8_move_5 : decode cX8_move 5 = .ok (.invokevirtual 127, 3) := by decide +kernel
theorem dX8_move_8 : decode cX8_move 8 = .ok (.ifCond .eq 19, 3) := by decide +kernel
theorem dX8_move_11 : decode cX8_move 11 = .ok (.aload_n 0, 1) := by decide +kernel
theorem dX8_move_12 : decode cX8_move 12 = .ok (.getfield 25, 3) := by decide +kernel
theorem dX8_move_15 : decode cX8_move 15 = .ok (.iload_n 2, 1) := by decide +kernel
theorem dX8_move_16 : decode cX8_move 16 = .ok (.invokevirtual 127, 3) := by decide +kernel
theorem dX8_move_19 : decode cX8_move 19 = .ok (.ifCond .eq 8, 3) := by decide +kernel
theorem dX8_move_22 : decode cX8_move 22 = .ok (.iload_n 1, 1) := by decide +kernel
theorem dX8_move_23 : decode cX8_move 23 = .ok (.iload_n 2, 1) := by decide +kernel
theorem dX8_move_24 : decode cX8_move 24 = .ok (.if_icmp .ne 6, 3) := by decide +kernel
theorem dX8_move_27 : decode cX8_move 27 = .ok (.ldc 55, 2) := by decide +kernel
theorem dX8_move_29 : decode cX8_move 29 = .ok (.ireturn, 1) := by decide +kernel
theorem dX8_move_30 : decode cX8_move 30 = .ok (.iconst 4, 1) := by decide +kernel
theorem dX8_move_31 : decode cX8_move 31 = .ok (.iload_n 1, 1) := by decide +kernel
theorem dX8_move_32 : decode cX8_move 32 = .ok (.imul, 1) := by decide +kernel
theorem dX8_move_33 : decode cX8_move 33 = .ok (.iload_n 2, 1) := by decide +kernel
theorem dX8_move_34 : decode cX8_move 34 = .ok (.iadd, 1) := by decide +kernel
theorem dX8_move_35 : decode cX8_move 35 = .ok (.istore_n 3, 1) := by decide +kernel
theorem dX8_move_36 : decode cX8_move 36 = .ok (.aload_n 0, 1) := by decide +kernel
theorem dX8_move_37 : decode cX8_move 37 = .ok (.getfield 25, 3) := by decide +kernel
theorem dX8_move_40 : decode cX8_move 40 = .ok (.iload_n 3, 1) := by decide +kernel
theorem dX8_move_41 : decode cX8_move 41 = .ok (.invokevirtual 130, 3) := by decide +kernel
theorem dX8_move_44 : decode cX8_move 44 = .ok (.ifCond .ne 6, 3) := by decide +kernel
theorem dX8_move_47 : decode cX8_move 47 = .ok (.ldc 133, 2) := by decide +kernel
theorem dX8_move_49 : decode cX8_move 49 = .ok (.ireturn, 1) := by decide +kernel
theorem dX8_move_50 : decode cX8_move 50 = .ok (.aload_n 0, 1) := by decide +kernel
theorem dX8_move_51 : decode cX8_move 51 = .ok (.getfield 25, 3) := by decide +kernel
theorem dX8_move_54 : decode cX8_move 54 = .ok (.getfield 134, 3) := by decide +kernel
theorem dX8_move_57 : decode cX8_move 57 = .ok (.sipush 9999, 3) := by decide +kernel
theorem dX8_move_60 : decode cX8_move 60 = .ok (.if_icmp .lt 6, 3) := by decide +kernel
theorem dX8_move_63 : decode cX8_move 63 = .ok (.ldc 103, 2) := by decide +kernel
theorem dX8_move_65 : decode cX8_move 65 = .ok (.ireturn, 1) := by decide +kernel
theorem dX8_move_66 : decode cX8_move 66 = .ok (.aload_n 0, 1) := by decide +kernel
theorem dX8_move_67 : decode cX8_move 67 = .ok (.getfield 25, 3) := by decide +kernel
theorem dX8_move_70 : decode cX8_move 70 = .ok (.iload_n 1, 1) := by decide +kernel
theorem dX8_move_71 : decode cX8_move 71 = .ok (.invokevirtual 137, 3) := by decide +kernel
theorem dX8_move_74 : decode cX8_move 74 = .ok (.istore 4, 2) := by decide +kernel
theorem dX8_move_76 : decode cX8_move 76 = .ok (.aload_n 0, 1) := by decide +kernel
theorem dX8_move_77 : decode cX8_move 77 = .ok (.getfield 35, 3) := by decide +kernel
theorem dX8_move_80 : decode cX8_move 80 = .ok (.aload_n 0, 1) := by decide +kernel
theorem dX8_move_81 : decode cX8_move 81 = .ok (.getfield 25, 3) := by decide +kernel
theorem dX8_move_84 : decode cX8_move 84 = .ok (.invokevirtual 140, 3) := by decide +kernel
theorem dX8_move_87 : decode cX8_move 87 = .ok (.aload_n 0, 1) := by decide +kernel
theorem dX8_move_88 : decode cX8_move 88 = .ok (.getfield 25, 3) := by decide +kernel
theorem dX8_move_91 : decode cX8_move 91 = .ok (.iload_n 3, 1) := by decide +kernel
theorem dX8_move_92 : decode cX8_move 92 = .ok (.invokevirtual 143, 3) := by decide +kernel
theorem dX8_move_95 : decode cX8_move 95 = .ok (.iload 4, 2) := by decide +kernel
theorem dX8_move_97 : decode cX8_move 97 = .ok (.ireturn, 1) := by decide +kernel
def m_X8_move (N : Nat) (σ : Hp) (t0 : Nat) (p1 : Int32) (p2 : Int32) : Option (Int32 × Hp) :=
  (rv N σ t0 8).bind fun _ =>
  (gR N σ t0 8 2).bind fun x1 =>
  (m_X2_hasPeg N σ x1 p1).bind fun r2 =>
  if r2 = 0 then
   some ((-1000001), σ)
  else
   (gR N σ t0 8 2).bind fun x4 =>
  (m_X2_hasPeg N σ x4 p2).bind fun r5 =>
  if r5 = 0 then
   some ((-1000001), σ)
  else
   if p1 = p2 then
   some ((-1000001), σ)
  else
   (gR N σ t0 8 2).bind fun x8 =>
  (m_X2_allows N σ x8 (((4 : Int32) * p1) + p2)).bind fun r9 =>
  if r9 = 0 then
   some ((-1000002), σ)
  else
   (gR N σ t0 8 2).bind fun x11 =>
  (gI N σ x11 2 3).bind fun x12 =>
  if x12 < 9999 then
   (gR N σ t0 8 2).bind fun x14 =>
  (m_X2_topOf N σ x14 p1).bind fun r15 =>
  (gR N σ t0 8 4).bind fun x16 =>
  (gR N σ t0 8 2).bind fun x17 =>
  (m_X0_keep N σ x16 x17).bind fun r18 =>
  (gR N r18 t0 8 2).bind fun x19 =>
  (m_X2_carryOut N r18 x19 (((4 : Int32) * p1) + p2)).bind fun r20 =>
  some (r15, r20)
  else
   some ((-1000003), σ)
set_option maxHeartbeats 4000000 in
set_option maxRecDepth 100000 in
theorem ct_X8_move {l : Launch} {D : va_G} {cy : Nat → Nat} {N : Nat} {σ : Hp} {t0 : Nat} {p1 : Int32} {p2 : Int32} {r : Int32 × Hp} (h : m_X8_move N σ t0 p1 p2 = some r) : Ct l D cy yX8_move cX8_move 5 (some .int) 5 [.ref t0, .int p1, .int p2] N σ (fun v s' => v = (some (.int r.1)) ∧ s' = r.2) := by
  refine Ct.intro [some (.ref t0), some (.int p1), some (.int p2), none, none] (by decide) rfl (Nat.le_of_ble_eq_true rfl) ?_
  intro κ ω e1 e2 e3 e4 C Z E
  subst e1; subst e2; subst e3; subst e4
  have C : Cx κ 5 5 cX8_move RX8 "move" := C
  have hE : ∀ x : Int32 × Hp, r = x → ((some (Value.int x.1)) = (some (Value.int r.1)) ∧ x.2 = r.2) := fun x hx => by subst hx; exact ⟨rfl, rfl⟩
  unfold m_X8_move at h
  obtain ⟨_, _, h⟩ := ob h
  refine x_aload_n C (i := 0) dX8_move_0 rfl rfl ?_
  obtain ⟨x1, ex1, h⟩ := ob h
  refine x_getR C fl_X8_25 dX8_move_1 ex1 ?_
  refine x_iload_n C (i := 1) dX8_move_4 rfl rfl ?_
  obtain ⟨r2, er2, h⟩ := ob h
  refine x_callVr C Z mv_X2_hasPeg lk_X8_127 (rv_h er2) (ct_X2_hasPeg er2) (by decide) rfl rfl (Nat.le_of_ble_eq_true rfl) dX8_move_5 ?_
  refine x_if_eq C (tgt := 27) dX8_move_8 (by decide) (fun c3 => ?_) (fun c3 => ?_)
  · have h := ifP h c3
    refine x_ldc C kc_X8_55 dX8_move_27 ?_
    exact x_iret C E dX8_move_29 (hE ((-1000001), σ) (Option.some.inj h).symm)
  · have h := ifN h c3
    refine x_aload_n C (i := 0) dX8_move_11 rfl rfl ?_
    obtain ⟨x4, ex4, h⟩ := ob h
    refine x_getR C fl_X8_25 dX8_move_12 ex4 ?_
    refine x_iload_n C (i := 2) dX8_move_15 rfl rfl ?_
    obtain ⟨r5, er5, h⟩ := ob h
    refine x_callVr C Z mv_X2_hasPeg lk_X8_127 (rv_h er5) (ct_X2_hasPeg er5) (by decide) rfl rfl (Nat.le_of_ble_eq_true rfl) dX8_move_16 ?_
    refine x_if_eq C (tgt := 27) dX8_move_19 (by decide) (fun c6 => ?_) (fun c6 => ?_)
    · have h := ifP h c6
      refine x_ldc C kc_X8_55 dX8_move_27 ?_
      exact x_iret C E dX8_move_29 (hE ((-1000001), σ) (Option.some.inj h).symm)
    · have h := ifN h c6
      refine x_iload_n C (i := 1) dX8_move_22 rfl rfl ?_
      refine x_iload_n C (i := 2) dX8_move_23 rfl rfl ?_
      refine x_icmp_ne C (tgt := 30) dX8_move_24 (by decide) (fun c7 => ?_) (fun c7 => ?_)
      · have h := ifN h c7
        refine x_iconst C (v := 4) dX8_move_30 (by decide) ?_
        refine x_iload_n C (i := 1) dX8_move_31 rfl rfl ?_
        refine x_imul C dX8_move_32 ?_
        refine x_iload_n C (i := 2) dX8_move_33 rfl rfl ?_
        refine x_iadd C dX8_move_34 ?_
        refine x_istore_n C (i := 3) (lo' := [some (.ref t0), some (.int p1), some (.int p2), some (.int (((4 : Int32) * p1) + p2)), none]) dX8_move_35 rfl (by decide) rfl rfl ?_
        refine x_aload_n C (i := 0) dX8_move_36 rfl rfl ?_
        obtain ⟨x8, ex8, h⟩ := ob h
        refine x_getR C fl_X8_25 dX8_move_37 ex8 ?_
        refine x_iload_n C (i := 3) dX8_move_40 rfl rfl ?_
        obtain ⟨r9, er9, h⟩ := ob h
        refine x_callVr C Z mv_X2_allows lk_X8_130 (rv_h er9) (ct_X2_allows er9) (by decide) rfl rfl (Nat.le_of_ble_eq_true rfl) dX8_move_41 ?_
        refine x_if_ne C (tgt := 50) dX8_move_44 (by decide) (fun c10 => ?_) (fun c10 => ?_)
        · have h := ifN h c10
          refine x_aload_n C (i := 0) dX8_move_50 rfl rfl ?_
          obtain ⟨x11, ex11, h⟩ := ob h
          refine x_getR C fl_X8_25 dX8_move_51 ex11 ?_
          obtain ⟨x12, ex12, h⟩ := ob h
          refine x_getI C fl_X8_134 dX8_move_54 ex12 ?_
          refine x_sipush C (v := 9999) dX8_move_57 (by decide) ?_
          refine x_icmp_lt C (tgt := 66) dX8_move_60 (by decide) (fun c13 => ?_) (fun c13 => ?_)
          · have h := ifP h c13
            refine x_aload_n C (i := 0) dX8_move_66 rfl rfl ?_
            obtain ⟨x14, ex14, h⟩ := ob h
            refine x_getR C fl_X8_25 dX8_move_67 ex14 ?_
            refine x_iload_n C (i := 1) dX8_move_70 rfl rfl ?_
            obtain ⟨r15, er15, h⟩ := ob h
            refine x_callVr C Z mv_X2_topOf lk_X8_137 (rv_h er15) (ct_X2_topOf er15) (by decide) rfl rfl (Nat.le_of_ble_eq_true rfl) dX8_move_71 ?_
            refine x_istore C (i := 4) (lo' := [some (.ref t0), some (.int p1), some (.int p2), some (.int (((4 : Int32) * p1) + p2)), some (.int r15)]) dX8_move_74 (by decide) rfl rfl ?_
            refine x_aload_n C (i := 0) dX8_move_76 rfl rfl ?_
            obtain ⟨x16, ex16, h⟩ := ob h
            refine x_getR C fl_X8_35 dX8_move_77 ex16 ?_
            refine x_aload_n C (i := 0) dX8_move_80 rfl rfl ?_
            obtain ⟨x17, ex17, h⟩ := ob h
            refine x_getR C fl_X8_25 dX8_move_81 ex17 ?_
            obtain ⟨r18, er18, h⟩ := ob h
            refine x_callVn C Z mv_X0_keep lk_X8_140 (rv_h er18) (ct_X0_keep er18) (by decide) rfl rfl (Nat.le_of_ble_eq_true rfl) dX8_move_84 ?_
            refine x_aload_n C (i := 0) dX8_move_87 rfl rfl ?_
            obtain ⟨x19, ex19, h⟩ := ob h
            refine x_getR C fl_X8_25 dX8_move_88 ex19 ?_
            refine x_iload_n C (i := 3) dX8_move_91 rfl rfl ?_
            obtain ⟨r20, er20, h⟩ := ob h
            refine x_callVn C Z mv_X2_carryOut lk_X8_143 (rv_h er20) (ct_X2_carryOut er20) (by decide) rfl rfl (Nat.le_of_ble_eq_true rfl) dX8_move_92 ?_
            refine x_iload C (i := 4) dX8_move_95 rfl ?_
            exact x_iret C E dX8_move_97 (hE (r15, r20) (Option.some.inj h).symm)
          · have h := ifN h c13
            refine x_ldc C kc_X8_103 dX8_move_63 ?_
            exact x_iret C E dX8_move_65 (hE ((-1000003), σ) (Option.some.inj h).symm)
        · have h := ifP h c10
          refine x_ldc C kc_X8_133 dX8_move_47 ?_
          exact x_iret C E dX8_move_49 (hE ((-1000002), σ) (Option.some.inj h).symm)
      · have h := ifP h c7
        refine x_ldc C kc_X8_55 dX8_move_27 ?_
        exact x_iret C E dX8_move_29 (hE ((-1000001), σ) (Option.some.inj h).symm)
theorem dX8_put_0 : decode cX8_put 0 = .ok (.aload_n 0, 1) := by decide +kernel
theorem dX8_put_1 : decode cX8_put 1 = .ok (.getfield 25, 3) := by decide +kernel
theorem dX8_put_4 : decode cX8_put 4 = .ok (.iload_n 1, 1) := by decide +kernel
theorem dX8_put_5 : decode cX8_put 5 = .ok (.invokevirtual 147, 3) := by decide +kernel
theorem dX8_put_8 : decode cX8_put 8 = .ok (.ifCond .eq 14, 3) := by decide +kernel
theorem dX8_put_11 : decode cX8_put 11 = .ok (.aload_n 0, 1) := by decide +kernel
theorem dX8_put_12 : decode cX8_put 12 = .ok (.getfield 25, 3) := by decide +kernel
theorem dX8_put_15 : decode cX8_put 15 = .ok (.iload_n 2, 1) := by decide +kernel
theorem dX8_put_16 : decode cX8_put 16 = .ok (.invokevirtual 127, 3) := by decide +kernel
theorem dX8_put_19 : decode cX8_put 19 = .ok (.ifCond .ne 6, 3) := by decide +kernel
theorem dX8_put_22 : decode cX8_put 22 = .ok (.ldc 55, 2) := by decide +kernel
theorem dX8_put_24 : decode cX8_put 24 = .ok (.ireturn, 1) := by decide +kernel
theorem dX8_put_25 : decode cX8_put 25 = .ok (.aload_n 0, 1) := by decide +kernel
theorem dX8_put_26 : decode cX8_put 26 = .ok (.getfield 25, 3) := by decide +kernel
theorem dX8_put_29 : decode cX8_put 29 = .ok (.iload_n 1, 1) := by decide +kernel
theorem dX8_put_30 : decode cX8_put 30 = .ok (.invokevirtual 150, 3) := by decide +kernel
theorem dX8_put_33 : decode cX8_put 33 = .ok (.istore_n 3, 1) := by decide +kernel
theorem dX8_put_34 : decode cX8_put 34 = .ok (.iload_n 3, 1) := by decide +kernel
theorem dX8_put_35 : decode cX8_put 35 = .ok (.iload_n 2, 1) := by decide +kernel
theorem dX8_put_36 : decode cX8_put 36 = .ok (.if_icmp .ne 6, 3) := by decide +kernel
theorem dX8_put_39 : decode cX8_put 39 = .ok (.ldc 133, 2) := by decide +kernel
theorem dX8_put_41 : decode cX8_put 41 = .ok (.ireturn, 1) := by decide +kernel
theorem dX8_put_42 : decode cX8_put 42 = .ok (.aload_n 0, 1) := by decide +kernel
theorem dX8_put_43 : decode cX8_put 43 = .ok (.getfield 35, 3) := by decide +kernel
theorem dX8_put_46 : decode cX8_put 46 = .ok (.aload_n 0, 1) := by decide +kernel
theorem dX8_put_47 : decode cX8_put 47 = .ok (.getfield 25, 3) := by decide +kernel
theorem dX8_put_50 : decode cX8_put 50 = .ok (.invokevirtual 140, 3) := by decide +kernel
theorem dX8_put_53 : decode cX8_put 53 = .ok (.aload_n 0, 1) := by decide +kernel
theorem dX8_put_54 : decode cX8_put 54 = .ok (.getfield 25, 3) := by decide +kernel
theorem dX8_put_57 : decode cX8_put 57 = .ok (.iload_n 1, 1) := by decide +kernel
theorem dX8_put_58 : decode cX8_put 58 = .ok (.iload_n 2, 1) := by decide +kernel
theorem dX8_put_59 : decode cX8_put 59 = .ok (.invokevirtual 153, 3) := by decide +kernel
theorem dX8_put_62 : decode cX8_put 62 = .ok (.iload_n 3, 1) := by decide +kernel
theorem dX8_put_63 : decode cX8_put 63 = .ok (.ireturn, 1) := by decide +kernel
def m_X8_put (N : Nat) (σ : Hp) (t0 : Nat) (p1 : Int32) (p2 : Int32) : Option (Int32 × Hp) :=
  (rv N σ t0 8).bind fun _ =>
  (gR N σ t0 8 2).bind fun x1 =>
  (m_X2_hasDisc N σ x1 p1).bind fun r2 =>
  if r2 = 0 then
   some ((-1000001), σ)
  else
   (gR N σ t0 8 2).bind fun x4 =>
  (m_X2_hasPeg N σ x4 p2).bind fun r5 =>
  if r5 = 0 then
   some ((-1000001), σ)
  else
   (gR N σ t0 8 2).bind fun x7 =>
  (m_X2_pegOf N σ x7 p1).bind fun r8 =>
  if r8 = p2 then
   some ((-1000002), σ)
  else
   (gR N σ t0 8 4).bind fun x10 =>
  (gR N σ t0 8 2).bind fun x11 =>
  (m_X0_keep N σ x10 x11).bind fun r12 =>
  (gR N r12 t0 8 2).bind fun x13 =>
  (m_X2_layBy N r12 x13 p1 p2).bind fun r14 =>
  some (r8, r14)
set_option maxHeartbeats 4000000 in
set_option maxRecDepth 100000 in
theorem ct_X8_put {l : Launch} {D : va_G} {cy : Nat → Nat} {N : Nat} {σ : Hp} {t0 : Nat} {p1 : Int32} {p2 : Int32} {r : Int32 × Hp} (h : m_X8_put N σ t0 p1 p2 = some r) : Ct l D cy yX8_put cX8_put 4 (some .int) 2 [.ref t0, .int p1, .int p2] N σ (fun v s' => v = (some (.int r.1)) ∧ s' = r.2) := by
  refine Ct.intro [some (.ref t0), some (.int p1), some (.int p2), none] (by decide) rfl (Nat.le_of_ble_eq_true rfl) ?_
  intro κ ω e1 e2 e3 e4 C Z E
  subst e1; subst e2; subst e3; subst e4
  have C : Cx κ 4 2 cX8_put RX8 "put" := C
  have hE : ∀ x : Int32 × Hp, r = x → ((some (Value.int x.1)) = (some (Value.int r.1)) ∧ x.2 = r.2) := fun x hx => by subst hx; exact ⟨rfl, rfl⟩
  unfold m_X8_put at h
  obtain ⟨_, _, h⟩ := ob h
  refine x_aload_n C (i := 0) dX8_put_0 rfl rfl ?_
  obtain ⟨x1, ex1, h⟩ := ob h
  refine x_getR C fl_X8_25 dX8_put_1 ex1 ?_
  refine x_iload_n C (i := 1) dX8_put_4 rfl rfl ?_
  obtain ⟨r2, er2, h⟩ := ob h
  refine x_callVr C Z mv_X2_hasDisc lk_X8_147 (rv_h er2) (ct_X2_hasDisc er2) (by decide) rfl rfl (Nat.le_of_ble_eq_true rfl) dX8_put_5 ?_
  refine x_if_eq C (tgt := 22) dX8_put_8 (by decide) (fun c3 => ?_) (fun c3 => ?_)
  · have h := ifP h c3
    refine x_ldc C kc_X8_55 dX8_put_22 ?_
    exact x_iret C E dX8_put_24 (hE ((-1000001), σ) (Option.some.inj h).symm)
  · have h := ifN h c3
    refine x_aload_n C (i := 0) dX8_put_11 rfl rfl ?_
    obtain ⟨x4, ex4, h⟩ := ob h
    refine x_getR C fl_X8_25 dX8_put_12 ex4 ?_
    refine x_iload_n C (i := 2) dX8_put_15 rfl rfl ?_
    obtain ⟨r5, er5, h⟩ := ob h
    refine x_callVr C Z mv_X2_hasPeg lk_X8_127 (rv_h er5) (ct_X2_hasPeg er5) (by decide) rfl rfl (Nat.le_of_ble_eq_true rfl) dX8_put_16 ?_
    refine x_if_ne C (tgt := 25) dX8_put_19 (by decide) (fun c6 => ?_) (fun c6 => ?_)
    · have h := ifN h c6
      refine x_aload_n C (i := 0) dX8_put_25 rfl rfl ?_
      obtain ⟨x7, ex7, h⟩ := ob h
      refine x_getR C fl_X8_25 dX8_put_26 ex7 ?_
      refine x_iload_n C (i := 1) dX8_put_29 rfl rfl ?_
      obtain ⟨r8, er8, h⟩ := ob h
      refine x_callVr C Z mv_X2_pegOf lk_X8_150 (rv_h er8) (ct_X2_pegOf er8) (by decide) rfl rfl (Nat.le_of_ble_eq_true rfl) dX8_put_30 ?_
      refine x_istore_n C (i := 3) (lo' := [some (.ref t0), some (.int p1), some (.int p2), some (.int r8)]) dX8_put_33 rfl (by decide) rfl rfl ?_
      refine x_iload_n C (i := 3) dX8_put_34 rfl rfl ?_
      refine x_iload_n C (i := 2) dX8_put_35 rfl rfl ?_
      refine x_icmp_ne C (tgt := 42) dX8_put_36 (by decide) (fun c9 => ?_) (fun c9 => ?_)
      · have h := ifN h c9
        refine x_aload_n C (i := 0) dX8_put_42 rfl rfl ?_
        obtain ⟨x10, ex10, h⟩ := ob h
        refine x_getR C fl_X8_35 dX8_put_43 ex10 ?_
        refine x_aload_n C (i := 0) dX8_put_46 rfl rfl ?_
        obtain ⟨x11, ex11, h⟩ := ob h
        refine x_getR C fl_X8_25 dX8_put_47 ex11 ?_
        obtain ⟨r12, er12, h⟩ := ob h
        refine x_callVn C Z mv_X0_keep lk_X8_140 (rv_h er12) (ct_X0_keep er12) (by decide) rfl rfl (Nat.le_of_ble_eq_true rfl) dX8_put_50 ?_
        refine x_aload_n C (i := 0) dX8_put_53 rfl rfl ?_
        obtain ⟨x13, ex13, h⟩ := ob h
        refine x_getR C fl_X8_25 dX8_put_54 ex13 ?_
        refine x_iload_n C (i := 1) dX8_put_57 rfl rfl ?_
        refine x_iload_n C (i := 2) dX8_put_58 rfl rfl ?_
        obtain ⟨r14, er14, h⟩ := ob h
        refine x_callVn C Z mv_X2_layBy lk_X8_153 (rv_h er14) (ct_X2_layBy er14) (by decide) rfl rfl (Nat.le_of_ble_eq_true rfl) dX8_put_59 ?_
        refine x_iload_n C (i := 3) dX8_put_62 rfl rfl ?_
        exact x_iret C E dX8_put_63 (hE (r8, r14) (Option.some.inj h).symm)
      · have h := ifP h c9
        refine x_ldc C kc_X8_133 dX8_put_39 ?_
        exact x_iret C E dX8_put_41 (hE ((-1000002), σ) (Option.some.inj h).symm)
    · have h := ifP h c6
      refine x_ldc C kc_X8_55 dX8_put_22 ?_
      exact x_iret C E dX8_put_24 (hE ((-1000001), σ) (Option.some.inj h).symm)
